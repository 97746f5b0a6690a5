def wp_M_lockWinners_255 (F : Nat) (o0 : Nat) (Q : Int32 → om_M → Prop)  (K223 : om_M × Int32 × Int32 → Prop) (M : om_M) (x4 : Int32) (t0 : Int32) : Prop := K223 (M, t0, x4 + 1)
def wp_M_lockWinners_223b (F : Nat) (o0 : Nat) (Q : Int32 → om_M → Prop)   (K223 : om_M × Int32 × Int32 → Prop) (M : om_M) (x3 : Int32) (x4 : Int32) : Prop := ((49 ≤ x4 → Q x3 M) ∧ (¬ 49 ≤ x4 → vp_in x4 49 ∧ (((M.1 (o0 + 13) x4.toNatClampNeg) = 0 → wp_M_lockWinners_255 F o0 Q K223 M x4 x3) ∧ (¬ (M.1 (o0 + 13) x4.toNatClampNeg) = 0 → wp_M_lockWinners_255 F o0 Q K223 M x4 (x3 &&& (((1 : Int32) <<< ((x4 - x4 / 7 * 7) &&& 31)) ^^^ (-1)))))))
def wp_M_lockWinners_223 (F : Nat) (o0 : Nat) (Q : Int32 → om_M → Prop)   (M : om_M) (x3 : Int32) (x4 : Int32) : Prop := ow_lp (fun (z : om_M × Int32 × Int32) K => wp_M_lockWinners_223b F o0 Q   K z.1 z.2.1 z.2.2) F (M, x3, x4)
def wp_M_lockWinners_215 (F : Nat) (o0 : Nat) (Q : Int32 → om_M → Prop)   (M : om_M)   : Prop := wp_M_all F o0 M (fun r3 M2 => wp_M_lockWinners_223 F o0 Q M2 r3 0)
def wp_M_lockWinners_209 (F : Nat) (o0 : Nat) (Q : Int32 → om_M → Prop)  (K25 : om_M × Int64 × Int32 → Prop) (M : om_M) (j1 : Int64) (x3 : Int32)  : Prop := K25 (M, j1, x3 + 1)
def wp_M_lockWinners_208 (F : Nat) (o0 : Nat) (Q : Int32 → om_M → Prop)  (K25 : om_M × Int64 × Int32 → Prop) (M : om_M) (j1 : Int64) (x3 : Int32) (t0 : Nat) (t1 : Int32) (t2 : Int32) : Prop := vp_in t1 49 ∧ vp_nar .boolean t2 = t2 ∧ wp_M_lockWinners_209 F o0 Q K25 (om_up M t0 t1.toNatClampNeg t2) j1 x3
def wp_M_lockWinners_168 (F : Nat) (o0 : Nat) (Q : Int32 → om_M → Prop)  (K25 : om_M × Int64 × Int32 → Prop) (M : om_M) (j1 : Int64) (x3 : Int32) (x4 : Int32)  : Prop := ((x4 < 0 → wp_M_lockWinners_209 F o0 Q K25 M j1 x3) ∧ (¬ x4 < 0 → wp_M_leads F o0 (x4 - x4 / 7 * 7) (x4 / 7) M (fun r7 M6 => ((r7 = 0 → wp_M_lockWinners_208 F o0 Q K25 M6 (j1 ||| (1 <<< ((x4 : Int32).toInt64 &&& 63))) x3 (o0 + 13) x4 1) ∧ (¬ r7 = 0 → wp_M_lockWinners_208 F o0 Q K25 M6 (j1 ||| (1 <<< ((x4 : Int32).toInt64 &&& 63))) x3 (o0 + 13) x4 0)))))
def wp_M_lockWinners_160 (F : Nat) (o0 : Nat) (Q : Int32 → om_M → Prop) (j1 : Int64) (x3 : Int32) (K25 : om_M × Int64 × Int32 → Prop) (K37 : om_M × Int32 × Int32 → Prop) (M : om_M) (x5 : Int32) (t0 : Int32) : Prop := K37 (M, t0, x5 + 1)
def wp_M_lockWinners_158 (F : Nat) (o0 : Nat) (Q : Int32 → om_M → Prop) (j1 : Int64) (x3 : Int32) (K25 : om_M × Int64 × Int32 → Prop) (K37 : om_M × Int32 × Int32 → Prop) (M : om_M) (x4 : Int32) (x5 : Int32)  : Prop := wp_M_lockWinners_160 F o0 Q j1 x3 K25 K37 M x5 x4
def wp_M_lockWinners_153 (F : Nat) (o0 : Nat) (Q : Int32 → om_M → Prop) (j1 : Int64) (x3 : Int32) (K25 : om_M × Int64 × Int32 → Prop) (K37 : om_M × Int32 × Int32 → Prop) (M : om_M) (x5 : Int32)  : Prop := wp_M_lockWinners_160 F o0 Q j1 x3 K25 K37 M x5 x5
def wp_M_lockWinners_114 (F : Nat) (o0 : Nat) (Q : Int32 → om_M → Prop) (j1 : Int64) (x3 : Int32) (K25 : om_M × Int64 × Int32 → Prop) (K37 : om_M × Int32 × Int32 → Prop) (M : om_M) (x4 : Int32) (x5 : Int32) (t0 : Int32) : Prop := ((t0 = 0 → wp_M_lockWinners_158 F o0 Q j1 x3 K25 K37 M x4 x5) ∧ (¬ t0 = 0 → ((x4 < 0 → wp_M_lockWinners_153 F o0 Q j1 x3 K25 K37 M x5) ∧ (¬ x4 < 0 → wp_M_sooner F o0 (x5 / 7) (x5 - x5 / 7 * 7) (x4 / 7) (x4 - x4 / 7 * 7) M (fun r9 M8 => ((r9 = 0 → wp_M_lockWinners_158 F o0 Q j1 x3 K25 K37 M8 x4 x5) ∧ (¬ r9 = 0 → wp_M_lockWinners_153 F o0 Q j1 x3 K25 K37 M8 x5)))))))
def wp_M_lockWinners_113 (F : Nat) (o0 : Nat) (Q : Int32 → om_M → Prop) (j1 : Int64) (x3 : Int32) (K25 : om_M × Int64 × Int32 → Prop) (K37 : om_M × Int32 × Int32 → Prop) (M : om_M) (x4 : Int32) (x5 : Int32)  : Prop := wp_M_lockWinners_114 F o0 Q j1 x3 K25 K37 M x4 x5 0
def wp_M_lockWinners_37b (F : Nat) (o0 : Nat) (Q : Int32 → om_M → Prop) (j1 : Int64) (x3 : Int32) (K25 : om_M × Int64 × Int32 → Prop) (K37 : om_M × Int32 × Int32 → Prop) (M : om_M) (x4 : Int32) (x5 : Int32) : Prop := ((49 ≤ x5 → wp_M_lockWinners_168 F o0 Q K25 M j1 x3 x4) ∧ (¬ 49 ≤ x5 → (((M.1 o0 8) ≤ (x5 / 7) → wp_M_lockWinners_113 F o0 Q j1 x3 K25 K37 M x4 x5) ∧ (¬ (M.1 o0 8) ≤ (x5 / 7) → (((M.1 o0 8) ≤ (x5 - x5 / 7 * 7) → wp_M_lockWinners_113 F o0 Q j1 x3 K25 K37 M x4 x5) ∧ (¬ (M.1 o0 8) ≤ (x5 - x5 / 7 * 7) → (((x5 / 7) = (x5 - x5 / 7 * 7) → wp_M_lockWinners_113 F o0 Q j1 x3 K25 K37 M x4 x5) ∧ (¬ (x5 / 7) = (x5 - x5 / 7 * 7) → wp_M_beats F o0 (x5 / 7) (x5 - x5 / 7 * 7) M (fun r11 M10 => ((r11 = 0 → wp_M_lockWinners_113 F o0 Q j1 x3 K25 K37 M10 x4 x5) ∧ (¬ r11 = 0 → ((((j1 >>> ((x5 : Int32).toInt64 &&& 63)) &&& 1) = 0 → wp_M_lockWinners_114 F o0 Q j1 x3 K25 K37 M10 x4 x5 1) ∧ (¬ ((j1 >>> ((x5 : Int32).toInt64 &&& 63)) &&& 1) = 0 → wp_M_lockWinners_113 F o0 Q j1 x3 K25 K37 M10 x4 x5)))))))))))))
def wp_M_lockWinners_37 (F : Nat) (o0 : Nat) (Q : Int32 → om_M → Prop) (j1 : Int64) (x3 : Int32) (K25 : om_M × Int64 × Int32 → Prop) (M : om_M) (x4 : Int32) (x5 : Int32) : Prop := ow_lp (fun (z : om_M × Int32 × Int32) K => wp_M_lockWinners_37b F o0 Q j1 x3 K25 K z.1 z.2.1 z.2.2) F (M, x4, x5)
def wp_M_lockWinners_25b (F : Nat) (o0 : Nat) (Q : Int32 → om_M → Prop)   (K25 : om_M × Int64 × Int32 → Prop) (M : om_M) (j1 : Int64) (x3 : Int32) : Prop := ((49 ≤ x3 → wp_M_lockWinners_215 F o0 Q M) ∧ (¬ 49 ≤ x3 → wp_M_lockWinners_37 F o0 Q j1 x3 K25 M (-1) 0))
def wp_M_lockWinners_25 (F : Nat) (o0 : Nat) (Q : Int32 → om_M → Prop)   (M : om_M) (j1 : Int64) (x3 : Int32) : Prop := ow_lp (fun (z : om_M × Int64 × Int32) K => wp_M_lockWinners_25b F o0 Q   K z.1 z.2.1 z.2.2) F (M, j1, x3)
def wp_M_lockWinners_21 (F : Nat) (o0 : Nat) (Q : Int32 → om_M → Prop)   (M : om_M)   : Prop := wp_M_lockWinners_25 F o0 Q M 0 0
def wp_M_lockWinners_2b (F : Nat) (o0 : Nat) (Q : Int32 → om_M → Prop)   (K2 : om_M × Int32 → Prop) (M : om_M) (x1 : Int32) : Prop := ((49 ≤ x1 → wp_M_lockWinners_21 F o0 Q M) ∧ (¬ 49 ≤ x1 → vp_in x1 49 ∧ K2 (om_up M (o0 + 13) x1.toNatClampNeg 0, x1 + 1)))
def wp_M_lockWinners_2 (F : Nat) (o0 : Nat) (Q : Int32 → om_M → Prop)   (M : om_M) (x1 : Int32) : Prop := ow_lp (fun (z : om_M × Int32) K => wp_M_lockWinners_2b F o0 Q   K z.1 z.2) F (M, x1)
def wp_M_lockWinners (F : Nat) (o0 : Nat) (M : om_M) (Q : Int32 → om_M → Prop) : Prop := wp_M_lockWinners_2 F o0 Q M 0
def wp_M_over_43 (F : Nat) (o0 : Nat) (x1 : Int32) (x2 : Int32) (Q : Int64 → om_M → Prop)  (K5 : om_M × Int64 × Int32 → Prop) (M : om_M) (x5 : Int32) (t0 : Int64) : Prop := K5 (M, t0, x5 + 1)
def wp_M_over_5b (F : Nat) (o0 : Nat) (x1 : Int32) (x2 : Int32) (Q : Int64 → om_M → Prop)   (K5 : om_M × Int64 × Int32 → Prop) (M : om_M) (j3 : Int64) (x5 : Int32) : Prop := (((M.1 o0 8) ≤ x5 → Q j3 M) ∧ (¬ (M.1 o0 8) ≤ x5 → ((((x2 >>> (x5 &&& 31)) &&& 1) = 1 → vp_in (((7 : Int32) * x5) + x1) 49 ∧ wp_M_over_43 F o0 x1 x2 Q K5 M x5 (j3 + ((M.1 (o0 + 11) (((7 : Int32) * x5) + x1).toNatClampNeg : Int32).toInt64))) ∧ (¬ ((x2 >>> (x5 &&& 31)) &&& 1) = 1 → wp_M_over_43 F o0 x1 x2 Q K5 M x5 j3))))
def wp_M_over_5 (F : Nat) (o0 : Nat) (x1 : Int32) (x2 : Int32) (Q : Int64 → om_M → Prop)   (M : om_M) (j3 : Int64) (x5 : Int32) : Prop := ow_lp (fun (z : om_M × Int64 × Int32) K => wp_M_over_5b F o0 x1 x2 Q   K z.1 z.2.1 z.2.2) F (M, j3, x5)
def wp_M_over (F : Nat) (o0 : Nat) (x1 : Int32) (x2 : Int32) (M : om_M) (Q : Int64 → om_M → Prop) : Prop := wp_M_over_5 F o0 x1 x2 Q M 0 0
def wp_M_findLeast_102 (F : Nat) (o0 : Nat) (Q : om_M → Prop)  (K9 : om_M × Int32 → Prop) (M : om_M) (x1 : Int32)  : Prop := K9 (M, x1 + 1)
def wp_M_findLeast_96 (F : Nat) (o0 : Nat) (Q : om_M → Prop) (x1 : Int32) (K9 : om_M × Int32 → Prop) (K21 : om_M × Int32 × Int32 → Prop) (M : om_M) (x2 : Int32) (x3 : Int32)  : Prop := K21 (M, x2, x3 + 1)
def wp_M_findLeast_93 (F : Nat) (o0 : Nat) (Q : om_M → Prop) (x1 : Int32) (K9 : om_M × Int32 → Prop) (K21 : om_M × Int32 × Int32 → Prop) (M : om_M) (x3 : Int32) (t0 : Nat) (t1 : Int32) (t2 : Int64) : Prop := vp_in t1 128 ∧ wp_M_findLeast_96 F o0 Q x1 K9 K21 (om_ul M t0 t1.toNatClampNeg t2) 0 x3
def wp_M_findLeast_82 (F : Nat) (o0 : Nat) (Q : om_M → Prop) (x1 : Int32) (K9 : om_M × Int32 → Prop) (K21 : om_M × Int32 × Int32 → Prop) (M : om_M) (x3 : Int32) (j5 : Int64) (t0 : Nat) (t1 : Int32) : Prop := wp_M_findLeast_93 F o0 Q x1 K9 K21 M x3 t0 t1 j5
def wp_M_findLeast_21b (F : Nat) (o0 : Nat) (Q : om_M → Prop) (x1 : Int32) (K9 : om_M × Int32 → Prop) (K21 : om_M × Int32 × Int32 → Prop) (M : om_M) (x2 : Int32) (x3 : Int32) : Prop := (((M.1 o0 8) ≤ x3 → wp_M_findLeast_102 F o0 Q K9 M x1) ∧ (¬ (M.1 o0 8) ≤ x3 → (((x1 &&& (((1 : Int32) <<< (x3 &&& 31)) ^^^ (-1))) = x1 → wp_M_findLeast_96 F o0 Q x1 K9 K21 M x2 x3) ∧ (¬ (x1 &&& (((1 : Int32) <<< (x3 &&& 31)) ^^^ (-1))) = x1 → wp_M_over F o0 x3 (x1 &&& (((1 : Int32) <<< (x3 &&& 31)) ^^^ (-1))) M (fun r3 M2 => vp_in (x1 &&& (((1 : Int32) <<< (x3 &&& 31)) ^^^ (-1))) 128 ∧ ((x2 = 0 → vp_in x1 128 ∧ (((r3 + (M2.2 (o0 + 15) (x1 &&& (((1 : Int32) <<< (x3 &&& 31)) ^^^ (-1))).toNatClampNeg)) < (M2.2 (o0 + 15) x1.toNatClampNeg) → wp_M_findLeast_82 F o0 Q x1 K9 K21 M2 x3 (r3 + (M2.2 (o0 + 15) (x1 &&& (((1 : Int32) <<< (x3 &&& 31)) ^^^ (-1))).toNatClampNeg)) (o0 + 15) x1) ∧ (¬ (r3 + (M2.2 (o0 + 15) (x1 &&& (((1 : Int32) <<< (x3 &&& 31)) ^^^ (-1))).toNatClampNeg)) < (M2.2 (o0 + 15) x1.toNatClampNeg) → wp_M_findLeast_93 F o0 Q x1 K9 K21 M2 x3 (o0 + 15) x1 (M2.2 (o0 + 15) x1.toNatClampNeg)))) ∧ (¬ x2 = 0 → wp_M_findLeast_82 F o0 Q x1 K9 K21 M2 x3 (r3 + (M2.2 (o0 + 15) (x1 &&& (((1 : Int32) <<< (x3 &&& 31)) ^^^ (-1))).toNatClampNeg)) (o0 + 15) x1)))))))
def wp_M_findLeast_21 (F : Nat) (o0 : Nat) (Q : om_M → Prop) (x1 : Int32) (K9 : om_M × Int32 → Prop) (M : om_M) (x2 : Int32) (x3 : Int32) : Prop := ow_lp (fun (z : om_M × Int32 × Int32) K => wp_M_findLeast_21b F o0 Q x1 K9 K z.1 z.2.1 z.2.2) F (M, x2, x3)
def wp_M_findLeast_9b (F : Nat) (o0 : Nat) (Q : om_M → Prop)   (K9 : om_M × Int32 → Prop) (M : om_M) (x1 : Int32) : Prop := wp_M_all F o0 M (fun r7 M6 => ((r7 < x1 → Q M6) ∧ (¬ r7 < x1 → wp_M_findLeast_21 F o0 Q x1 K9 M6 1 0)))
def wp_M_findLeast_9 (F : Nat) (o0 : Nat) (Q : om_M → Prop)   (M : om_M) (x1 : Int32) : Prop := ow_lp (fun (z : om_M × Int32) K => wp_M_findLeast_9b F o0 Q   K z.1 z.2) F (M, x1)
def wp_M_findLeast (F : Nat) (o0 : Nat) (M : om_M) (Q : om_M → Prop) : Prop := vp_in 0 128 ∧ wp_M_findLeast_9 F o0 Q (om_ul M (o0 + 15) (0 : Int32).toNatClampNeg 0) 1
def wp_M_agreeing_62 (F : Nat) (o0 : Nat) (Q : Int32 → om_M → Prop)  (K8 : om_M × Int32 × Int32 → Prop) (M : om_M) (x2 : Int32) (t0 : Int32) : Prop := K8 (M, t0, x2 + 1)
def wp_M_agreeing_8b (F : Nat) (o0 : Nat) (Q : Int32 → om_M → Prop)   (K8 : om_M × Int32 × Int32 → Prop) (M : om_M) (x1 : Int32) (x2 : Int32) : Prop := (((M.1 o0 8) ≤ x2 → Q x1 M) ∧ (¬ (M.1 o0 8) ≤ x2 → wp_M_all F o0 M (fun r2 M1 => wp_M_over F o0 x2 (r2 &&& (((1 : Int32) <<< (x2 &&& 31)) ^^^ (-1))) M1 (fun r4 M3 => vp_in (r2 &&& (((1 : Int32) <<< (x2 &&& 31)) ^^^ (-1))) 128 ∧ wp_M_all F o0 M3 (fun r7 M6 => vp_in r7 128 ∧ (((r4 + (M3.2 (o0 + 15) (r2 &&& (((1 : Int32) <<< (x2 &&& 31)) ^^^ (-1))).toNatClampNeg)) = (M6.2 (o0 + 15) r7.toNatClampNeg) → wp_M_agreeing_62 F o0 Q K8 M6 x2 (x1 ||| ((1 : Int32) <<< (x2 &&& 31)))) ∧ (¬ (r4 + (M3.2 (o0 + 15) (r2 &&& (((1 : Int32) <<< (x2 &&& 31)) ^^^ (-1))).toNatClampNeg)) = (M6.2 (o0 + 15) r7.toNatClampNeg) → wp_M_agreeing_62 F o0 Q K8 M6 x2 x1)))))))
def wp_M_agreeing_8 (F : Nat) (o0 : Nat) (Q : Int32 → om_M → Prop)   (M : om_M) (x1 : Int32) (x2 : Int32) : Prop := ow_lp (fun (z : om_M × Int32 × Int32) K => wp_M_agreeing_8b F o0 Q   K z.1 z.2.1 z.2.2) F (M, x1, x2)
def wp_M_agreeing (F : Nat) (o0 : Nat) (M : om_M) (Q : Int32 → om_M → Prop) : Prop := wp_M_findLeast F o0 M (fun M9 => wp_M_agreeing_8 F o0 Q M9 0 0)
def wp_M_uncovered_131 (F : Nat) (o0 : Nat) (Q : Int32 → om_M → Prop)  (K7 : om_M × Int32 × Int32 → Prop) (M : om_M) (x1 : Int32) (x2 : Int32)  : Prop := K7 (M, x1, x2 + 1)
def wp_M_uncovered_124 (F : Nat) (o0 : Nat) (Q : Int32 → om_M → Prop) (x2 : Int32) (K7 : om_M × Int32 × Int32 → Prop) (K17 : om_M × Int32 × Int32 → Prop) (M : om_M) (x3 : Int32) (t0 : Int32) : Prop := K17 (M, t0, x3 + 1)
def wp_M_uncovered_108 (F : Nat) (o0 : Nat) (Q : Int32 → om_M → Prop) (x2 : Int32) (K7 : om_M × Int32 × Int32 → Prop) (K17 : om_M × Int32 × Int32 → Prop) (M : om_M) (x1 : Int32) (x3 : Int32) (x4 : Int32)  : Prop := ((x4 = 0 → wp_M_uncovered_124 F o0 Q x2 K7 K17 M x3 x1) ∧ (¬ x4 = 0 → wp_M_uncovered_124 F o0 Q x2 K7 K17 M x3 (x1 &&& (((1 : Int32) <<< (x3 &&& 31)) ^^^ (-1)))))
def wp_M_uncovered_100 (F : Nat) (o0 : Nat) (Q : Int32 → om_M → Prop) (x2 : Int32) (x1 : Int32) (x3 : Int32) (K7 : om_M × Int32 × Int32 → Prop) (K17 : om_M × Int32 × Int32 → Prop) (K49 : om_M × Int32 × Int32 → Prop) (M : om_M) (x5 : Int32) (t0 : Int32) : Prop := K49 (M, t0, x5 + 1)
def wp_M_uncovered_99 (F : Nat) (o0 : Nat) (Q : Int32 → om_M → Prop) (x2 : Int32) (x1 : Int32) (x3 : Int32) (K7 : om_M × Int32 × Int32 → Prop) (K17 : om_M × Int32 × Int32 → Prop) (K49 : om_M × Int32 × Int32 → Prop) (M : om_M) (x5 : Int32)  : Prop := wp_M_uncovered_100 F o0 Q x2 x1 x3 K7 K17 K49 M x5 0
def wp_M_uncovered_95 (F : Nat) (o0 : Nat) (Q : Int32 → om_M → Prop) (x2 : Int32) (x1 : Int32) (x3 : Int32) (K7 : om_M × Int32 × Int32 → Prop) (K17 : om_M × Int32 × Int32 → Prop) (K49 : om_M × Int32 × Int32 → Prop) (M : om_M) (x5 : Int32)  : Prop := wp_M_uncovered_100 F o0 Q x2 x1 x3 K7 K17 K49 M x5 1
def wp_M_uncovered_49b (F : Nat) (o0 : Nat) (Q : Int32 → om_M → Prop) (x2 : Int32) (x1 : Int32) (x3 : Int32) (K7 : om_M × Int32 × Int32 → Prop) (K17 : om_M × Int32 × Int32 → Prop) (K49 : om_M × Int32 × Int32 → Prop) (M : om_M) (x4 : Int32) (x5 : Int32) : Prop := (((M.1 o0 8) ≤ x5 → wp_M_uncovered_108 F o0 Q x2 K7 K17 M x1 x3 x4) ∧ (¬ (M.1 o0 8) ≤ x5 → ((x4 = 0 → wp_M_uncovered_99 F o0 Q x2 x1 x3 K7 K17 K49 M x5) ∧ (¬ x4 = 0 → ((x5 = x2 → wp_M_uncovered_95 F o0 Q x2 x1 x3 K7 K17 K49 M x5) ∧ (¬ x5 = x2 → ((x5 = x3 → wp_M_uncovered_95 F o0 Q x2 x1 x3 K7 K17 K49 M x5) ∧ (¬ x5 = x3 → wp_M_beats F o0 x3 x5 M (fun r2 M1 => ((r2 = 0 → wp_M_uncovered_95 F o0 Q x2 x1 x3 K7 K17 K49 M1 x5) ∧ (¬ r2 = 0 → wp_M_beats F o0 x2 x5 M1 (fun r4 M3 => ((r4 = 0 → wp_M_uncovered_99 F o0 Q x2 x1 x3 K7 K17 K49 M3 x5) ∧ (¬ r4 = 0 → wp_M_uncovered_95 F o0 Q x2 x1 x3 K7 K17 K49 M3 x5))))))))))))))
def wp_M_uncovered_49 (F : Nat) (o0 : Nat) (Q : Int32 → om_M → Prop) (x2 : Int32) (x1 : Int32) (x3 : Int32) (K7 : om_M × Int32 × Int32 → Prop) (K17 : om_M × Int32 × Int32 → Prop) (M : om_M) (x4 : Int32) (x5 : Int32) : Prop := ow_lp (fun (z : om_M × Int32 × Int32) K => wp_M_uncovered_49b F o0 Q x2 x1 x3 K7 K17 K z.1 z.2.1 z.2.2) F (M, x4, x5)
def wp_M_uncovered_44 (F : Nat) (o0 : Nat) (Q : Int32 → om_M → Prop) (x2 : Int32) (K7 : om_M × Int32 × Int32 → Prop) (K17 : om_M × Int32 × Int32 → Prop) (M : om_M) (x1 : Int32) (x3 : Int32) (t0 : Int32) : Prop := wp_M_uncovered_49 F o0 Q x2 x1 x3 K7 K17 M t0 0
def wp_M_uncovered_43 (F : Nat) (o0 : Nat) (Q : Int32 → om_M → Prop) (x2 : Int32) (K7 : om_M × Int32 × Int32 → Prop) (K17 : om_M × Int32 × Int32 → Prop) (M : om_M) (x1 : Int32) (x3 : Int32)  : Prop := wp_M_uncovered_44 F o0 Q x2 K7 K17 M x1 x3 0
def wp_M_uncovered_17b (F : Nat) (o0 : Nat) (Q : Int32 → om_M → Prop) (x2 : Int32) (K7 : om_M × Int32 × Int32 → Prop) (K17 : om_M × Int32 × Int32 → Prop) (M : om_M) (x1 : Int32) (x3 : Int32) : Prop := (((M.1 o0 8) ≤ x3 → wp_M_uncovered_131 F o0 Q K7 M x1 x2) ∧ (¬ (M.1 o0 8) ≤ x3 → ((x2 = x3 → wp_M_uncovered_43 F o0 Q x2 K7 K17 M x1 x3) ∧ (¬ x2 = x3 → wp_M_beats F o0 x2 x3 M (fun r6 M5 => ((r6 = 0 → wp_M_uncovered_43 F o0 Q x2 K7 K17 M5 x1 x3) ∧ (¬ r6 = 0 → wp_M_uncovered_44 F o0 Q x2 K7 K17 M5 x1 x3 1)))))))
def wp_M_uncovered_17 (F : Nat) (o0 : Nat) (Q : Int32 → om_M → Prop) (x2 : Int32) (K7 : om_M × Int32 × Int32 → Prop) (M : om_M) (x1 : Int32) (x3 : Int32) : Prop := ow_lp (fun (z : om_M × Int32 × Int32) K => wp_M_uncovered_17b F o0 Q x2 K7 K z.1 z.2.1 z.2.2) F (M, x1, x3)
def wp_M_uncovered_7b (F : Nat) (o0 : Nat) (Q : Int32 → om_M → Prop)   (K7 : om_M × Int32 × Int32 → Prop) (M : om_M) (x1 : Int32) (x2 : Int32) : Prop := (((M.1 o0 8) ≤ x2 → Q x1 M) ∧ (¬ (M.1 o0 8) ≤ x2 → wp_M_uncovered_17 F o0 Q x2 K7 M x1 0))
def wp_M_uncovered_7 (F : Nat) (o0 : Nat) (Q : Int32 → om_M → Prop)   (M : om_M) (x1 : Int32) (x2 : Int32) : Prop := ow_lp (fun (z : om_M × Int32 × Int32) K => wp_M_uncovered_7b F o0 Q   K z.1 z.2.1 z.2.2) F (M, x1, x2)
def wp_M_uncovered (F : Nat) (o0 : Nat) (M : om_M) (Q : Int32 → om_M → Prop) : Prop := wp_M_all F o0 M (fun r8 M7 => wp_M_uncovered_7 F o0 Q M7 r8 0)
def wp_M_byAgenda_72 (F : Nat) (o0 : Nat) (Q : Int32 → om_M → Prop)  (K9 : om_M × Int32 × Int32 → Prop) (M : om_M) (x2 : Int32) (t0 : Int32) : Prop := K9 (M, t0, x2 + 1)
def wp_M_byAgenda_60 (F : Nat) (o0 : Nat) (Q : Int32 → om_M → Prop)  (K9 : om_M × Int32 × Int32 → Prop) (M : om_M) (x1 : Int32) (x2 : Int32) (x3 : Int32) (t0 : Int32) : Prop := ((t0 = 0 → wp_M_byAgenda_72 F o0 Q K9 M x2 x1) ∧ (¬ t0 = 0 → wp_M_byAgenda_72 F o0 Q K9 M x2 x3))
def wp_M_byAgenda_59 (F : Nat) (o0 : Nat) (Q : Int32 → om_M → Prop)  (K9 : om_M × Int32 × Int32 → Prop) (M : om_M) (x1 : Int32) (x2 : Int32) (x3 : Int32)  : Prop := wp_M_byAgenda_60 F o0 Q K9 M x1 x2 x3 0
def wp_M_byAgenda_55 (F : Nat) (o0 : Nat) (Q : Int32 → om_M → Prop)  (K9 : om_M × Int32 × Int32 → Prop) (M : om_M) (x1 : Int32) (x2 : Int32) (x3 : Int32)  : Prop := wp_M_byAgenda_60 F o0 Q K9 M x1 x2 x3 1
def wp_M_byAgenda_9b (F : Nat) (o0 : Nat) (Q : Int32 → om_M → Prop)   (K9 : om_M × Int32 × Int32 → Prop) (M : om_M) (x1 : Int32) (x2 : Int32) : Prop := (((M.1 o0 8) ≤ x2 → Q ((1 : Int32) <<< (x1 &&& 31)) M) ∧ (¬ (M.1 o0 8) ≤ x2 → vp_in x2 7 ∧ wp_M_beats F o0 (M.1 (o0 + 9) x2.toNatClampNeg) x1 M (fun r3 M2 => ((r3 = 0 → wp_M_beats F o0 x1 (M.1 (o0 + 9) x2.toNatClampNeg) M2 (fun r5 M4 => ((r5 = 0 → wp_M_tiePlace F o0 (M.1 (o0 + 9) x2.toNatClampNeg) M4 (fun r7 M6 => wp_M_tiePlace F o0 x1 M6 (fun r9 M8 => ((r9 ≤ r7 → wp_M_byAgenda_59 F o0 Q K9 M8 x1 x2 (M.1 (o0 + 9) x2.toNatClampNeg)) ∧ (¬ r9 ≤ r7 → wp_M_byAgenda_55 F o0 Q K9 M8 x1 x2 (M.1 (o0 + 9) x2.toNatClampNeg)))))) ∧ (¬ r5 = 0 → wp_M_byAgenda_59 F o0 Q K9 M4 x1 x2 (M.1 (o0 + 9) x2.toNatClampNeg))))) ∧ (¬ r3 = 0 → wp_M_byAgenda_55 F o0 Q K9 M2 x1 x2 (M.1 (o0 + 9) x2.toNatClampNeg))))))
def wp_M_byAgenda_9 (F : Nat) (o0 : Nat) (Q : Int32 → om_M → Prop)   (M : om_M) (x1 : Int32) (x2 : Int32) : Prop := ow_lp (fun (z : om_M × Int32 × Int32) K => wp_M_byAgenda_9b F o0 Q   K z.1 z.2.1 z.2.2) F (M, x1, x2)
def wp_M_byAgenda (F : Nat) (o0 : Nat) (M : om_M) (Q : Int32 → om_M → Prop) : Prop := vp_in 0 7 ∧ wp_M_byAgenda_9 F o0 Q M (M.1 (o0 + 9) (0 : Int32).toNatClampNeg) 1
def wp_M_work (F : Nat) (o0 : Nat) (x1 : Int32) (M : om_M) (Q : Int32 → om_M → Prop) : Prop := wp_M_tally F o0 M (fun M1 => ((x1 = 0 → wp_M_extreme F o0 x1 1 M1 (fun r25 M24 => Q r25 M24)) ∧ (¬ x1 = 0 → ((x1 = 1 → wp_M_extreme F o0 x1 0 M1 (fun r23 M22 => Q r23 M22)) ∧ (¬ x1 = 1 → ((x1 = 2 → wp_M_extreme F o0 x1 1 M1 (fun r21 M20 => Q r21 M20)) ∧ (¬ x1 = 2 → ((x1 = 3 → wp_M_runoff F o0 M1 (fun r19 M18 => Q r19 M18)) ∧ (¬ x1 = 3 → ((x1 = 4 → wp_M_eliminate F o0 M1 (fun r17 M16 => Q r17 M16)) ∧ (¬ x1 = 4 → ((x1 = 5 → wp_M_extreme F o0 x1 0 M1 (fun r15 M14 => Q r15 M14)) ∧ (¬ x1 = 5 → ((x1 = 6 → wp_M_extreme F o0 x1 1 M1 (fun r13 M12 => Q r13 M12)) ∧ (¬ x1 = 6 → ((x1 = 7 → wp_M_pathWinners F o0 M1 (fun r11 M10 => Q r11 M10)) ∧ (¬ x1 = 7 → ((x1 = 8 → wp_M_lockWinners F o0 M1 (fun r9 M8 => Q r9 M8)) ∧ (¬ x1 = 8 → ((x1 = 9 → wp_M_agreeing F o0 M1 (fun r7 M6 => Q r7 M6)) ∧ (¬ x1 = 9 → ((x1 = 10 → wp_M_uncovered F o0 M1 (fun r5 M4 => Q r5 M4)) ∧ (¬ x1 = 10 → wp_M_byAgenda F o0 M1 (fun r3 M2 => Q r3 M2))))))))))))))))))))))))
abbrev rm_M_lockWinners : Room := { frames := 2, cells := 0, slots := 0, locals := 48 }
theorem hd_M_lockWinners : yn_M_lockWinners.cls ≠ "java/lang/invoke/MethodHandle" ∧ yn_M_lockWinners.cls ≠ "java/lang/invoke/VarHandle" ∧ (parseMethodDescriptor yn_M_lockWinners.desc).map (fun d => d.parameters.length) = some 0 := by decide +kernel
set_option maxHeartbeats 4000000 in
set_option maxRecDepth 100000 in
theorem ct_M_lockWinners (l : Launch) (G : List (Nat × Nat)) (hG : ow_lay G) (D : va_G) (cA : Nat → ClassId) (ad : Nat → Nat) (F : Nat) (o0 : Nat) (k0 : ow_kd G o0 = (3, 9)) (M : om_M) (Q : Int32 → om_M → Prop) (h : wp_M_lockWinners F o0 M Q) : Met l yn_M_lockWinners (ow_ws yn_M_lockWinners cb_M_lockWinners 7 (some .int)) rm_M_lockWinners (ow_Pc G D cA ad M [.ref (ad o0)]) (ow_Qi G D cA ad Q) 0 0 (ow_A G ad) := by
  refine Met.ofW (cc := cb_M_lockWinners) (maxL := 7) (ret := (some .int)) (by decide) rfl ?_
  intro p e s m args below meth c s₁ B hml hv
  obtain ⟨rfl, hB⟩ := hv
  have hx := B.exec
  have hb := B.bytes
  have hr := B.returns
  have hlocks := B.notSynchronized
  have hts : ∀ w ∈ lw_g, w.before ([.ref (ad o0)] : List Value).toArray s = true := fun w h => atoms_spec (ws := ow_ws yn_M_lockWinners cb_M_lockWinners 7 (some .int)) B.pre w (List.mem_cons_of_mem _ h)
  have hown : s.vm.findClass "BallotDeskModel" = some m.cls := findClass_of_methodNamed B.named
  clear B
  have L255 : ∀  (K223 : om_M × Int32 × Int32 → Prop) (hK223 : ∀ (M : om_M) (x3 : Int32) (x4 : Int32) (H : Heap) (locs : List Loc) (ls : Array Slot), K223 (M, x3, x4) → ow_B G D cA ad (ow_A G ad) M s s.heap H locs → lv_has ls 7 [(0, .ref (ad o0)), (3, .int x3), (4, .int x4)] → W p l e rm_M_lockWinners s m ([.ref (ad o0)] : List Value).toArray below meth c H locs 0 0 (MQ below (ow_Qi G D cA ad Q) ([.ref (ad o0)] : List Value).toArray s 0 0 (ow_A G ad)) (F0 m 223 ls [])) (M : om_M) (x4 : Int32) (t0 : Int32) (H : Heap) (locs : List Loc) (ls : Array Slot), wp_M_lockWinners_255 F o0 Q  K223 M x4 t0 → ow_B G D cA ad (ow_A G ad) M s s.heap H locs → lv_has ls 7 [(0, .ref (ad o0)), (4, .int x4)] → W p l e rm_M_lockWinners s m ([.ref (ad o0)] : List Value).toArray below meth c H locs 0 0 (MQ below (ow_Qi G D cA ad Q) ([.ref (ad o0)] : List Value).toArray s 0 0 (ow_A G ad)) (F0 m 255 ls [.int t0]) := by
    intro  K223 hK223 M x4 t0 H locs ls h hB hl
    refine lv_istore_n hx hb dc_M_lockWinners_255 rfl hl (by decide) rfl (fun ls hl => ?_)
    refine lv_iinc hx hb dc_M_lockWinners_256 hl (k := 2) rfl rfl (by decide) rfl (fun ls hl => ?_)
    refine lv_goto hx hb dc_M_lockWinners_259 rfl ?_
    exact hK223 _ _ _ _ _ _ h hB (lv_sub hl [2, 1, 0] rfl)
  have B223 : ∀   (K223 : om_M × Int32 × Int32 → Prop) (hK223 : ∀ (M : om_M) (x3 : Int32) (x4 : Int32) (H : Heap) (locs : List Loc) (ls : Array Slot), K223 (M, x3, x4) → ow_B G D cA ad (ow_A G ad) M s s.heap H locs → lv_has ls 7 [(0, .ref (ad o0)), (3, .int x3), (4, .int x4)] → W p l e rm_M_lockWinners s m ([.ref (ad o0)] : List Value).toArray below meth c H locs 0 0 (MQ below (ow_Qi G D cA ad Q) ([.ref (ad o0)] : List Value).toArray s 0 0 (ow_A G ad)) (F0 m 223 ls [])) (M : om_M) (x3 : Int32) (x4 : Int32) (H : Heap) (locs : List Loc) (ls : Array Slot), wp_M_lockWinners_223b F o0 Q   K223 M x3 x4 → ow_B G D cA ad (ow_A G ad) M s s.heap H locs → lv_has ls 7 [(0, .ref (ad o0)), (3, .int x3), (4, .int x4)] → W p l e rm_M_lockWinners s m ([.ref (ad o0)] : List Value).toArray below meth c H locs 0 0 (MQ below (ow_Qi G D cA ad Q) ([.ref (ad o0)] : List Value).toArray s 0 0 (ow_A G ad)) (F0 m 223 ls []) := by
    intro   K223 hK223 M x3 x4 H locs ls h hB hl
    refine lv_iload hx hb dc_M_lockWinners_223 (lv_at hl 2 rfl) ?_
    refine lv_bipush (v := 49) hx hb dc_M_lockWinners_225 rfl ?_
    obtain ⟨h1, h2⟩ := h
    refine lv_icmp_ge hx hb dc_M_lockWinners_227 rfl (fun hc => ?_) (fun hc => ?_)
    · have h := h1 hc
      refine lv_iload_n hx hb dc_M_lockWinners_262 rfl (lv_at hl 1 rfl) ?_
      exact ow_iret hx hb hr hlocks hB h dc_M_lockWinners_263
    · have h := h2 hc
      refine lv_aload_n hx hb dc_M_lockWinners_230 rfl (lv_at hl 0 rfl) ?_
      refine ow_get hx hb hts iw_M hown hB k0 rfl 17 (by decide) mw_814 rfl dc_M_lockWinners_231 ?_
      refine lv_iload hx hb dc_M_lockWinners_234 (lv_at hl 2 rfl) ?_
      obtain ⟨hi1, h⟩ := h
      refine ow_zald hx hb hB (ly_M_locked hG k0) hi1 dc_M_lockWinners_236 ?_
      obtain ⟨h1, h2⟩ := h
      refine lv_if_eq hx hb dc_M_lockWinners_237 rfl (fun hc => ?_) (fun hc => ?_)
      · have h := h1 hc
        refine lv_iload_n hx hb dc_M_lockWinners_254 rfl (lv_at hl 1 rfl) ?_
        exact L255 K223 hK223 _ _ _ _ _ _ h hB (lv_sub hl [0, 2] rfl)
      · have h := h2 hc
        refine lv_iload_n hx hb dc_M_lockWinners_240 rfl (lv_at hl 1 rfl) ?_
        refine lv_iconst (v := 1) hx hb dc_M_lockWinners_241 rfl ?_
        refine lv_iload hx hb dc_M_lockWinners_242 (lv_at hl 2 rfl) ?_
        refine lv_bipush (v := 7) hx hb dc_M_lockWinners_244 rfl ?_
        refine lv_irem hx hb dc_M_lockWinners_246 (by decide) ?_
        refine lv_ishl hx hb dc_M_lockWinners_247 ?_
        refine lv_iconst (v := (-1)) hx hb dc_M_lockWinners_248 rfl ?_
        refine lv_ixor hx hb dc_M_lockWinners_249 ?_
        refine lv_iand hx hb dc_M_lockWinners_250 ?_
        refine lv_goto hx hb dc_M_lockWinners_251 rfl ?_
        exact L255 K223 hK223 _ _ _ _ _ _ h hB (lv_sub hl [0, 2] rfl)
  have L223 : ∀   (M : om_M) (x3 : Int32) (x4 : Int32) (H : Heap) (locs : List Loc) (ls : Array Slot), wp_M_lockWinners_223 F o0 Q   M x3 x4 → ow_B G D cA ad (ow_A G ad) M s s.heap H locs → lv_has ls 7 [(0, .ref (ad o0)), (3, .int x3), (4, .int x4)] → W p l e rm_M_lockWinners s m ([.ref (ad o0)] : List Value).toArray below meth c H locs 0 0 (MQ below (ow_Qi G D cA ad Q) ([.ref (ad o0)] : List Value).toArray s 0 0 (ow_A G ad)) (F0 m 223 ls []) := by
    have step : ∀ (k : Nat) (M : om_M) (x3 : Int32) (x4 : Int32) (H : Heap) (locs : List Loc) (ls : Array Slot), ow_lp (fun (z : om_M × Int32 × Int32) K => wp_M_lockWinners_223b F o0 Q   K z.1 z.2.1 z.2.2) k (M, x3, x4) → ow_B G D cA ad (ow_A G ad) M s s.heap H locs → lv_has ls 7 [(0, .ref (ad o0)), (3, .int x3), (4, .int x4)] → W p l e rm_M_lockWinners s m ([.ref (ad o0)] : List Value).toArray below meth c H locs 0 0 (MQ below (ow_Qi G D cA ad Q) ([.ref (ad o0)] : List Value).toArray s 0 0 (ow_A G ad)) (F0 m 223 ls []) := by
      intro k
      induction k with
      | zero => intro M x3 x4 H locs ls h hB hl; exact False.elim h
      | succ k ih => intro M x3 x4 H locs ls h hB hl; exact B223   (ow_lp _ k) (fun M x3 x4 H locs ls h hB  hl => ih M x3 x4  H locs ls h hB hl) M x3 x4 H locs ls h hB hl
    intro M x3 x4 H locs ls h hB hl
    exact step F M x3 x4 H locs ls h hB hl
  have L215 : ∀   (M : om_M)   (H : Heap) (locs : List Loc) (ls : Array Slot), wp_M_lockWinners_215 F o0 Q   M   → ow_B G D cA ad (ow_A G ad) M s s.heap H locs → lv_has ls 7 [(0, .ref (ad o0))] → W p l e rm_M_lockWinners s m ([.ref (ad o0)] : List Value).toArray below meth c H locs 0 0 (MQ below (ow_Qi G D cA ad Q) ([.ref (ad o0)] : List Value).toArray s 0 0 (ow_A G ad)) (F0 m 215 ls []) := by
    intro   M H locs ls h hB hl
    refine lv_aload_n hx hb dc_M_lockWinners_215 rfl (lv_at hl 0 rfl) ?_
    refine ow_calli (va_runV (As := []) (rest := []) ⟨hx, hb, hml, hown, hts⟩ (ct_M_all l G hG D cA ad F _ k0 _ _ h) ⟨ow_cb 0 hts mw_957 mw_12 mw_954 rfl rfl hd_M_all ⟨Nat.le_of_ble_eq_true rfl, Nat.le_of_ble_eq_true rfl⟩, hts _ mw_956, hts _ ms_28⟩ (ow_preV hB k0 rfl) rfl rfl hl.1 rfl (lv_room (Nat.le_of_ble_eq_true rfl)) dc_M_lockWinners_216 ⟨Nat.zero_le _, Nat.zero_le _⟩) hB (fun r3 M2 H locs h hB => ?_)
    refine lv_istore_n hx hb dc_M_lockWinners_219 rfl hl (by decide) rfl (fun ls hl => ?_)
    refine lv_iconst (v := 0) hx hb dc_M_lockWinners_220 rfl ?_
    refine lv_istore hx hb dc_M_lockWinners_221 hl (by decide) rfl (fun ls hl => ?_)
    exact L223 _ _ _ _ _ _ h hB (lv_sub hl [2, 1, 0] rfl)
  have L209 : ∀  (K25 : om_M × Int64 × Int32 → Prop) (hK25 : ∀ (M : om_M) (j1 : Int64) (x3 : Int32) (H : Heap) (locs : List Loc) (ls : Array Slot), K25 (M, j1, x3) → ow_B G D cA ad (ow_A G ad) M s s.heap H locs → lv_has ls 7 [(0, .ref (ad o0)), (1, .long j1), (3, .int x3)] → W p l e rm_M_lockWinners s m ([.ref (ad o0)] : List Value).toArray below meth c H locs 0 0 (MQ below (ow_Qi G D cA ad Q) ([.ref (ad o0)] : List Value).toArray s 0 0 (ow_A G ad)) (F0 m 25 ls [])) (M : om_M) (j1 : Int64) (x3 : Int32)  (H : Heap) (locs : List Loc) (ls : Array Slot), wp_M_lockWinners_209 F o0 Q  K25 M j1 x3  → ow_B G D cA ad (ow_A G ad) M s s.heap H locs → lv_has ls 7 [(0, .ref (ad o0)), (1, .long j1), (3, .int x3)] → W p l e rm_M_lockWinners s m ([.ref (ad o0)] : List Value).toArray below meth c H locs 0 0 (MQ below (ow_Qi G D cA ad Q) ([.ref (ad o0)] : List Value).toArray s 0 0 (ow_A G ad)) (F0 m 209 ls []) := by
    intro  K25 hK25 M j1 x3 H locs ls h hB hl
    refine lv_iinc hx hb dc_M_lockWinners_209 hl (k := 2) rfl rfl (by decide) rfl (fun ls hl => ?_)
    refine lv_goto hx hb dc_M_lockWinners_212 rfl ?_
    exact hK25 _ _ _ _ _ _ h hB (lv_sub hl [1, 2, 0] rfl)
  have L208 : ∀  (K25 : om_M × Int64 × Int32 → Prop) (hK25 : ∀ (M : om_M) (j1 : Int64) (x3 : Int32) (H : Heap) (locs : List Loc) (ls : Array Slot), K25 (M, j1, x3) → ow_B G D cA ad (ow_A G ad) M s s.heap H locs → lv_has ls 7 [(0, .ref (ad o0)), (1, .long j1), (3, .int x3)] → W p l e rm_M_lockWinners s m ([.ref (ad o0)] : List Value).toArray below meth c H locs 0 0 (MQ below (ow_Qi G D cA ad Q) ([.ref (ad o0)] : List Value).toArray s 0 0 (ow_A G ad)) (F0 m 25 ls [])) (M : om_M) (j1 : Int64) (x3 : Int32) (t0 : Nat) (t1 : Int32) (t2 : Int32) (kt0 : ow_kd G t0 = (1, 49)) (H : Heap) (locs : List Loc) (ls : Array Slot), wp_M_lockWinners_208 F o0 Q  K25 M j1 x3 t0 t1 t2 → ow_B G D cA ad (ow_A G ad) M s s.heap H locs → lv_has ls 7 [(0, .ref (ad o0)), (1, .long j1), (3, .int x3)] → W p l e rm_M_lockWinners s m ([.ref (ad o0)] : List Value).toArray below meth c H locs 0 0 (MQ below (ow_Qi G D cA ad Q) ([.ref (ad o0)] : List Value).toArray s 0 0 (ow_A G ad)) (F0 m 208 ls [.int t2, .int t1, .ref (ad t0)]) := by
    intro  K25 hK25 M j1 x3 t0 t1 t2 kt0 H locs ls h hB hl
    obtain ⟨hi4, h⟩ := h
    obtain ⟨hz5, h⟩ := h
    refine ow_zast hx hb hB kt0 hz5 hi4 dc_M_lockWinners_208 (fun H locs hB => ?_)
    exact L209 K25 hK25 _ _ _ _ _ _ h hB (lv_sub hl [0, 1, 2] rfl)
  have L168 : ∀  (K25 : om_M × Int64 × Int32 → Prop) (hK25 : ∀ (M : om_M) (j1 : Int64) (x3 : Int32) (H : Heap) (locs : List Loc) (ls : Array Slot), K25 (M, j1, x3) → ow_B G D cA ad (ow_A G ad) M s s.heap H locs → lv_has ls 7 [(0, .ref (ad o0)), (1, .long j1), (3, .int x3)] → W p l e rm_M_lockWinners s m ([.ref (ad o0)] : List Value).toArray below meth c H locs 0 0 (MQ below (ow_Qi G D cA ad Q) ([.ref (ad o0)] : List Value).toArray s 0 0 (ow_A G ad)) (F0 m 25 ls [])) (M : om_M) (j1 : Int64) (x3 : Int32) (x4 : Int32)  (H : Heap) (locs : List Loc) (ls : Array Slot), wp_M_lockWinners_168 F o0 Q  K25 M j1 x3 x4  → ow_B G D cA ad (ow_A G ad) M s s.heap H locs → lv_has ls 7 [(0, .ref (ad o0)), (1, .long j1), (3, .int x3), (4, .int x4)] → W p l e rm_M_lockWinners s m ([.ref (ad o0)] : List Value).toArray below meth c H locs 0 0 (MQ below (ow_Qi G D cA ad Q) ([.ref (ad o0)] : List Value).toArray s 0 0 (ow_A G ad)) (F0 m 168 ls []) := by
    intro  K25 hK25 M j1 x3 x4 H locs ls h hB hl
    refine lv_iload hx hb dc_M_lockWinners_168 (lv_at hl 3 rfl) ?_
    obtain ⟨h1, h2⟩ := h
    refine lv_if_lt hx hb dc_M_lockWinners_170 rfl (fun hc => ?_) (fun hc => ?_)
    · have h := h1 hc
      exact L209 K25 hK25 _ _ _ _ _ _ h hB (lv_sub hl [0, 1, 2] rfl)
    · have h := h2 hc
      refine lv_lload_n hx hb dc_M_lockWinners_173 rfl (lv_at hl 1 rfl) ?_
      refine lv_lconst (v := 1) hx hb dc_M_lockWinners_174 rfl ?_
      refine lv_iload hx hb dc_M_lockWinners_175 (lv_at hl 3 rfl) ?_
      refine lv_lshl hx hb dc_M_lockWinners_177 rfl ?_
      refine lv_lor hx hb dc_M_lockWinners_178 ?_
      refine lv_lstore_n hx hb dc_M_lockWinners_179 rfl hl (by decide) rfl (fun ls hl => ?_)
      refine lv_aload_n hx hb dc_M_lockWinners_180 rfl (lv_at hl 1 rfl) ?_
      refine ow_get hx hb hts iw_M hown hB k0 rfl 17 (by decide) mw_814 rfl dc_M_lockWinners_181 ?_
      refine lv_iload hx hb dc_M_lockWinners_184 (lv_at hl 3 rfl) ?_
      refine lv_aload_n hx hb dc_M_lockWinners_186 rfl (lv_at hl 1 rfl) ?_
      refine lv_iload hx hb dc_M_lockWinners_187 (lv_at hl 3 rfl) ?_
      refine lv_bipush (v := 7) hx hb dc_M_lockWinners_189 rfl ?_
      refine lv_irem hx hb dc_M_lockWinners_191 (by decide) ?_
      refine lv_iload hx hb dc_M_lockWinners_192 (lv_at hl 3 rfl) ?_
      refine lv_bipush (v := 7) hx hb dc_M_lockWinners_194 rfl ?_
      refine lv_idiv hx hb dc_M_lockWinners_196 (by decide) ?_
      refine ow_calli (va_runV (As := [.int (x4 - x4 / 7 * 7), .int (x4 / 7)]) (rest := [.int x4, .ref (ad (o0 + 13))]) ⟨hx, hb, hml, hown, hts⟩ (ct_M_leads l G hG D cA ad F _ k0 _ _ _ _ h) ⟨ow_cb 2 hts mw_1009 mw_12 mw_1006 rfl rfl hd_M_leads ⟨Nat.le_of_ble_eq_true rfl, Nat.le_of_ble_eq_true rfl⟩, hts _ mw_1008, hts _ ms_40⟩ (ow_preV hB k0 rfl) rfl rfl hl.1 rfl (lv_room (Nat.le_of_ble_eq_true rfl)) dc_M_lockWinners_197 ⟨Nat.zero_le _, Nat.zero_le _⟩) hB (fun r7 M6 H locs h hB => ?_)
      obtain ⟨h1, h2⟩ := h
      refine lv_if_ne hx hb dc_M_lockWinners_200 rfl (fun hc => ?_) (fun hc => ?_)
      · have h := h2 hc
        refine lv_iconst (v := 0) hx hb dc_M_lockWinners_207 rfl ?_
        exact L208 K25 hK25 _ _ _ _ _ _ (ly_M_locked hG k0) _ _ _ h hB (lv_sub hl [1, 0, 2] rfl)
      · have h := h1 hc
        refine lv_iconst (v := 1) hx hb dc_M_lockWinners_203 rfl ?_
        refine lv_goto hx hb dc_M_lockWinners_204 rfl ?_
        exact L208 K25 hK25 _ _ _ _ _ _ (ly_M_locked hG k0) _ _ _ h hB (lv_sub hl [1, 0, 2] rfl)
  have L160 : ∀ (j1 : Int64) (x3 : Int32) (K25 : om_M × Int64 × Int32 → Prop) (hK25 : ∀ (M : om_M) (j1 : Int64) (x3 : Int32) (H : Heap) (locs : List Loc) (ls : Array Slot), K25 (M, j1, x3) → ow_B G D cA ad (ow_A G ad) M s s.heap H locs → lv_has ls 7 [(0, .ref (ad o0)), (1, .long j1), (3, .int x3)] → W p l e rm_M_lockWinners s m ([.ref (ad o0)] : List Value).toArray below meth c H locs 0 0 (MQ below (ow_Qi G D cA ad Q) ([.ref (ad o0)] : List Value).toArray s 0 0 (ow_A G ad)) (F0 m 25 ls [])) (K37 : om_M × Int32 × Int32 → Prop) (hK37 : ∀ (M : om_M) (x4 : Int32) (x5 : Int32) (H : Heap) (locs : List Loc) (ls : Array Slot), K37 (M, x4, x5) → ow_B G D cA ad (ow_A G ad) M s s.heap H locs → lv_has ls 7 [(0, .ref (ad o0)), (1, .long j1), (3, .int x3), (4, .int x4), (5, .int x5)] → W p l e rm_M_lockWinners s m ([.ref (ad o0)] : List Value).toArray below meth c H locs 0 0 (MQ below (ow_Qi G D cA ad Q) ([.ref (ad o0)] : List Value).toArray s 0 0 (ow_A G ad)) (F0 m 37 ls [])) (M : om_M) (x5 : Int32) (t0 : Int32) (H : Heap) (locs : List Loc) (ls : Array Slot), wp_M_lockWinners_160 F o0 Q j1 x3 K25 K37 M x5 t0 → ow_B G D cA ad (ow_A G ad) M s s.heap H locs → lv_has ls 7 [(0, .ref (ad o0)), (1, .long j1), (3, .int x3), (5, .int x5)] → W p l e rm_M_lockWinners s m ([.ref (ad o0)] : List Value).toArray below meth c H locs 0 0 (MQ below (ow_Qi G D cA ad Q) ([.ref (ad o0)] : List Value).toArray s 0 0 (ow_A G ad)) (F0 m 160 ls [.int t0]) := by
    intro j1 x3 K25 hK25 K37 hK37 M x5 t0 H locs ls h hB hl
    refine lv_istore hx hb dc_M_lockWinners_160 hl (by decide) rfl (fun ls hl => ?_)
    refine lv_iinc hx hb dc_M_lockWinners_162 hl (k := 4) rfl rfl (by decide) rfl (fun ls hl => ?_)
    refine lv_goto hx hb dc_M_lockWinners_165 rfl ?_
    exact hK37 _ _ _ _ _ _ h hB (lv_sub hl [2, 3, 4, 1, 0] rfl)
  have L158 : ∀ (j1 : Int64) (x3 : Int32) (K25 : om_M × Int64 × Int32 → Prop) (hK25 : ∀ (M : om_M) (j1 : Int64) (x3 : Int32) (H : Heap) (locs : List Loc) (ls : Array Slot), K25 (M, j1, x3) → ow_B G D cA ad (ow_A G ad) M s s.heap H locs → lv_has ls 7 [(0, .ref (ad o0)), (1, .long j1), (3, .int x3)] → W p l e rm_M_lockWinners s m ([.ref (ad o0)] : List Value).toArray below meth c H locs 0 0 (MQ below (ow_Qi G D cA ad Q) ([.ref (ad o0)] : List Value).toArray s 0 0 (ow_A G ad)) (F0 m 25 ls [])) (K37 : om_M × Int32 × Int32 → Prop) (hK37 : ∀ (M : om_M) (x4 : Int32) (x5 : Int32) (H : Heap) (locs : List Loc) (ls : Array Slot), K37 (M, x4, x5) → ow_B G D cA ad (ow_A G ad) M s s.heap H locs → lv_has ls 7 [(0, .ref (ad o0)), (1, .long j1), (3, .int x3), (4, .int x4), (5, .int x5)] → W p l e rm_M_lockWinners s m ([.ref (ad o0)] : List Value).toArray below meth c H locs 0 0 (MQ below (ow_Qi G D cA ad Q) ([.ref (ad o0)] : List Value).toArray s 0 0 (ow_A G ad)) (F0 m 37 ls [])) (M : om_M) (x4 : Int32) (x5 : Int32)  (H : Heap) (locs : List Loc) (ls : Array Slot), wp_M_lockWinners_158 F o0 Q j1 x3 K25 K37 M x4 x5  → ow_B G D cA ad (ow_A G ad) M s s.heap H locs → lv_has ls 7 [(0, .ref (ad o0)), (1, .long j1), (3, .int x3), (4, .int x4), (5, .int x5)] → W p l e rm_M_lockWinners s m ([.ref (ad o0)] : List Value).toArray below meth c H locs 0 0 (MQ below (ow_Qi G D cA ad Q) ([.ref (ad o0)] : List Value).toArray s 0 0 (ow_A G ad)) (F0 m 158 ls []) := by
    intro j1 x3 K25 hK25 K37 hK37 M x4 x5 H locs ls h hB hl
    refine lv_iload hx hb dc_M_lockWinners_158 (lv_at hl 3 rfl) ?_
    exact L160 _ _ K25 hK25 K37 hK37 _ _ _ _ _ _ h hB (lv_sub hl [0, 1, 2, 4] rfl)
  have L153 : ∀ (j1 : Int64) (x3 : Int32) (K25 : om_M × Int64 × Int32 → Prop) (hK25 : ∀ (M : om_M) (j1 : Int64) (x3 : Int32) (H : Heap) (locs : List Loc) (ls : Array Slot), K25 (M, j1, x3) → ow_B G D cA ad (ow_A G ad) M s s.heap H locs → lv_has ls 7 [(0, .ref (ad o0)), (1, .long j1), (3, .int x3)] → W p l e rm_M_lockWinners s m ([.ref (ad o0)] : List Value).toArray below meth c H locs 0 0 (MQ below (ow_Qi G D cA ad Q) ([.ref (ad o0)] : List Value).toArray s 0 0 (ow_A G ad)) (F0 m 25 ls [])) (K37 : om_M × Int32 × Int32 → Prop) (hK37 : ∀ (M : om_M) (x4 : Int32) (x5 : Int32) (H : Heap) (locs : List Loc) (ls : Array Slot), K37 (M, x4, x5) → ow_B G D cA ad (ow_A G ad) M s s.heap H locs → lv_has ls 7 [(0, .ref (ad o0)), (1, .long j1), (3, .int x3), (4, .int x4), (5, .int x5)] → W p l e rm_M_lockWinners s m ([.ref (ad o0)] : List Value).toArray below meth c H locs 0 0 (MQ below (ow_Qi G D cA ad Q) ([.ref (ad o0)] : List Value).toArray s 0 0 (ow_A G ad)) (F0 m 37 ls [])) (M : om_M) (x5 : Int32)  (H : Heap) (locs : List Loc) (ls : Array Slot), wp_M_lockWinners_153 F o0 Q j1 x3 K25 K37 M x5  → ow_B G D cA ad (ow_A G ad) M s s.heap H locs → lv_has ls 7 [(0, .ref (ad o0)), (1, .long j1), (3, .int x3), (5, .int x5)] → W p l e rm_M_lockWinners s m ([.ref (ad o0)] : List Value).toArray below meth c H locs 0 0 (MQ below (ow_Qi G D cA ad Q) ([.ref (ad o0)] : List Value).toArray s 0 0 (ow_A G ad)) (F0 m 153 ls []) := by
    intro j1 x3 K25 hK25 K37 hK37 M x5 H locs ls h hB hl
    refine lv_iload hx hb dc_M_lockWinners_153 (lv_at hl 3 rfl) ?_
    refine lv_goto hx hb dc_M_lockWinners_155 rfl ?_
    exact L160 _ _ K25 hK25 K37 hK37 _ _ _ _ _ _ h hB (lv_sub hl [0, 1, 2, 3] rfl)
  have L114 : ∀ (j1 : Int64) (x3 : Int32) (K25 : om_M × Int64 × Int32 → Prop) (hK25 : ∀ (M : om_M) (j1 : Int64) (x3 : Int32) (H : Heap) (locs : List Loc) (ls : Array Slot), K25 (M, j1, x3) → ow_B G D cA ad (ow_A G ad) M s s.heap H locs → lv_has ls 7 [(0, .ref (ad o0)), (1, .long j1), (3, .int x3)] → W p l e rm_M_lockWinners s m ([.ref (ad o0)] : List Value).toArray below meth c H locs 0 0 (MQ below (ow_Qi G D cA ad Q) ([.ref (ad o0)] : List Value).toArray s 0 0 (ow_A G ad)) (F0 m 25 ls [])) (K37 : om_M × Int32 × Int32 → Prop) (hK37 : ∀ (M : om_M) (x4 : Int32) (x5 : Int32) (H : Heap) (locs : List Loc) (ls : Array Slot), K37 (M, x4, x5) → ow_B G D cA ad (ow_A G ad) M s s.heap H locs → lv_has ls 7 [(0, .ref (ad o0)), (1, .long j1), (3, .int x3), (4, .int x4), (5, .int x5)] → W p l e rm_M_lockWinners s m ([.ref (ad o0)] : List Value).toArray below meth c H locs 0 0 (MQ below (ow_Qi G D cA ad Q) ([.ref (ad o0)] : List Value).toArray s 0 0 (ow_A G ad)) (F0 m 37 ls [])) (M : om_M) (x4 : Int32) (x5 : Int32) (t0 : Int32) (H : Heap) (locs : List Loc) (ls : Array Slot), wp_M_lockWinners_114 F o0 Q j1 x3 K25 K37 M x4 x5 t0 → ow_B G D cA ad (ow_A G ad) M s s.heap H locs → lv_has ls 7 [(0, .ref (ad o0)), (1, .long j1), (3, .int x3), (4, .int x4), (5, .int x5)] → W p l e rm_M_lockWinners s m ([.ref (ad o0)] : List Value).toArray below meth c H locs 0 0 (MQ below (ow_Qi G D cA ad Q) ([.ref (ad o0)] : List Value).toArray s 0 0 (ow_A G ad)) (F0 m 114 ls [.int t0]) := by
    intro j1 x3 K25 hK25 K37 hK37 M x4 x5 t0 H locs ls h hB hl
    refine lv_istore hx hb dc_M_lockWinners_114 hl (by decide) rfl (fun ls hl => ?_)
    refine lv_iload hx hb dc_M_lockWinners_116 (lv_at hl 0 rfl) ?_
    obtain ⟨h1, h2⟩ := h
    refine lv_if_eq hx hb dc_M_lockWinners_118 rfl (fun hc => ?_) (fun hc => ?_)
    · have h := h1 hc
      exact L158 _ _ K25 hK25 K37 hK37 _ _ _ _ _ _ h hB (lv_sub hl [1, 2, 3, 4, 5] rfl)
    · have h := h2 hc
      refine lv_iload hx hb dc_M_lockWinners_121 (lv_at hl 4 rfl) ?_
      obtain ⟨h1, h2⟩ := h
      refine lv_if_lt hx hb dc_M_lockWinners_123 rfl (fun hc => ?_) (fun hc => ?_)
      · have h := h1 hc
        exact L153 _ _ K25 hK25 K37 hK37 _ _ _ _ _ h hB (lv_sub hl [1, 2, 3, 5] rfl)
      · have h := h2 hc
        refine lv_aload_n hx hb dc_M_lockWinners_126 rfl (lv_at hl 1 rfl) ?_
        refine lv_iload hx hb dc_M_lockWinners_127 (lv_at hl 5 rfl) ?_
        refine lv_bipush (v := 7) hx hb dc_M_lockWinners_129 rfl ?_
        refine lv_idiv hx hb dc_M_lockWinners_131 (by decide) ?_
        refine lv_iload hx hb dc_M_lockWinners_132 (lv_at hl 5 rfl) ?_
        refine lv_bipush (v := 7) hx hb dc_M_lockWinners_134 rfl ?_
        refine lv_irem hx hb dc_M_lockWinners_136 (by decide) ?_
        refine lv_iload hx hb dc_M_lockWinners_137 (lv_at hl 4 rfl) ?_
        refine lv_bipush (v := 7) hx hb dc_M_lockWinners_139 rfl ?_
        refine lv_idiv hx hb dc_M_lockWinners_141 (by decide) ?_
        refine lv_iload hx hb dc_M_lockWinners_142 (lv_at hl 4 rfl) ?_
        refine lv_bipush (v := 7) hx hb dc_M_lockWinners_144 rfl ?_
        refine lv_irem hx hb dc_M_lockWinners_146 (by decide) ?_
        refine ow_calli (va_runV (As := [.int (x5 / 7), .int (x5 - x5 / 7 * 7), .int (x4 / 7), .int (x4 - x4 / 7 * 7)]) (rest := []) ⟨hx, hb, hml, hown, hts⟩ (ct_M_sooner l G hG D cA ad F _ k0 _ _ _ _ _ _ h) ⟨ow_cb 4 hts mw_1001 mw_12 mw_998 rfl rfl hd_M_sooner ⟨Nat.le_of_ble_eq_true rfl, Nat.le_of_ble_eq_true rfl⟩, hts _ mw_1000, hts _ ms_38⟩ (ow_preV hB k0 rfl) rfl rfl hl.1 rfl (lv_room (Nat.le_of_ble_eq_true rfl)) dc_M_lockWinners_147 ⟨Nat.zero_le _, Nat.zero_le _⟩) hB (fun r9 M8 H locs h hB => ?_)
        obtain ⟨h1, h2⟩ := h
        refine lv_if_eq hx hb dc_M_lockWinners_150 rfl (fun hc => ?_) (fun hc => ?_)
        · have h := h1 hc
          exact L158 _ _ K25 hK25 K37 hK37 _ _ _ _ _ _ h hB (lv_sub hl [1, 2, 3, 4, 5] rfl)
        · have h := h2 hc
          exact L153 _ _ K25 hK25 K37 hK37 _ _ _ _ _ h hB (lv_sub hl [1, 2, 3, 5] rfl)
  have L113 : ∀ (j1 : Int64) (x3 : Int32) (K25 : om_M × Int64 × Int32 → Prop) (hK25 : ∀ (M : om_M) (j1 : Int64) (x3 : Int32) (H : Heap) (locs : List Loc) (ls : Array Slot), K25 (M, j1, x3) → ow_B G D cA ad (ow_A G ad) M s s.heap H locs → lv_has ls 7 [(0, .ref (ad o0)), (1, .long j1), (3, .int x3)] → W p l e rm_M_lockWinners s m ([.ref (ad o0)] : List Value).toArray below meth c H locs 0 0 (MQ below (ow_Qi G D cA ad Q) ([.ref (ad o0)] : List Value).toArray s 0 0 (ow_A G ad)) (F0 m 25 ls [])) (K37 : om_M × Int32 × Int32 → Prop) (hK37 : ∀ (M : om_M) (x4 : Int32) (x5 : Int32) (H : Heap) (locs : List Loc) (ls : Array Slot), K37 (M, x4, x5) → ow_B G D cA ad (ow_A G ad) M s s.heap H locs → lv_has ls 7 [(0, .ref (ad o0)), (1, .long j1), (3, .int x3), (4, .int x4), (5, .int x5)] → W p l e rm_M_lockWinners s m ([.ref (ad o0)] : List Value).toArray below meth c H locs 0 0 (MQ below (ow_Qi G D cA ad Q) ([.ref (ad o0)] : List Value).toArray s 0 0 (ow_A G ad)) (F0 m 37 ls [])) (M : om_M) (x4 : Int32) (x5 : Int32)  (H : Heap) (locs : List Loc) (ls : Array Slot), wp_M_lockWinners_113 F o0 Q j1 x3 K25 K37 M x4 x5  → ow_B G D cA ad (ow_A G ad) M s s.heap H locs → lv_has ls 7 [(0, .ref (ad o0)), (1, .long j1), (3, .int x3), (4, .int x4), (5, .int x5)] → W p l e rm_M_lockWinners s m ([.ref (ad o0)] : List Value).toArray below meth c H locs 0 0 (MQ below (ow_Qi G D cA ad Q) ([.ref (ad o0)] : List Value).toArray s 0 0 (ow_A G ad)) (F0 m 113 ls []) := by
    intro j1 x3 K25 hK25 K37 hK37 M x4 x5 H locs ls h hB hl
    refine lv_iconst (v := 0) hx hb dc_M_lockWinners_113 rfl ?_
    exact L114 _ _ K25 hK25 K37 hK37 _ _ _ _ _ _ _ h hB (lv_sub hl [0, 1, 2, 3, 4] rfl)
  have B37 : ∀ (j1 : Int64) (x3 : Int32) (K25 : om_M × Int64 × Int32 → Prop) (hK25 : ∀ (M : om_M) (j1 : Int64) (x3 : Int32) (H : Heap) (locs : List Loc) (ls : Array Slot), K25 (M, j1, x3) → ow_B G D cA ad (ow_A G ad) M s s.heap H locs → lv_has ls 7 [(0, .ref (ad o0)), (1, .long j1), (3, .int x3)] → W p l e rm_M_lockWinners s m ([.ref (ad o0)] : List Value).toArray below meth c H locs 0 0 (MQ below (ow_Qi G D cA ad Q) ([.ref (ad o0)] : List Value).toArray s 0 0 (ow_A G ad)) (F0 m 25 ls [])) (K37 : om_M × Int32 × Int32 → Prop) (hK37 : ∀ (M : om_M) (x4 : Int32) (x5 : Int32) (H : Heap) (locs : List Loc) (ls : Array Slot), K37 (M, x4, x5) → ow_B G D cA ad (ow_A G ad) M s s.heap H locs → lv_has ls 7 [(0, .ref (ad o0)), (1, .long j1), (3, .int x3), (4, .int x4), (5, .int x5)] → W p l e rm_M_lockWinners s m ([.ref (ad o0)] : List Value).toArray below meth c H locs 0 0 (MQ below (ow_Qi G D cA ad Q) ([.ref (ad o0)] : List Value).toArray s 0 0 (ow_A G ad)) (F0 m 37 ls [])) (M : om_M) (x4 : Int32) (x5 : Int32) (H : Heap) (locs : List Loc) (ls : Array Slot), wp_M_lockWinners_37b F o0 Q j1 x3 K25 K37 M x4 x5 → ow_B G D cA ad (ow_A G ad) M s s.heap H locs → lv_has ls 7 [(0, .ref (ad o0)), (1, .long j1), (3, .int x3), (4, .int x4), (5, .int x5)] → W p l e rm_M_lockWinners s m ([.ref (ad o0)] : List Value).toArray below meth c H locs 0 0 (MQ below (ow_Qi G D cA ad Q) ([.ref (ad o0)] : List Value).toArray s 0 0 (ow_A G ad)) (F0 m 37 ls []) := by
    intro j1 x3 K25 hK25 K37 hK37 M x4 x5 H locs ls h hB hl
    refine lv_iload hx hb dc_M_lockWinners_37 (lv_at hl 4 rfl) ?_
    refine lv_bipush (v := 49) hx hb dc_M_lockWinners_39 rfl ?_
    obtain ⟨h1, h2⟩ := h
    refine lv_icmp_ge hx hb dc_M_lockWinners_41 rfl (fun hc => ?_) (fun hc => ?_)
    · have h := h1 hc
      exact L168 K25 hK25 _ _ _ _ _ _ _ h hB (lv_sub hl [0, 1, 2, 3] rfl)
    · have h := h2 hc
      refine lv_iload hx hb dc_M_lockWinners_44 (lv_at hl 4 rfl) ?_
      refine lv_bipush (v := 7) hx hb dc_M_lockWinners_46 rfl ?_
      refine lv_idiv hx hb dc_M_lockWinners_48 (by decide) ?_
      refine lv_aload_n hx hb dc_M_lockWinners_49 rfl (lv_at hl 0 rfl) ?_
      refine ow_get hx hb hts iw_M hown hB k0 rfl 8 (by decide) mw_805 rfl dc_M_lockWinners_50 ?_
      obtain ⟨h1, h2⟩ := h
      refine lv_icmp_ge hx hb dc_M_lockWinners_53 rfl (fun hc => ?_) (fun hc => ?_)
      · have h := h1 hc
        exact L113 _ _ K25 hK25 K37 hK37 _ _ _ _ _ _ h hB (lv_sub hl [0, 1, 2, 3, 4] rfl)
      · have h := h2 hc
        refine lv_iload hx hb dc_M_lockWinners_56 (lv_at hl 4 rfl) ?_
        refine lv_bipush (v := 7) hx hb dc_M_lockWinners_58 rfl ?_
        refine lv_irem hx hb dc_M_lockWinners_60 (by decide) ?_
        refine lv_aload_n hx hb dc_M_lockWinners_61 rfl (lv_at hl 0 rfl) ?_
        refine ow_get hx hb hts iw_M hown hB k0 rfl 8 (by decide) mw_805 rfl dc_M_lockWinners_62 ?_
        obtain ⟨h1, h2⟩ := h
        refine lv_icmp_ge hx hb dc_M_lockWinners_65 rfl (fun hc => ?_) (fun hc => ?_)
        · have h := h1 hc
          exact L113 _ _ K25 hK25 K37 hK37 _ _ _ _ _ _ h hB (lv_sub hl [0, 1, 2, 3, 4] rfl)
        · have h := h2 hc
          refine lv_iload hx hb dc_M_lockWinners_68 (lv_at hl 4 rfl) ?_
          refine lv_bipush (v := 7) hx hb dc_M_lockWinners_70 rfl ?_
          refine lv_idiv hx hb dc_M_lockWinners_72 (by decide) ?_
          refine lv_iload hx hb dc_M_lockWinners_73 (lv_at hl 4 rfl) ?_
          refine lv_bipush (v := 7) hx hb dc_M_lockWinners_75 rfl ?_
          refine lv_irem hx hb dc_M_lockWinners_77 (by decide) ?_
          obtain ⟨h1, h2⟩ := h
          refine lv_icmp_eq hx hb dc_M_lockWinners_78 rfl (fun hc => ?_) (fun hc => ?_)
          · have h := h1 hc
            exact L113 _ _ K25 hK25 K37 hK37 _ _ _ _ _ _ h hB (lv_sub hl [0, 1, 2, 3, 4] rfl)
          · have h := h2 hc
            refine lv_aload_n hx hb dc_M_lockWinners_81 rfl (lv_at hl 0 rfl) ?_
            refine lv_iload hx hb dc_M_lockWinners_82 (lv_at hl 4 rfl) ?_
            refine lv_bipush (v := 7) hx hb dc_M_lockWinners_84 rfl ?_
            refine lv_idiv hx hb dc_M_lockWinners_86 (by decide) ?_
            refine lv_iload hx hb dc_M_lockWinners_87 (lv_at hl 4 rfl) ?_
            refine lv_bipush (v := 7) hx hb dc_M_lockWinners_89 rfl ?_
            refine lv_irem hx hb dc_M_lockWinners_91 (by decide) ?_
            refine ow_calli (va_runV (As := [.int (x5 / 7), .int (x5 - x5 / 7 * 7)]) (rest := []) ⟨hx, hb, hml, hown, hts⟩ (ct_M_beats l G hG D cA ad F _ k0 _ _ _ _ h) ⟨ow_cb 2 hts mw_969 mw_12 mw_966 rfl rfl hd_M_beats ⟨Nat.le_of_ble_eq_true rfl, Nat.le_of_ble_eq_true rfl⟩, hts _ mw_968, hts _ ms_31⟩ (ow_preV hB k0 rfl) rfl rfl hl.1 rfl (lv_room (Nat.le_of_ble_eq_true rfl)) dc_M_lockWinners_92 ⟨Nat.zero_le _, Nat.zero_le _⟩) hB (fun r11 M10 H locs h hB => ?_)
            obtain ⟨h1, h2⟩ := h
            refine lv_if_eq hx hb dc_M_lockWinners_95 rfl (fun hc => ?_) (fun hc => ?_)
            · have h := h1 hc
              exact L113 _ _ K25 hK25 K37 hK37 _ _ _ _ _ _ h hB (lv_sub hl [0, 1, 2, 3, 4] rfl)
            · have h := h2 hc
              refine lv_lload_n hx hb dc_M_lockWinners_98 rfl (lv_at hl 1 rfl) ?_
              refine lv_iload hx hb dc_M_lockWinners_99 (lv_at hl 4 rfl) ?_
              refine lv_lshr hx hb dc_M_lockWinners_101 rfl ?_
              refine lv_lconst (v := 1) hx hb dc_M_lockWinners_102 rfl ?_
              refine lv_land hx hb dc_M_lockWinners_103 ?_
              refine lv_lconst (v := 0) hx hb dc_M_lockWinners_104 rfl ?_
              obtain ⟨h1, h2⟩ := h
              refine ow_lcmp_ne hx hb dc_M_lockWinners_105 dc_M_lockWinners_106 rfl (fun hc => ?_) (fun hc => ?_)
              · have h := h2 hc
                exact L113 _ _ K25 hK25 K37 hK37 _ _ _ _ _ _ h hB (lv_sub hl [0, 1, 2, 3, 4] rfl)
              · have h := h1 hc
                refine lv_iconst (v := 1) hx hb dc_M_lockWinners_109 rfl ?_
                refine lv_goto hx hb dc_M_lockWinners_110 rfl ?_
                exact L114 _ _ K25 hK25 K37 hK37 _ _ _ _ _ _ _ h hB (lv_sub hl [0, 1, 2, 3, 4] rfl)
  have L37 : ∀ (j1 : Int64) (x3 : Int32) (K25 : om_M × Int64 × Int32 → Prop) (hK25 : ∀ (M : om_M) (j1 : Int64) (x3 : Int32) (H : Heap) (locs : List Loc) (ls : Array Slot), K25 (M, j1, x3) → ow_B G D cA ad (ow_A G ad) M s s.heap H locs → lv_has ls 7 [(0, .ref (ad o0)), (1, .long j1), (3, .int x3)] → W p l e rm_M_lockWinners s m ([.ref (ad o0)] : List Value).toArray below meth c H locs 0 0 (MQ below (ow_Qi G D cA ad Q) ([.ref (ad o0)] : List Value).toArray s 0 0 (ow_A G ad)) (F0 m 25 ls [])) (M : om_M) (x4 : Int32) (x5 : Int32) (H : Heap) (locs : List Loc) (ls : Array Slot), wp_M_lockWinners_37 F o0 Q j1 x3 K25 M x4 x5 → ow_B G D cA ad (ow_A G ad) M s s.heap H locs → lv_has ls 7 [(0, .ref (ad o0)), (1, .long j1), (3, .int x3), (4, .int x4), (5, .int x5)] → W p l e rm_M_lockWinners s m ([.ref (ad o0)] : List Value).toArray below meth c H locs 0 0 (MQ below (ow_Qi G D cA ad Q) ([.ref (ad o0)] : List Value).toArray s 0 0 (ow_A G ad)) (F0 m 37 ls []) := by
    intro j1 x3 K25 hK25
    have step : ∀ (k : Nat) (M : om_M) (x4 : Int32) (x5 : Int32) (H : Heap) (locs : List Loc) (ls : Array Slot), ow_lp (fun (z : om_M × Int32 × Int32) K => wp_M_lockWinners_37b F o0 Q j1 x3 K25 K z.1 z.2.1 z.2.2) k (M, x4, x5) → ow_B G D cA ad (ow_A G ad) M s s.heap H locs → lv_has ls 7 [(0, .ref (ad o0)), (1, .long j1), (3, .int x3), (4, .int x4), (5, .int x5)] → W p l e rm_M_lockWinners s m ([.ref (ad o0)] : List Value).toArray below meth c H locs 0 0 (MQ below (ow_Qi G D cA ad Q) ([.ref (ad o0)] : List Value).toArray s 0 0 (ow_A G ad)) (F0 m 37 ls []) := by
      intro k
      induction k with
      | zero => intro M x4 x5 H locs ls h hB hl; exact False.elim h
      | succ k ih => intro M x4 x5 H locs ls h hB hl; exact B37 j1 x3 K25 hK25 (ow_lp _ k) (fun M x4 x5 H locs ls h hB  hl => ih M x4 x5  H locs ls h hB hl) M x4 x5 H locs ls h hB hl
    intro M x4 x5 H locs ls h hB hl
    exact step F M x4 x5 H locs ls h hB hl
  have B25 : ∀   (K25 : om_M × Int64 × Int32 → Prop) (hK25 : ∀ (M : om_M) (j1 : Int64) (x3 : Int32) (H : Heap) (locs : List Loc) (ls : Array Slot), K25 (M, j1, x3) → ow_B G D cA ad (ow_A G ad) M s s.heap H locs → lv_has ls 7 [(0, .ref (ad o0)), (1, .long j1), (3, .int x3)] → W p l e rm_M_lockWinners s m ([.ref (ad o0)] : List Value).toArray below meth c H locs 0 0 (MQ below (ow_Qi G D cA ad Q) ([.ref (ad o0)] : List Value).toArray s 0 0 (ow_A G ad)) (F0 m 25 ls [])) (M : om_M) (j1 : Int64) (x3 : Int32) (H : Heap) (locs : List Loc) (ls : Array Slot), wp_M_lockWinners_25b F o0 Q   K25 M j1 x3 → ow_B G D cA ad (ow_A G ad) M s s.heap H locs → lv_has ls 7 [(0, .ref (ad o0)), (1, .long j1), (3, .int x3)] → W p l e rm_M_lockWinners s m ([.ref (ad o0)] : List Value).toArray below meth c H locs 0 0 (MQ below (ow_Qi G D cA ad Q) ([.ref (ad o0)] : List Value).toArray s 0 0 (ow_A G ad)) (F0 m 25 ls []) := by
    intro   K25 hK25 M j1 x3 H locs ls h hB hl
    refine lv_iload_n hx hb dc_M_lockWinners_25 rfl (lv_at hl 2 rfl) ?_
    refine lv_bipush (v := 49) hx hb dc_M_lockWinners_26 rfl ?_
    obtain ⟨h1, h2⟩ := h
    refine lv_icmp_ge hx hb dc_M_lockWinners_28 rfl (fun hc => ?_) (fun hc => ?_)
    · have h := h1 hc
      exact L215 _ _ _ _ h hB (lv_sub hl [0] rfl)
    · have h := h2 hc
      refine lv_iconst (v := (-1)) hx hb dc_M_lockWinners_31 rfl ?_
      refine lv_istore hx hb dc_M_lockWinners_32 hl (by decide) rfl (fun ls hl => ?_)
      refine lv_iconst (v := 0) hx hb dc_M_lockWinners_34 rfl ?_
      refine lv_istore hx hb dc_M_lockWinners_35 hl (by decide) rfl (fun ls hl => ?_)
      exact L37 _ _ K25 hK25 _ _ _ _ _ _ h hB (lv_sub hl [2, 3, 4, 1, 0] rfl)
  have L25 : ∀   (M : om_M) (j1 : Int64) (x3 : Int32) (H : Heap) (locs : List Loc) (ls : Array Slot), wp_M_lockWinners_25 F o0 Q   M j1 x3 → ow_B G D cA ad (ow_A G ad) M s s.heap H locs → lv_has ls 7 [(0, .ref (ad o0)), (1, .long j1), (3, .int x3)] → W p l e rm_M_lockWinners s m ([.ref (ad o0)] : List Value).toArray below meth c H locs 0 0 (MQ below (ow_Qi G D cA ad Q) ([.ref (ad o0)] : List Value).toArray s 0 0 (ow_A G ad)) (F0 m 25 ls []) := by
    have step : ∀ (k : Nat) (M : om_M) (j1 : Int64) (x3 : Int32) (H : Heap) (locs : List Loc) (ls : Array Slot), ow_lp (fun (z : om_M × Int64 × Int32) K => wp_M_lockWinners_25b F o0 Q   K z.1 z.2.1 z.2.2) k (M, j1, x3) → ow_B G D cA ad (ow_A G ad) M s s.heap H locs → lv_has ls 7 [(0, .ref (ad o0)), (1, .long j1), (3, .int x3)] → W p l e rm_M_lockWinners s m ([.ref (ad o0)] : List Value).toArray below meth c H locs 0 0 (MQ below (ow_Qi G D cA ad Q) ([.ref (ad o0)] : List Value).toArray s 0 0 (ow_A G ad)) (F0 m 25 ls []) := by
      intro k
      induction k with
      | zero => intro M j1 x3 H locs ls h hB hl; exact False.elim h
      | succ k ih => intro M j1 x3 H locs ls h hB hl; exact B25   (ow_lp _ k) (fun M j1 x3 H locs ls h hB  hl => ih M j1 x3  H locs ls h hB hl) M j1 x3 H locs ls h hB hl
    intro M j1 x3 H locs ls h hB hl
    exact step F M j1 x3 H locs ls h hB hl
  have L21 : ∀   (M : om_M)   (H : Heap) (locs : List Loc) (ls : Array Slot), wp_M_lockWinners_21 F o0 Q   M   → ow_B G D cA ad (ow_A G ad) M s s.heap H locs → lv_has ls 7 [(0, .ref (ad o0))] → W p l e rm_M_lockWinners s m ([.ref (ad o0)] : List Value).toArray below meth c H locs 0 0 (MQ below (ow_Qi G D cA ad Q) ([.ref (ad o0)] : List Value).toArray s 0 0 (ow_A G ad)) (F0 m 21 ls []) := by
    intro   M H locs ls h hB hl
    refine lv_lconst (v := 0) hx hb dc_M_lockWinners_21 rfl ?_
    refine lv_lstore_n hx hb dc_M_lockWinners_22 rfl hl (by decide) rfl (fun ls hl => ?_)
    refine lv_iconst (v := 0) hx hb dc_M_lockWinners_23 rfl ?_
    refine lv_istore_n hx hb dc_M_lockWinners_24 rfl hl (by decide) rfl (fun ls hl => ?_)
    exact L25 _ _ _ _ _ _ h hB (lv_sub hl [2, 1, 0] rfl)
  have B2 : ∀   (K2 : om_M × Int32 → Prop) (hK2 : ∀ (M : om_M) (x1 : Int32) (H : Heap) (locs : List Loc) (ls : Array Slot), K2 (M, x1) → ow_B G D cA ad (ow_A G ad) M s s.heap H locs → lv_has ls 7 [(0, .ref (ad o0)), (1, .int x1)] → W p l e rm_M_lockWinners s m ([.ref (ad o0)] : List Value).toArray below meth c H locs 0 0 (MQ below (ow_Qi G D cA ad Q) ([.ref (ad o0)] : List Value).toArray s 0 0 (ow_A G ad)) (F0 m 2 ls [])) (M : om_M) (x1 : Int32) (H : Heap) (locs : List Loc) (ls : Array Slot), wp_M_lockWinners_2b F o0 Q   K2 M x1 → ow_B G D cA ad (ow_A G ad) M s s.heap H locs → lv_has ls 7 [(0, .ref (ad o0)), (1, .int x1)] → W p l e rm_M_lockWinners s m ([.ref (ad o0)] : List Value).toArray below meth c H locs 0 0 (MQ below (ow_Qi G D cA ad Q) ([.ref (ad o0)] : List Value).toArray s 0 0 (ow_A G ad)) (F0 m 2 ls []) := by
    intro   K2 hK2 M x1 H locs ls h hB hl
    refine lv_iload_n hx hb dc_M_lockWinners_2 rfl (lv_at hl 1 rfl) ?_
    refine lv_bipush (v := 49) hx hb dc_M_lockWinners_3 rfl ?_
    obtain ⟨h1, h2⟩ := h
    refine lv_icmp_ge hx hb dc_M_lockWinners_5 rfl (fun hc => ?_) (fun hc => ?_)
    · have h := h1 hc
      exact L21 _ _ _ _ h hB (lv_sub hl [0] rfl)
    · have h := h2 hc
      refine lv_aload_n hx hb dc_M_lockWinners_8 rfl (lv_at hl 0 rfl) ?_
      refine ow_get hx hb hts iw_M hown hB k0 rfl 17 (by decide) mw_814 rfl dc_M_lockWinners_9 ?_
      refine lv_iload_n hx hb dc_M_lockWinners_12 rfl (lv_at hl 1 rfl) ?_
      refine lv_iconst (v := 0) hx hb dc_M_lockWinners_13 rfl ?_
      obtain ⟨hi12, h⟩ := h
      refine ow_zast hx hb hB (ly_M_locked hG k0) (by decide) hi12 dc_M_lockWinners_14 (fun H locs hB => ?_)
      refine lv_iinc hx hb dc_M_lockWinners_15 hl (k := 1) rfl rfl (by decide) rfl (fun ls hl => ?_)
      refine lv_goto hx hb dc_M_lockWinners_18 rfl ?_
      exact hK2 _ _ _ _ _ h hB (lv_sub hl [1, 0] rfl)
  have L2 : ∀   (M : om_M) (x1 : Int32) (H : Heap) (locs : List Loc) (ls : Array Slot), wp_M_lockWinners_2 F o0 Q   M x1 → ow_B G D cA ad (ow_A G ad) M s s.heap H locs → lv_has ls 7 [(0, .ref (ad o0)), (1, .int x1)] → W p l e rm_M_lockWinners s m ([.ref (ad o0)] : List Value).toArray below meth c H locs 0 0 (MQ below (ow_Qi G D cA ad Q) ([.ref (ad o0)] : List Value).toArray s 0 0 (ow_A G ad)) (F0 m 2 ls []) := by
    have step : ∀ (k : Nat) (M : om_M) (x1 : Int32) (H : Heap) (locs : List Loc) (ls : Array Slot), ow_lp (fun (z : om_M × Int32) K => wp_M_lockWinners_2b F o0 Q   K z.1 z.2) k (M, x1) → ow_B G D cA ad (ow_A G ad) M s s.heap H locs → lv_has ls 7 [(0, .ref (ad o0)), (1, .int x1)] → W p l e rm_M_lockWinners s m ([.ref (ad o0)] : List Value).toArray below meth c H locs 0 0 (MQ below (ow_Qi G D cA ad Q) ([.ref (ad o0)] : List Value).toArray s 0 0 (ow_A G ad)) (F0 m 2 ls []) := by
      intro k
      induction k with
      | zero => intro M x1 H locs ls h hB hl; exact False.elim h
      | succ k ih => intro M x1 H locs ls h hB hl; exact B2   (ow_lp _ k) (fun M x1 H locs ls h hB  hl => ih M x1  H locs ls h hB hl) M x1 H locs ls h hB hl
    intro M x1 H locs ls h hB hl
    exact step F M x1 H locs ls h hB hl
  have hl := lv_entry ([.ref (ad o0)]) (n := 7) (Nat.le_of_ble_eq_true rfl)
  rw [lg_entry_eq]
  generalize (lg_sl ([.ref (ad o0)]) ++ List.replicate (7 - (lg_sl ([.ref (ad o0)])).length) Slot.unset).toArray = ls at hl ⊢
  have hl : lv_has ls 7 [(0, .ref (ad o0))] := hl
  show W p l e rm_M_lockWinners s m _ below meth c s.heap [] 0 0 _ _
  refine lv_iconst (v := 0) hx hb dc_M_lockWinners_0 rfl ?_
  refine lv_istore_n hx hb dc_M_lockWinners_1 rfl hl (by decide) rfl (fun ls hl => ?_)
  exact L2 _ _ _ _ _ h hB (lv_sub hl [1, 0] rfl)
abbrev rm_M_over : Room := { frames := 0, cells := 0, slots := 0, locals := 0 }
theorem hd_M_over : yn_M_over.cls ≠ "java/lang/invoke/MethodHandle" ∧ yn_M_over.cls ≠ "java/lang/invoke/VarHandle" ∧ (parseMethodDescriptor yn_M_over.desc).map (fun d => d.parameters.length) = some 2 := by decide +kernel
set_option maxHeartbeats 4000000 in
set_option maxRecDepth 100000 in
theorem ct_M_over (l : Launch) (G : List (Nat × Nat)) (hG : ow_lay G) (D : va_G) (cA : Nat → ClassId) (ad : Nat → Nat) (F : Nat) (o0 : Nat) (k0 : ow_kd G o0 = (3, 9)) (x1 : Int32) (x2 : Int32) (M : om_M) (Q : Int64 → om_M → Prop) (h : wp_M_over F o0 x1 x2 M Q) : Met l yn_M_over (ow_ws yn_M_over cb_M_over 6 (some .long)) rm_M_over (ow_Pc G D cA ad M [.ref (ad o0), .int x1, .int x2]) (ow_Ql G D cA ad Q) 0 0 (ow_A G ad) := by
  refine Met.ofW (cc := cb_M_over) (maxL := 6) (ret := (some .long)) (by decide) rfl ?_
  intro p e s m args below meth c s₁ B hml hv
  obtain ⟨rfl, hB⟩ := hv
  have hx := B.exec
  have hb := B.bytes
  have hr := B.returns
  have hlocks := B.notSynchronized
  have hts : ∀ w ∈ lw_g, w.before ([.ref (ad o0), .int x1, .int x2] : List Value).toArray s = true := fun w h => atoms_spec (ws := ow_ws yn_M_over cb_M_over 6 (some .long)) B.pre w (List.mem_cons_of_mem _ h)
  have hown : s.vm.findClass "BallotDeskModel" = some m.cls := findClass_of_methodNamed B.named
  clear B
  have L43 : ∀  (K5 : om_M × Int64 × Int32 → Prop) (hK5 : ∀ (M : om_M) (j3 : Int64) (x5 : Int32) (H : Heap) (locs : List Loc) (ls : Array Slot), K5 (M, j3, x5) → ow_B G D cA ad (ow_A G ad) M s s.heap H locs → lv_has ls 6 [(0, .ref (ad o0)), (1, .int x1), (2, .int x2), (3, .long j3), (5, .int x5)] → W p l e rm_M_over s m ([.ref (ad o0), .int x1, .int x2] : List Value).toArray below meth c H locs 0 0 (MQ below (ow_Ql G D cA ad Q) ([.ref (ad o0), .int x1, .int x2] : List Value).toArray s 0 0 (ow_A G ad)) (F0 m 5 ls [])) (M : om_M) (x5 : Int32) (t0 : Int64) (H : Heap) (locs : List Loc) (ls : Array Slot), wp_M_over_43 F o0 x1 x2 Q  K5 M x5 t0 → ow_B G D cA ad (ow_A G ad) M s s.heap H locs → lv_has ls 6 [(0, .ref (ad o0)), (1, .int x1), (2, .int x2), (5, .int x5)] → W p l e rm_M_over s m ([.ref (ad o0), .int x1, .int x2] : List Value).toArray below meth c H locs 0 0 (MQ below (ow_Ql G D cA ad Q) ([.ref (ad o0), .int x1, .int x2] : List Value).toArray s 0 0 (ow_A G ad)) (F0 m 43 ls [.long t0]) := by
    intro  K5 hK5 M x5 t0 H locs ls h hB hl
    refine lv_lstore_n hx hb dc_M_over_43 rfl hl (by decide) rfl (fun ls hl => ?_)
    refine lv_iinc hx hb dc_M_over_44 hl (k := 4) rfl rfl (by decide) rfl (fun ls hl => ?_)
    refine lv_goto hx hb dc_M_over_47 rfl ?_
    exact hK5 _ _ _ _ _ _ h hB (lv_sub hl [2, 3, 4, 1, 0] rfl)
  have B5 : ∀   (K5 : om_M × Int64 × Int32 → Prop) (hK5 : ∀ (M : om_M) (j3 : Int64) (x5 : Int32) (H : Heap) (locs : List Loc) (ls : Array Slot), K5 (M, j3, x5) → ow_B G D cA ad (ow_A G ad) M s s.heap H locs → lv_has ls 6 [(0, .ref (ad o0)), (1, .int x1), (2, .int x2), (3, .long j3), (5, .int x5)] → W p l e rm_M_over s m ([.ref (ad o0), .int x1, .int x2] : List Value).toArray below meth c H locs 0 0 (MQ below (ow_Ql G D cA ad Q) ([.ref (ad o0), .int x1, .int x2] : List Value).toArray s 0 0 (ow_A G ad)) (F0 m 5 ls [])) (M : om_M) (j3 : Int64) (x5 : Int32) (H : Heap) (locs : List Loc) (ls : Array Slot), wp_M_over_5b F o0 x1 x2 Q   K5 M j3 x5 → ow_B G D cA ad (ow_A G ad) M s s.heap H locs → lv_has ls 6 [(0, .ref (ad o0)), (1, .int x1), (2, .int x2), (3, .long j3), (5, .int x5)] → W p l e rm_M_over s m ([.ref (ad o0), .int x1, .int x2] : List Value).toArray below meth c H locs 0 0 (MQ below (ow_Ql G D cA ad Q) ([.ref (ad o0), .int x1, .int x2] : List Value).toArray s 0 0 (ow_A G ad)) (F0 m 5 ls []) := by
    intro   K5 hK5 M j3 x5 H locs ls h hB hl
    refine lv_iload hx hb dc_M_over_5 (lv_at hl 4 rfl) ?_
    refine lv_aload_n hx hb dc_M_over_7 rfl (lv_at hl 0 rfl) ?_
    refine ow_get hx hb hts iw_M hown hB k0 rfl 8 (by decide) mw_805 rfl dc_M_over_8 ?_
    obtain ⟨h1, h2⟩ := h
    refine lv_icmp_ge hx hb dc_M_over_11 rfl (fun hc => ?_) (fun hc => ?_)
    · have h := h1 hc
      refine lv_lload_n hx hb dc_M_over_50 rfl (lv_at hl 3 rfl) ?_
      exact ow_lret hx hb hr hlocks hB h dc_M_over_51
    · have h := h2 hc
      refine lv_iload_n hx hb dc_M_over_14 rfl (lv_at hl 2 rfl) ?_
      refine lv_iload hx hb dc_M_over_15 (lv_at hl 4 rfl) ?_
      refine lv_ishr hx hb dc_M_over_17 ?_
      refine lv_iconst (v := 1) hx hb dc_M_over_18 rfl ?_
      refine lv_iand hx hb dc_M_over_19 ?_
      refine lv_iconst (v := 1) hx hb dc_M_over_20 rfl ?_
      obtain ⟨h1, h2⟩ := h
      refine lv_icmp_ne hx hb dc_M_over_21 rfl (fun hc => ?_) (fun hc => ?_)
      · have h := h2 hc
        refine lv_lload_n hx hb dc_M_over_42 rfl (lv_at hl 3 rfl) ?_
        exact L43 K5 hK5 _ _ _ _ _ _ h hB (lv_sub hl [0, 1, 2, 4] rfl)
      · have h := h1 hc
        refine lv_lload_n hx hb dc_M_over_24 rfl (lv_at hl 3 rfl) ?_
        refine lv_aload_n hx hb dc_M_over_25 rfl (lv_at hl 0 rfl) ?_
        refine ow_get hx hb hts iw_M hown hB k0 rfl 15 (by decide) mw_812 rfl dc_M_over_26 ?_
        refine lv_bipush (v := 7) hx hb dc_M_over_29 rfl ?_
        refine lv_iload hx hb dc_M_over_31 (lv_at hl 4 rfl) ?_
        refine lv_imul hx hb dc_M_over_33 ?_
        refine lv_iload_n hx hb dc_M_over_34 rfl (lv_at hl 1 rfl) ?_
        refine lv_iadd hx hb dc_M_over_35 ?_
        obtain ⟨hi1, h⟩ := h
        refine ow_iald hx hb hB (ly_M_pairs hG k0) hi1 dc_M_over_36 ?_
        refine lv_i2l hx hb dc_M_over_37 rfl ?_
        refine lv_ladd hx hb dc_M_over_38 ?_
        refine lv_goto hx hb dc_M_over_39 rfl ?_
        exact L43 K5 hK5 _ _ _ _ _ _ h hB (lv_sub hl [0, 1, 2, 4] rfl)
  have L5 : ∀   (M : om_M) (j3 : Int64) (x5 : Int32) (H : Heap) (locs : List Loc) (ls : Array Slot), wp_M_over_5 F o0 x1 x2 Q   M j3 x5 → ow_B G D cA ad (ow_A G ad) M s s.heap H locs → lv_has ls 6 [(0, .ref (ad o0)), (1, .int x1), (2, .int x2), (3, .long j3), (5, .int x5)] → W p l e rm_M_over s m ([.ref (ad o0), .int x1, .int x2] : List Value).toArray below meth c H locs 0 0 (MQ below (ow_Ql G D cA ad Q) ([.ref (ad o0), .int x1, .int x2] : List Value).toArray s 0 0 (ow_A G ad)) (F0 m 5 ls []) := by
    have step : ∀ (k : Nat) (M : om_M) (j3 : Int64) (x5 : Int32) (H : Heap) (locs : List Loc) (ls : Array Slot), ow_lp (fun (z : om_M × Int64 × Int32) K => wp_M_over_5b F o0 x1 x2 Q   K z.1 z.2.1 z.2.2) k (M, j3, x5) → ow_B G D cA ad (ow_A G ad) M s s.heap H locs → lv_has ls 6 [(0, .ref (ad o0)), (1, .int x1), (2, .int x2), (3, .long j3), (5, .int x5)] → W p l e rm_M_over s m ([.ref (ad o0), .int x1, .int x2] : List Value).toArray below meth c H locs 0 0 (MQ below (ow_Ql G D cA ad Q) ([.ref (ad o0), .int x1, .int x2] : List Value).toArray s 0 0 (ow_A G ad)) (F0 m 5 ls []) := by
      intro k
      induction k with
      | zero => intro M j3 x5 H locs ls h hB hl; exact False.elim h
      | succ k ih => intro M j3 x5 H locs ls h hB hl; exact B5   (ow_lp _ k) (fun M j3 x5 H locs ls h hB  hl => ih M j3 x5  H locs ls h hB hl) M j3 x5 H locs ls h hB hl
    intro M j3 x5 H locs ls h hB hl
    exact step F M j3 x5 H locs ls h hB hl
  have hl := lv_entry ([.ref (ad o0), .int x1, .int x2]) (n := 6) (Nat.le_of_ble_eq_true rfl)
  rw [lg_entry_eq]
  generalize (lg_sl ([.ref (ad o0), .int x1, .int x2]) ++ List.replicate (6 - (lg_sl ([.ref (ad o0), .int x1, .int x2])).length) Slot.unset).toArray = ls at hl ⊢
  have hl : lv_has ls 6 [(0, .ref (ad o0)), (1, .int x1), (2, .int x2)] := hl
  show W p l e rm_M_over s m _ below meth c s.heap [] 0 0 _ _
  refine lv_lconst (v := 0) hx hb dc_M_over_0 rfl ?_
  refine lv_lstore_n hx hb dc_M_over_1 rfl hl (by decide) rfl (fun ls hl => ?_)
  refine lv_iconst (v := 0) hx hb dc_M_over_2 rfl ?_
  refine lv_istore hx hb dc_M_over_3 hl (by decide) rfl (fun ls hl => ?_)
  exact L5 _ _ _ _ _ _ h hB (lv_sub hl [2, 3, 4, 1, 0] rfl)
abbrev rm_M_findLeast : Room := { frames := 1, cells := 0, slots := 0, locals := 25 }
theorem hd_M_findLeast : yn_M_findLeast.cls ≠ "java/lang/invoke/MethodHandle" ∧ yn_M_findLeast.cls ≠ "java/lang/invoke/VarHandle" ∧ (parseMethodDescriptor yn_M_findLeast.desc).map (fun d => d.parameters.length) = some 0 := by decide +kernel
set_option maxHeartbeats 4000000 in
set_option maxRecDepth 100000 in
theorem ct_M_findLeast (l : Launch) (G : List (Nat × Nat)) (hG : ow_lay G) (D : va_G) (cA : Nat → ClassId) (ad : Nat → Nat) (F : Nat) (o0 : Nat) (k0 : ow_kd G o0 = (3, 9)) (M : om_M) (Q : om_M → Prop) (h : wp_M_findLeast F o0 M Q) : Met l yn_M_findLeast (ow_ws yn_M_findLeast cb_M_findLeast 7 none) rm_M_findLeast (ow_Pc G D cA ad M [.ref (ad o0)]) (ow_Qv G D cA ad Q) 0 0 (ow_A G ad) := by
  refine Met.ofW (cc := cb_M_findLeast) (maxL := 7) (ret := none) (by decide) rfl ?_
  intro p e s m args below meth c s₁ B hml hv
  obtain ⟨rfl, hB⟩ := hv
  have hx := B.exec
  have hb := B.bytes
  have hr := B.returns
  have hlocks := B.notSynchronized
  have hts : ∀ w ∈ lw_g, w.before ([.ref (ad o0)] : List Value).toArray s = true := fun w h => atoms_spec (ws := ow_ws yn_M_findLeast cb_M_findLeast 7 none) B.pre w (List.mem_cons_of_mem _ h)
  have hown : s.vm.findClass "BallotDeskModel" = some m.cls := findClass_of_methodNamed B.named
  clear B
  have L102 : ∀  (K9 : om_M × Int32 → Prop) (hK9 : ∀ (M : om_M) (x1 : Int32) (H : Heap) (locs : List Loc) (ls : Array Slot), K9 (M, x1) → ow_B G D cA ad (ow_A G ad) M s s.heap H locs → lv_has ls 7 [(0, .ref (ad o0)), (1, .int x1)] → W p l e rm_M_findLeast s m ([.ref (ad o0)] : List Value).toArray below meth c H locs 0 0 (MQ below (ow_Qv G D cA ad Q) ([.ref (ad o0)] : List Value).toArray s 0 0 (ow_A G ad)) (F0 m 9 ls [])) (M : om_M) (x1 : Int32)  (H : Heap) (locs : List Loc) (ls : Array Slot), wp_M_findLeast_102 F o0 Q  K9 M x1  → ow_B G D cA ad (ow_A G ad) M s s.heap H locs → lv_has ls 7 [(0, .ref (ad o0)), (1, .int x1)] → W p l e rm_M_findLeast s m ([.ref (ad o0)] : List Value).toArray below meth c H locs 0 0 (MQ below (ow_Qv G D cA ad Q) ([.ref (ad o0)] : List Value).toArray s 0 0 (ow_A G ad)) (F0 m 102 ls []) := by
    intro  K9 hK9 M x1 H locs ls h hB hl
    refine lv_iinc hx hb dc_M_findLeast_102 hl (k := 1) rfl rfl (by decide) rfl (fun ls hl => ?_)
    refine lv_goto hx hb dc_M_findLeast_105 rfl ?_
    exact hK9 _ _ _ _ _ h hB (lv_sub hl [1, 0] rfl)
  have L96 : ∀ (x1 : Int32) (K9 : om_M × Int32 → Prop) (hK9 : ∀ (M : om_M) (x1 : Int32) (H : Heap) (locs : List Loc) (ls : Array Slot), K9 (M, x1) → ow_B G D cA ad (ow_A G ad) M s s.heap H locs → lv_has ls 7 [(0, .ref (ad o0)), (1, .int x1)] → W p l e rm_M_findLeast s m ([.ref (ad o0)] : List Value).toArray below meth c H locs 0 0 (MQ below (ow_Qv G D cA ad Q) ([.ref (ad o0)] : List Value).toArray s 0 0 (ow_A G ad)) (F0 m 9 ls [])) (K21 : om_M × Int32 × Int32 → Prop) (hK21 : ∀ (M : om_M) (x2 : Int32) (x3 : Int32) (H : Heap) (locs : List Loc) (ls : Array Slot), K21 (M, x2, x3) → ow_B G D cA ad (ow_A G ad) M s s.heap H locs → lv_has ls 7 [(0, .ref (ad o0)), (1, .int x1), (2, .int x2), (3, .int x3)] → W p l e rm_M_findLeast s m ([.ref (ad o0)] : List Value).toArray below meth c H locs 0 0 (MQ below (ow_Qv G D cA ad Q) ([.ref (ad o0)] : List Value).toArray s 0 0 (ow_A G ad)) (F0 m 21 ls [])) (M : om_M) (x2 : Int32) (x3 : Int32)  (H : Heap) (locs : List Loc) (ls : Array Slot), wp_M_findLeast_96 F o0 Q x1 K9 K21 M x2 x3  → ow_B G D cA ad (ow_A G ad) M s s.heap H locs → lv_has ls 7 [(0, .ref (ad o0)), (1, .int x1), (2, .int x2), (3, .int x3)] → W p l e rm_M_findLeast s m ([.ref (ad o0)] : List Value).toArray below meth c H locs 0 0 (MQ below (ow_Qv G D cA ad Q) ([.ref (ad o0)] : List Value).toArray s 0 0 (ow_A G ad)) (F0 m 96 ls []) := by
    intro x1 K9 hK9 K21 hK21 M x2 x3 H locs ls h hB hl
    refine lv_iinc hx hb dc_M_findLeast_96 hl (k := 3) rfl rfl (by decide) rfl (fun ls hl => ?_)
    refine lv_goto hx hb dc_M_findLeast_99 rfl ?_
    exact hK21 _ _ _ _ _ _ h hB (lv_sub hl [1, 2, 3, 0] rfl)
  have L93 : ∀ (x1 : Int32) (K9 : om_M × Int32 → Prop) (hK9 : ∀ (M : om_M) (x1 : Int32) (H : Heap) (locs : List Loc) (ls : Array Slot), K9 (M, x1) → ow_B G D cA ad (ow_A G ad) M s s.heap H locs → lv_has ls 7 [(0, .ref (ad o0)), (1, .int x1)] → W p l e rm_M_findLeast s m ([.ref (ad o0)] : List Value).toArray below meth c H locs 0 0 (MQ below (ow_Qv G D cA ad Q) ([.ref (ad o0)] : List Value).toArray s 0 0 (ow_A G ad)) (F0 m 9 ls [])) (K21 : om_M × Int32 × Int32 → Prop) (hK21 : ∀ (M : om_M) (x2 : Int32) (x3 : Int32) (H : Heap) (locs : List Loc) (ls : Array Slot), K21 (M, x2, x3) → ow_B G D cA ad (ow_A G ad) M s s.heap H locs → lv_has ls 7 [(0, .ref (ad o0)), (1, .int x1), (2, .int x2), (3, .int x3)] → W p l e rm_M_findLeast s m ([.ref (ad o0)] : List Value).toArray below meth c H locs 0 0 (MQ below (ow_Qv G D cA ad Q) ([.ref (ad o0)] : List Value).toArray s 0 0 (ow_A G ad)) (F0 m 21 ls [])) (M : om_M) (x3 : Int32) (t0 : Nat) (t1 : Int32) (t2 : Int64) (kt0 : ow_kd G t0 = (4, 128)) (H : Heap) (locs : List Loc) (ls : Array Slot), wp_M_findLeast_93 F o0 Q x1 K9 K21 M x3 t0 t1 t2 → ow_B G D cA ad (ow_A G ad) M s s.heap H locs → lv_has ls 7 [(0, .ref (ad o0)), (1, .int x1), (3, .int x3)] → W p l e rm_M_findLeast s m ([.ref (ad o0)] : List Value).toArray below meth c H locs 0 0 (MQ below (ow_Qv G D cA ad Q) ([.ref (ad o0)] : List Value).toArray s 0 0 (ow_A G ad)) (F0 m 93 ls [.long t2, .int t1, .ref (ad t0)]) := by
    intro x1 K9 hK9 K21 hK21 M x3 t0 t1 t2 kt0 H locs ls h hB hl
    obtain ⟨hi1, h⟩ := h
    refine ow_last hx hb hB kt0 hi1 dc_M_findLeast_93 (fun H locs hB => ?_)
    refine lv_iconst (v := 0) hx hb dc_M_findLeast_94 rfl ?_
    refine lv_istore_n hx hb dc_M_findLeast_95 rfl hl (by decide) rfl (fun ls hl => ?_)
    exact L96 _ K9 hK9 K21 hK21 _ _ _ _ _ _ h hB (lv_sub hl [1, 2, 0, 3] rfl)
  have L82 : ∀ (x1 : Int32) (K9 : om_M × Int32 → Prop) (hK9 : ∀ (M : om_M) (x1 : Int32) (H : Heap) (locs : List Loc) (ls : Array Slot), K9 (M, x1) → ow_B G D cA ad (ow_A G ad) M s s.heap H locs → lv_has ls 7 [(0, .ref (ad o0)), (1, .int x1)] → W p l e rm_M_findLeast s m ([.ref (ad o0)] : List Value).toArray below meth c H locs 0 0 (MQ below (ow_Qv G D cA ad Q) ([.ref (ad o0)] : List Value).toArray s 0 0 (ow_A G ad)) (F0 m 9 ls [])) (K21 : om_M × Int32 × Int32 → Prop) (hK21 : ∀ (M : om_M) (x2 : Int32) (x3 : Int32) (H : Heap) (locs : List Loc) (ls : Array Slot), K21 (M, x2, x3) → ow_B G D cA ad (ow_A G ad) M s s.heap H locs → lv_has ls 7 [(0, .ref (ad o0)), (1, .int x1), (2, .int x2), (3, .int x3)] → W p l e rm_M_findLeast s m ([.ref (ad o0)] : List Value).toArray below meth c H locs 0 0 (MQ below (ow_Qv G D cA ad Q) ([.ref (ad o0)] : List Value).toArray s 0 0 (ow_A G ad)) (F0 m 21 ls [])) (M : om_M) (x3 : Int32) (j5 : Int64) (t0 : Nat) (t1 : Int32) (kt0 : ow_kd G t0 = (4, 128)) (H : Heap) (locs : List Loc) (ls : Array Slot), wp_M_findLeast_82 F o0 Q x1 K9 K21 M x3 j5 t0 t1 → ow_B G D cA ad (ow_A G ad) M s s.heap H locs → lv_has ls 7 [(0, .ref (ad o0)), (1, .int x1), (3, .int x3), (5, .long j5)] → W p l e rm_M_findLeast s m ([.ref (ad o0)] : List Value).toArray below meth c H locs 0 0 (MQ below (ow_Qv G D cA ad Q) ([.ref (ad o0)] : List Value).toArray s 0 0 (ow_A G ad)) (F0 m 82 ls [.int t1, .ref (ad t0)]) := by
    intro x1 K9 hK9 K21 hK21 M x3 j5 t0 t1 kt0 H locs ls h hB hl
    refine lv_lload hx hb dc_M_findLeast_82 (lv_at hl 3 rfl) ?_
    refine lv_goto hx hb dc_M_findLeast_84 rfl ?_
    exact L93 _ K9 hK9 K21 hK21 _ _ _ _ _ kt0 _ _ _ h hB (lv_sub hl [0, 1, 2] rfl)
  have B21 : ∀ (x1 : Int32) (K9 : om_M × Int32 → Prop) (hK9 : ∀ (M : om_M) (x1 : Int32) (H : Heap) (locs : List Loc) (ls : Array Slot), K9 (M, x1) → ow_B G D cA ad (ow_A G ad) M s s.heap H locs → lv_has ls 7 [(0, .ref (ad o0)), (1, .int x1)] → W p l e rm_M_findLeast s m ([.ref (ad o0)] : List Value).toArray below meth c H locs 0 0 (MQ below (ow_Qv G D cA ad Q) ([.ref (ad o0)] : List Value).toArray s 0 0 (ow_A G ad)) (F0 m 9 ls [])) (K21 : om_M × Int32 × Int32 → Prop) (hK21 : ∀ (M : om_M) (x2 : Int32) (x3 : Int32) (H : Heap) (locs : List Loc) (ls : Array Slot), K21 (M, x2, x3) → ow_B G D cA ad (ow_A G ad) M s s.heap H locs → lv_has ls 7 [(0, .ref (ad o0)), (1, .int x1), (2, .int x2), (3, .int x3)] → W p l e rm_M_findLeast s m ([.ref (ad o0)] : List Value).toArray below meth c H locs 0 0 (MQ below (ow_Qv G D cA ad Q) ([.ref (ad o0)] : List Value).toArray s 0 0 (ow_A G ad)) (F0 m 21 ls [])) (M : om_M) (x2 : Int32) (x3 : Int32) (H : Heap) (locs : List Loc) (ls : Array Slot), wp_M_findLeast_21b F o0 Q x1 K9 K21 M x2 x3 → ow_B G D cA ad (ow_A G ad) M s s.heap H locs → lv_has ls 7 [(0, .ref (ad o0)), (1, .int x1), (2, .int x2), (3, .int x3)] → W p l e rm_M_findLeast s m ([.ref (ad o0)] : List Value).toArray below meth c H locs 0 0 (MQ below (ow_Qv G D cA ad Q) ([.ref (ad o0)] : List Value).toArray s 0 0 (ow_A G ad)) (F0 m 21 ls []) := by
    intro x1 K9 hK9 K21 hK21 M x2 x3 H locs ls h hB hl
    refine lv_iload_n hx hb dc_M_findLeast_21 rfl (lv_at hl 3 rfl) ?_
    refine lv_aload_n hx hb dc_M_findLeast_22 rfl (lv_at hl 0 rfl) ?_
    refine ow_get hx hb hts iw_M hown hB k0 rfl 8 (by decide) mw_805 rfl dc_M_findLeast_23 ?_
    obtain ⟨h1, h2⟩ := h
    refine lv_icmp_ge hx hb dc_M_findLeast_26 rfl (fun hc => ?_) (fun hc => ?_)
    · have h := h1 hc
      exact L102 K9 hK9 _ _ _ _ _ h hB (lv_sub hl [0, 1] rfl)
    · have h := h2 hc
      refine lv_iload_n hx hb dc_M_findLeast_29 rfl (lv_at hl 1 rfl) ?_
      refine lv_iconst (v := 1) hx hb dc_M_findLeast_30 rfl ?_
      refine lv_iload_n hx hb dc_M_findLeast_31 rfl (lv_at hl 3 rfl) ?_
      refine lv_ishl hx hb dc_M_findLeast_32 ?_
      refine lv_iconst (v := (-1)) hx hb dc_M_findLeast_33 rfl ?_
      refine lv_ixor hx hb dc_M_findLeast_34 ?_
      refine lv_iand hx hb dc_M_findLeast_35 ?_
      refine lv_istore hx hb dc_M_findLeast_36 hl (by decide) rfl (fun ls hl => ?_)
      refine lv_iload hx hb dc_M_findLeast_38 (lv_at hl 0 rfl) ?_
      refine lv_iload_n hx hb dc_M_findLeast_40 rfl (lv_at hl 2 rfl) ?_
      obtain ⟨h1, h2⟩ := h
      refine lv_icmp_eq hx hb dc_M_findLeast_41 rfl (fun hc => ?_) (fun hc => ?_)
      · have h := h1 hc
        exact L96 _ K9 hK9 K21 hK21 _ _ _ _ _ _ h hB (lv_sub hl [1, 2, 3, 4] rfl)
      · have h := h2 hc
        refine lv_aload_n hx hb dc_M_findLeast_44 rfl (lv_at hl 1 rfl) ?_
        refine lv_iload_n hx hb dc_M_findLeast_45 rfl (lv_at hl 4 rfl) ?_
        refine lv_iload hx hb dc_M_findLeast_46 (lv_at hl 0 rfl) ?_
        refine ow_calll (va_runV (As := [.int x3, .int (x1 &&& (((1 : Int32) <<< (x3 &&& 31)) ^^^ (-1)))]) (rest := []) ⟨hx, hb, hml, hown, hts⟩ (ct_M_over l G hG D cA ad F _ k0 _ _ _ _ h) ⟨ow_cb 2 hts mw_1021 mw_12 mw_1018 rfl rfl hd_M_over ⟨Nat.le_of_ble_eq_true rfl, Nat.le_of_ble_eq_true rfl⟩, hts _ mw_1020, hts _ ms_43⟩ (ow_preV hB k0 rfl) rfl rfl hl.1 rfl (lv_room (Nat.le_of_ble_eq_true rfl)) dc_M_findLeast_48 ⟨Nat.zero_le _, Nat.zero_le _⟩) hB (fun r3 M2 H locs h hB => ?_)
        refine lv_aload_n hx hb dc_M_findLeast_51 rfl (lv_at hl 1 rfl) ?_
        refine ow_get hx hb hts iw_M hown hB k0 rfl 19 (by decide) mw_816 rfl dc_M_findLeast_52 ?_
        refine lv_iload hx hb dc_M_findLeast_55 (lv_at hl 0 rfl) ?_
        obtain ⟨hi4, h⟩ := h
        refine ow_lald hx hb hB (ly_M_least hG k0) hi4 dc_M_findLeast_57 ?_
        refine lv_ladd hx hb dc_M_findLeast_58 ?_
        refine lv_lstore hx hb dc_M_findLeast_59 hl (by decide) rfl (fun ls hl => ?_)
        refine lv_aload_n hx hb dc_M_findLeast_61 rfl (lv_at hl 2 rfl) ?_
        refine ow_get hx hb hts iw_M hown hB k0 rfl 19 (by decide) mw_816 rfl dc_M_findLeast_62 ?_
        refine lv_iload_n hx hb dc_M_findLeast_65 rfl (lv_at hl 3 rfl) ?_
        refine lv_iload_n hx hb dc_M_findLeast_66 rfl (lv_at hl 4 rfl) ?_
        obtain ⟨h1, h2⟩ := h
        refine lv_if_ne hx hb dc_M_findLeast_67 rfl (fun hc => ?_) (fun hc => ?_)
        · have h := h2 hc
          exact L82 _ K9 hK9 K21 hK21 _ _ _ _ _ (ly_M_least hG k0) _ _ _ h hB (lv_sub hl [2, 3, 5, 0] rfl)
        · have h := h1 hc
          refine lv_lload hx hb dc_M_findLeast_70 (lv_at hl 0 rfl) ?_
          refine lv_aload_n hx hb dc_M_findLeast_72 rfl (lv_at hl 2 rfl) ?_
          refine ow_get hx hb hts iw_M hown hB k0 rfl 19 (by decide) mw_816 rfl dc_M_findLeast_73 ?_
          refine lv_iload_n hx hb dc_M_findLeast_76 rfl (lv_at hl 3 rfl) ?_
          obtain ⟨hi5, h⟩ := h
          refine ow_lald hx hb hB (ly_M_least hG k0) hi5 dc_M_findLeast_77 ?_
          obtain ⟨h1, h2⟩ := h
          refine ow_lcmp_ge hx hb dc_M_findLeast_78 dc_M_findLeast_79 rfl (fun hc => ?_) (fun hc => ?_)
          · have h := h2 hc
            refine lv_aload_n hx hb dc_M_findLeast_87 rfl (lv_at hl 2 rfl) ?_
            refine ow_get hx hb hts iw_M hown hB k0 rfl 19 (by decide) mw_816 rfl dc_M_findLeast_88 ?_
            refine lv_iload_n hx hb dc_M_findLeast_91 rfl (lv_at hl 3 rfl) ?_
            refine ow_lald hx hb hB (ly_M_least hG k0) hi5 dc_M_findLeast_92 ?_
            exact L93 _ K9 hK9 K21 hK21 _ _ _ _ _ (ly_M_least hG k0) _ _ _ h hB (lv_sub hl [2, 3, 5] rfl)
          · have h := h1 hc
            exact L82 _ K9 hK9 K21 hK21 _ _ _ _ _ (ly_M_least hG k0) _ _ _ h hB (lv_sub hl [2, 3, 5, 0] rfl)
  have L21 : ∀ (x1 : Int32) (K9 : om_M × Int32 → Prop) (hK9 : ∀ (M : om_M) (x1 : Int32) (H : Heap) (locs : List Loc) (ls : Array Slot), K9 (M, x1) → ow_B G D cA ad (ow_A G ad) M s s.heap H locs → lv_has ls 7 [(0, .ref (ad o0)), (1, .int x1)] → W p l e rm_M_findLeast s m ([.ref (ad o0)] : List Value).toArray below meth c H locs 0 0 (MQ below (ow_Qv G D cA ad Q) ([.ref (ad o0)] : List Value).toArray s 0 0 (ow_A G ad)) (F0 m 9 ls [])) (M : om_M) (x2 : Int32) (x3 : Int32) (H : Heap) (locs : List Loc) (ls : Array Slot), wp_M_findLeast_21 F o0 Q x1 K9 M x2 x3 → ow_B G D cA ad (ow_A G ad) M s s.heap H locs → lv_has ls 7 [(0, .ref (ad o0)), (1, .int x1), (2, .int x2), (3, .int x3)] → W p l e rm_M_findLeast s m ([.ref (ad o0)] : List Value).toArray below meth c H locs 0 0 (MQ below (ow_Qv G D cA ad Q) ([.ref (ad o0)] : List Value).toArray s 0 0 (ow_A G ad)) (F0 m 21 ls []) := by
    intro x1 K9 hK9
    have step : ∀ (k : Nat) (M : om_M) (x2 : Int32) (x3 : Int32) (H : Heap) (locs : List Loc) (ls : Array Slot), ow_lp (fun (z : om_M × Int32 × Int32) K => wp_M_findLeast_21b F o0 Q x1 K9 K z.1 z.2.1 z.2.2) k (M, x2, x3) → ow_B G D cA ad (ow_A G ad) M s s.heap H locs → lv_has ls 7 [(0, .ref (ad o0)), (1, .int x1), (2, .int x2), (3, .int x3)] → W p l e rm_M_findLeast s m ([.ref (ad o0)] : List Value).toArray below meth c H locs 0 0 (MQ below (ow_Qv G D cA ad Q) ([.ref (ad o0)] : List Value).toArray s 0 0 (ow_A G ad)) (F0 m 21 ls []) := by
      intro k
      induction k with
      | zero => intro M x2 x3 H locs ls h hB hl; exact False.elim h
      | succ k ih => intro M x2 x3 H locs ls h hB hl; exact B21 x1 K9 hK9 (ow_lp _ k) (fun M x2 x3 H locs ls h hB  hl => ih M x2 x3  H locs ls h hB hl) M x2 x3 H locs ls h hB hl
    intro M x2 x3 H locs ls h hB hl
    exact step F M x2 x3 H locs ls h hB hl
  have B9 : ∀   (K9 : om_M × Int32 → Prop) (hK9 : ∀ (M : om_M) (x1 : Int32) (H : Heap) (locs : List Loc) (ls : Array Slot), K9 (M, x1) → ow_B G D cA ad (ow_A G ad) M s s.heap H locs → lv_has ls 7 [(0, .ref (ad o0)), (1, .int x1)] → W p l e rm_M_findLeast s m ([.ref (ad o0)] : List Value).toArray below meth c H locs 0 0 (MQ below (ow_Qv G D cA ad Q) ([.ref (ad o0)] : List Value).toArray s 0 0 (ow_A G ad)) (F0 m 9 ls [])) (M : om_M) (x1 : Int32) (H : Heap) (locs : List Loc) (ls : Array Slot), wp_M_findLeast_9b F o0 Q   K9 M x1 → ow_B G D cA ad (ow_A G ad) M s s.heap H locs → lv_has ls 7 [(0, .ref (ad o0)), (1, .int x1)] → W p l e rm_M_findLeast s m ([.ref (ad o0)] : List Value).toArray below meth c H locs 0 0 (MQ below (ow_Qv G D cA ad Q) ([.ref (ad o0)] : List Value).toArray s 0 0 (ow_A G ad)) (F0 m 9 ls []) := by
    intro   K9 hK9 M x1 H locs ls h hB hl
    refine lv_iload_n hx hb dc_M_findLeast_9 rfl (lv_at hl 1 rfl) ?_
    refine lv_aload_n hx hb dc_M_findLeast_10 rfl (lv_at hl 0 rfl) ?_
    refine ow_calli (va_runV (As := []) (rest := [.int x1]) ⟨hx, hb, hml, hown, hts⟩ (ct_M_all l G hG D cA ad F _ k0 _ _ h) ⟨ow_cb 0 hts mw_957 mw_12 mw_954 rfl rfl hd_M_all ⟨Nat.le_of_ble_eq_true rfl, Nat.le_of_ble_eq_true rfl⟩, hts _ mw_956, hts _ ms_28⟩ (ow_preV hB k0 rfl) rfl rfl hl.1 rfl (lv_room (Nat.le_of_ble_eq_true rfl)) dc_M_findLeast_11 ⟨Nat.zero_le _, Nat.zero_le _⟩) hB (fun r7 M6 H locs h hB => ?_)
    obtain ⟨h1, h2⟩ := h
    refine lv_icmp_gt hx hb dc_M_findLeast_14 rfl (fun hc => ?_) (fun hc => ?_)
    · have h := h1 hc
      exact ow_vret hx hb hr hlocks hB h dc_M_findLeast_108
    · have h := h2 hc
      refine lv_iconst (v := 1) hx hb dc_M_findLeast_17 rfl ?_
      refine lv_istore_n hx hb dc_M_findLeast_18 rfl hl (by decide) rfl (fun ls hl => ?_)
      refine lv_iconst (v := 0) hx hb dc_M_findLeast_19 rfl ?_
      refine lv_istore_n hx hb dc_M_findLeast_20 rfl hl (by decide) rfl (fun ls hl => ?_)
      exact L21 _ K9 hK9 _ _ _ _ _ _ h hB (lv_sub hl [2, 3, 1, 0] rfl)
  have L9 : ∀   (M : om_M) (x1 : Int32) (H : Heap) (locs : List Loc) (ls : Array Slot), wp_M_findLeast_9 F o0 Q   M x1 → ow_B G D cA ad (ow_A G ad) M s s.heap H locs → lv_has ls 7 [(0, .ref (ad o0)), (1, .int x1)] → W p l e rm_M_findLeast s m ([.ref (ad o0)] : List Value).toArray below meth c H locs 0 0 (MQ below (ow_Qv G D cA ad Q) ([.ref (ad o0)] : List Value).toArray s 0 0 (ow_A G ad)) (F0 m 9 ls []) := by
    have step : ∀ (k : Nat) (M : om_M) (x1 : Int32) (H : Heap) (locs : List Loc) (ls : Array Slot), ow_lp (fun (z : om_M × Int32) K => wp_M_findLeast_9b F o0 Q   K z.1 z.2) k (M, x1) → ow_B G D cA ad (ow_A G ad) M s s.heap H locs → lv_has ls 7 [(0, .ref (ad o0)), (1, .int x1)] → W p l e rm_M_findLeast s m ([.ref (ad o0)] : List Value).toArray below meth c H locs 0 0 (MQ below (ow_Qv G D cA ad Q) ([.ref (ad o0)] : List Value).toArray s 0 0 (ow_A G ad)) (F0 m 9 ls []) := by
      intro k
      induction k with
      | zero => intro M x1 H locs ls h hB hl; exact False.elim h
      | succ k ih => intro M x1 H locs ls h hB hl; exact B9   (ow_lp _ k) (fun M x1 H locs ls h hB  hl => ih M x1  H locs ls h hB hl) M x1 H locs ls h hB hl
    intro M x1 H locs ls h hB hl
    exact step F M x1 H locs ls h hB hl
  have hl := lv_entry ([.ref (ad o0)]) (n := 7) (Nat.le_of_ble_eq_true rfl)
  rw [lg_entry_eq]
  generalize (lg_sl ([.ref (ad o0)]) ++ List.replicate (7 - (lg_sl ([.ref (ad o0)])).length) Slot.unset).toArray = ls at hl ⊢
  have hl : lv_has ls 7 [(0, .ref (ad o0))] := hl
  show W p l e rm_M_findLeast s m _ below meth c s.heap [] 0 0 _ _
  refine lv_aload_n hx hb dc_M_findLeast_0 rfl (lv_at hl 0 rfl) ?_
  refine ow_get hx hb hts iw_M hown hB k0 rfl 19 (by decide) mw_816 rfl dc_M_findLeast_1 ?_
  refine lv_iconst (v := 0) hx hb dc_M_findLeast_4 rfl ?_
  refine lv_lconst (v := 0) hx hb dc_M_findLeast_5 rfl ?_
  obtain ⟨hi8, h⟩ := h
  refine ow_last hx hb hB (ly_M_least hG k0) hi8 dc_M_findLeast_6 (fun H locs hB => ?_)
  refine lv_iconst (v := 1) hx hb dc_M_findLeast_7 rfl ?_
  refine lv_istore_n hx hb dc_M_findLeast_8 rfl hl (by decide) rfl (fun ls hl => ?_)
  exact L9 _ _ _ _ _ h hB (lv_sub hl [1, 0] rfl)
abbrev rm_M_agreeing : Room := { frames := 2, cells := 0, slots := 0, locals := 51 }
theorem hd_M_agreeing : yn_M_agreeing.cls ≠ "java/lang/invoke/MethodHandle" ∧ yn_M_agreeing.cls ≠ "java/lang/invoke/VarHandle" ∧ (parseMethodDescriptor yn_M_agreeing.desc).map (fun d => d.parameters.length) = some 0 := by decide +kernel
set_option maxHeartbeats 4000000 in
set_option maxRecDepth 100000 in
theorem ct_M_agreeing (l : Launch) (G : List (Nat × Nat)) (hG : ow_lay G) (D : va_G) (cA : Nat → ClassId) (ad : Nat → Nat) (F : Nat) (o0 : Nat) (k0 : ow_kd G o0 = (3, 9)) (M : om_M) (Q : Int32 → om_M → Prop) (h : wp_M_agreeing F o0 M Q) : Met l yn_M_agreeing (ow_ws yn_M_agreeing cb_M_agreeing 4 (some .int)) rm_M_agreeing (ow_Pc G D cA ad M [.ref (ad o0)]) (ow_Qi G D cA ad Q) 0 0 (ow_A G ad) := by
  refine Met.ofW (cc := cb_M_agreeing) (maxL := 4) (ret := (some .int)) (by decide) rfl ?_
  intro p e s m args below meth c s₁ B hml hv
  obtain ⟨rfl, hB⟩ := hv
  have hx := B.exec
  have hb := B.bytes
  have hr := B.returns
  have hlocks := B.notSynchronized
  have hts : ∀ w ∈ lw_g, w.before ([.ref (ad o0)] : List Value).toArray s = true := fun w h => atoms_spec (ws := ow_ws yn_M_agreeing cb_M_agreeing 4 (some .int)) B.pre w (List.mem_cons_of_mem _ h)
  have hown : s.vm.findClass "BallotDeskModel" = some m.cls := findClass_of_methodNamed B.named
  clear B
  have L62 : ∀  (K8 : om_M × Int32 × Int32 → Prop) (hK8 : ∀ (M : om_M) (x1 : Int32) (x2 : Int32) (H : Heap) (locs : List Loc) (ls : Array Slot), K8 (M, x1, x2) → ow_B G D cA ad (ow_A G ad) M s s.heap H locs → lv_has ls 4 [(0, .ref (ad o0)), (1, .int x1), (2, .int x2)] → W p l e rm_M_agreeing s m ([.ref (ad o0)] : List Value).toArray below meth c H locs 0 0 (MQ below (ow_Qi G D cA ad Q) ([.ref (ad o0)] : List Value).toArray s 0 0 (ow_A G ad)) (F0 m 8 ls [])) (M : om_M) (x2 : Int32) (t0 : Int32) (H : Heap) (locs : List Loc) (ls : Array Slot), wp_M_agreeing_62 F o0 Q  K8 M x2 t0 → ow_B G D cA ad (ow_A G ad) M s s.heap H locs → lv_has ls 4 [(0, .ref (ad o0)), (2, .int x2)] → W p l e rm_M_agreeing s m ([.ref (ad o0)] : List Value).toArray below meth c H locs 0 0 (MQ below (ow_Qi G D cA ad Q) ([.ref (ad o0)] : List Value).toArray s 0 0 (ow_A G ad)) (F0 m 62 ls [.int t0]) := by
    intro  K8 hK8 M x2 t0 H locs ls h hB hl
    refine lv_istore_n hx hb dc_M_agreeing_62 rfl hl (by decide) rfl (fun ls hl => ?_)
    refine lv_iinc hx hb dc_M_agreeing_63 hl (k := 2) rfl rfl (by decide) rfl (fun ls hl => ?_)
    refine lv_goto hx hb dc_M_agreeing_66 rfl ?_
    exact hK8 _ _ _ _ _ _ h hB (lv_sub hl [2, 1, 0] rfl)
  have B8 : ∀   (K8 : om_M × Int32 × Int32 → Prop) (hK8 : ∀ (M : om_M) (x1 : Int32) (x2 : Int32) (H : Heap) (locs : List Loc) (ls : Array Slot), K8 (M, x1, x2) → ow_B G D cA ad (ow_A G ad) M s s.heap H locs → lv_has ls 4 [(0, .ref (ad o0)), (1, .int x1), (2, .int x2)] → W p l e rm_M_agreeing s m ([.ref (ad o0)] : List Value).toArray below meth c H locs 0 0 (MQ below (ow_Qi G D cA ad Q) ([.ref (ad o0)] : List Value).toArray s 0 0 (ow_A G ad)) (F0 m 8 ls [])) (M : om_M) (x1 : Int32) (x2 : Int32) (H : Heap) (locs : List Loc) (ls : Array Slot), wp_M_agreeing_8b F o0 Q   K8 M x1 x2 → ow_B G D cA ad (ow_A G ad) M s s.heap H locs → lv_has ls 4 [(0, .ref (ad o0)), (1, .int x1), (2, .int x2)] → W p l e rm_M_agreeing s m ([.ref (ad o0)] : List Value).toArray below meth c H locs 0 0 (MQ below (ow_Qi G D cA ad Q) ([.ref (ad o0)] : List Value).toArray s 0 0 (ow_A G ad)) (F0 m 8 ls []) := by
    intro   K8 hK8 M x1 x2 H locs ls h hB hl
    refine lv_iload_n hx hb dc_M_agreeing_8 rfl (lv_at hl 2 rfl) ?_
    refine lv_aload_n hx hb dc_M_agreeing_9 rfl (lv_at hl 0 rfl) ?_
    refine ow_get hx hb hts iw_M hown hB k0 rfl 8 (by decide) mw_805 rfl dc_M_agreeing_10 ?_
    obtain ⟨h1, h2⟩ := h
    refine lv_icmp_ge hx hb dc_M_agreeing_13 rfl (fun hc => ?_) (fun hc => ?_)
    · have h := h1 hc
      refine lv_iload_n hx hb dc_M_agreeing_69 rfl (lv_at hl 1 rfl) ?_
      exact ow_iret hx hb hr hlocks hB h dc_M_agreeing_70
    · have h := h2 hc
      refine lv_aload_n hx hb dc_M_agreeing_16 rfl (lv_at hl 0 rfl) ?_
      refine ow_calli (va_runV (As := []) (rest := []) ⟨hx, hb, hml, hown, hts⟩ (ct_M_all l G hG D cA ad F _ k0 _ _ h) ⟨ow_cb 0 hts mw_957 mw_12 mw_954 rfl rfl hd_M_all ⟨Nat.le_of_ble_eq_true rfl, Nat.le_of_ble_eq_true rfl⟩, hts _ mw_956, hts _ ms_28⟩ (ow_preV hB k0 rfl) rfl rfl hl.1 rfl (lv_room (Nat.le_of_ble_eq_true rfl)) dc_M_agreeing_17 ⟨Nat.zero_le _, Nat.zero_le _⟩) hB (fun r2 M1 H locs h hB => ?_)
      refine lv_iconst (v := 1) hx hb dc_M_agreeing_20 rfl ?_
      refine lv_iload_n hx hb dc_M_agreeing_21 rfl (lv_at hl 2 rfl) ?_
      refine lv_ishl hx hb dc_M_agreeing_22 ?_
      refine lv_iconst (v := (-1)) hx hb dc_M_agreeing_23 rfl ?_
      refine lv_ixor hx hb dc_M_agreeing_24 ?_
      refine lv_iand hx hb dc_M_agreeing_25 ?_
      refine lv_istore_n hx hb dc_M_agreeing_26 rfl hl (by decide) rfl (fun ls hl => ?_)
      refine lv_aload_n hx hb dc_M_agreeing_27 rfl (lv_at hl 1 rfl) ?_
      refine lv_iload_n hx hb dc_M_agreeing_28 rfl (lv_at hl 3 rfl) ?_
      refine lv_iload_n hx hb dc_M_agreeing_29 rfl (lv_at hl 0 rfl) ?_
      refine ow_calll (va_runV (As := [.int x2, .int (r2 &&& (((1 : Int32) <<< (x2 &&& 31)) ^^^ (-1)))]) (rest := []) ⟨hx, hb, hml, hown, hts⟩ (ct_M_over l G hG D cA ad F _ k0 _ _ _ _ h) ⟨ow_cb 2 hts mw_1021 mw_12 mw_1018 rfl rfl hd_M_over ⟨Nat.le_of_ble_eq_true rfl, Nat.le_of_ble_eq_true rfl⟩, hts _ mw_1020, hts _ ms_43⟩ (ow_preV hB k0 rfl) rfl rfl hl.1 rfl (lv_room (Nat.le_of_ble_eq_true rfl)) dc_M_agreeing_30 ⟨Nat.zero_le _, Nat.zero_le _⟩) hB (fun r4 M3 H locs h hB => ?_)
      refine lv_aload_n hx hb dc_M_agreeing_33 rfl (lv_at hl 1 rfl) ?_
      refine ow_get hx hb hts iw_M hown hB k0 rfl 19 (by decide) mw_816 rfl dc_M_agreeing_34 ?_
      refine lv_iload_n hx hb dc_M_agreeing_37 rfl (lv_at hl 0 rfl) ?_
      obtain ⟨hi5, h⟩ := h
      refine ow_lald hx hb hB (ly_M_least hG k0) hi5 dc_M_agreeing_38 ?_
      refine lv_ladd hx hb dc_M_agreeing_39 ?_
      refine lv_aload_n hx hb dc_M_agreeing_40 rfl (lv_at hl 1 rfl) ?_
      refine ow_get hx hb hts iw_M hown hB k0 rfl 19 (by decide) mw_816 rfl dc_M_agreeing_41 ?_
      refine lv_aload_n hx hb dc_M_agreeing_44 rfl (lv_at hl 1 rfl) ?_
      refine ow_calli (va_runV (As := []) (rest := [.ref (ad (o0 + 15)), .long (r4 + (M3.2 (o0 + 15) (r2 &&& (((1 : Int32) <<< (x2 &&& 31)) ^^^ (-1))).toNatClampNeg))]) ⟨hx, hb, hml, hown, hts⟩ (ct_M_all l G hG D cA ad F _ k0 _ _ h) ⟨ow_cb 0 hts mw_957 mw_12 mw_954 rfl rfl hd_M_all ⟨Nat.le_of_ble_eq_true rfl, Nat.le_of_ble_eq_true rfl⟩, hts _ mw_956, hts _ ms_28⟩ (ow_preV hB k0 rfl) rfl rfl hl.1 rfl (lv_room (Nat.le_of_ble_eq_true rfl)) dc_M_agreeing_45 ⟨Nat.zero_le _, Nat.zero_le _⟩) hB (fun r7 M6 H locs h hB => ?_)
      obtain ⟨hi8, h⟩ := h
      refine ow_lald hx hb hB (ly_M_least hG k0) hi8 dc_M_agreeing_48 ?_
      obtain ⟨h1, h2⟩ := h
      refine ow_lcmp_ne hx hb dc_M_agreeing_49 dc_M_agreeing_50 rfl (fun hc => ?_) (fun hc => ?_)
      · have h := h2 hc
        refine lv_iload_n hx hb dc_M_agreeing_61 rfl (lv_at hl 2 rfl) ?_
        exact L62 K8 hK8 _ _ _ _ _ _ h hB (lv_sub hl [1, 3] rfl)
      · have h := h1 hc
        refine lv_iload_n hx hb dc_M_agreeing_53 rfl (lv_at hl 2 rfl) ?_
        refine lv_iconst (v := 1) hx hb dc_M_agreeing_54 rfl ?_
        refine lv_iload_n hx hb dc_M_agreeing_55 rfl (lv_at hl 3 rfl) ?_
        refine lv_ishl hx hb dc_M_agreeing_56 ?_
        refine lv_ior hx hb dc_M_agreeing_57 ?_
        refine lv_goto hx hb dc_M_agreeing_58 rfl ?_
        exact L62 K8 hK8 _ _ _ _ _ _ h hB (lv_sub hl [1, 3] rfl)
  have L8 : ∀   (M : om_M) (x1 : Int32) (x2 : Int32) (H : Heap) (locs : List Loc) (ls : Array Slot), wp_M_agreeing_8 F o0 Q   M x1 x2 → ow_B G D cA ad (ow_A G ad) M s s.heap H locs → lv_has ls 4 [(0, .ref (ad o0)), (1, .int x1), (2, .int x2)] → W p l e rm_M_agreeing s m ([.ref (ad o0)] : List Value).toArray below meth c H locs 0 0 (MQ below (ow_Qi G D cA ad Q) ([.ref (ad o0)] : List Value).toArray s 0 0 (ow_A G ad)) (F0 m 8 ls []) := by
    have step : ∀ (k : Nat) (M : om_M) (x1 : Int32) (x2 : Int32) (H : Heap) (locs : List Loc) (ls : Array Slot), ow_lp (fun (z : om_M × Int32 × Int32) K => wp_M_agreeing_8b F o0 Q   K z.1 z.2.1 z.2.2) k (M, x1, x2) → ow_B G D cA ad (ow_A G ad) M s s.heap H locs → lv_has ls 4 [(0, .ref (ad o0)), (1, .int x1), (2, .int x2)] → W p l e rm_M_agreeing s m ([.ref (ad o0)] : List Value).toArray below meth c H locs 0 0 (MQ below (ow_Qi G D cA ad Q) ([.ref (ad o0)] : List Value).toArray s 0 0 (ow_A G ad)) (F0 m 8 ls []) := by
      intro k
      induction k with
      | zero => intro M x1 x2 H locs ls h hB hl; exact False.elim h
      | succ k ih => intro M x1 x2 H locs ls h hB hl; exact B8   (ow_lp _ k) (fun M x1 x2 H locs ls h hB  hl => ih M x1 x2  H locs ls h hB hl) M x1 x2 H locs ls h hB hl
    intro M x1 x2 H locs ls h hB hl
    exact step F M x1 x2 H locs ls h hB hl
  have hl := lv_entry ([.ref (ad o0)]) (n := 4) (Nat.le_of_ble_eq_true rfl)
  rw [lg_entry_eq]
  generalize (lg_sl ([.ref (ad o0)]) ++ List.replicate (4 - (lg_sl ([.ref (ad o0)])).length) Slot.unset).toArray = ls at hl ⊢
  have hl : lv_has ls 4 [(0, .ref (ad o0))] := hl
  show W p l e rm_M_agreeing s m _ below meth c s.heap [] 0 0 _ _
  refine lv_aload_n hx hb dc_M_agreeing_0 rfl (lv_at hl 0 rfl) ?_
  refine ow_callv (va_runV (As := []) (rest := []) ⟨hx, hb, hml, hown, hts⟩ (ct_M_findLeast l G hG D cA ad F _ k0 _ _ h) ⟨ow_cb 0 hts mw_1017 mw_12 mw_1014 rfl rfl hd_M_findLeast ⟨Nat.le_of_ble_eq_true rfl, Nat.le_of_ble_eq_true rfl⟩, hts _ mw_1016, hts _ ms_42⟩ (ow_preV hB k0 rfl) rfl rfl hl.1 rfl (lv_room (Nat.le_of_ble_eq_true rfl)) dc_M_agreeing_1 ⟨Nat.zero_le _, Nat.zero_le _⟩) hB (fun M9 H locs h hB => ?_)
  refine lv_iconst (v := 0) hx hb dc_M_agreeing_4 rfl ?_
  refine lv_istore_n hx hb dc_M_agreeing_5 rfl hl (by decide) rfl (fun ls hl => ?_)
  refine lv_iconst (v := 0) hx hb dc_M_agreeing_6 rfl ?_
  refine lv_istore_n hx hb dc_M_agreeing_7 rfl hl (by decide) rfl (fun ls hl => ?_)
  exact L8 _ _ _ _ _ _ h hB (lv_sub hl [2, 1, 0] rfl)
abbrev rm_M_uncovered : Room := { frames := 1, cells := 0, slots := 0, locals := 22 }
theorem hd_M_uncovered : yn_M_uncovered.cls ≠ "java/lang/invoke/MethodHandle" ∧ yn_M_uncovered.cls ≠ "java/lang/invoke/VarHandle" ∧ (parseMethodDescriptor yn_M_uncovered.desc).map (fun d => d.parameters.length) = some 0 := by decide +kernel
set_option maxHeartbeats 4000000 in
set_option maxRecDepth 100000 in
theorem ct_M_uncovered (l : Launch) (G : List (Nat × Nat)) (hG : ow_lay G) (D : va_G) (cA : Nat → ClassId) (ad : Nat → Nat) (F : Nat) (o0 : Nat) (k0 : ow_kd G o0 = (3, 9)) (M : om_M) (Q : Int32 → om_M → Prop) (h : wp_M_uncovered F o0 M Q) : Met l yn_M_uncovered (ow_ws yn_M_uncovered cb_M_uncovered 6 (some .int)) rm_M_uncovered (ow_Pc G D cA ad M [.ref (ad o0)]) (ow_Qi G D cA ad Q) 0 0 (ow_A G ad) := by
  refine Met.ofW (cc := cb_M_uncovered) (maxL := 6) (ret := (some .int)) (by decide) rfl ?_
  intro p e s m args below meth c s₁ B hml hv
  obtain ⟨rfl, hB⟩ := hv
  have hx := B.exec
  have hb := B.bytes
  have hr := B.returns
  have hlocks := B.notSynchronized
  have hts : ∀ w ∈ lw_g, w.before ([.ref (ad o0)] : List Value).toArray s = true := fun w h => atoms_spec (ws := ow_ws yn_M_uncovered cb_M_uncovered 6 (some .int)) B.pre w (List.mem_cons_of_mem _ h)
  have hown : s.vm.findClass "BallotDeskModel" = some m.cls := findClass_of_methodNamed B.named
  clear B
  have L131 : ∀  (K7 : om_M × Int32 × Int32 → Prop) (hK7 : ∀ (M : om_M) (x1 : Int32) (x2 : Int32) (H : Heap) (locs : List Loc) (ls : Array Slot), K7 (M, x1, x2) → ow_B G D cA ad (ow_A G ad) M s s.heap H locs → lv_has ls 6 [(0, .ref (ad o0)), (1, .int x1), (2, .int x2)] → W p l e rm_M_uncovered s m ([.ref (ad o0)] : List Value).toArray below meth c H locs 0 0 (MQ below (ow_Qi G D cA ad Q) ([.ref (ad o0)] : List Value).toArray s 0 0 (ow_A G ad)) (F0 m 7 ls [])) (M : om_M) (x1 : Int32) (x2 : Int32)  (H : Heap) (locs : List Loc) (ls : Array Slot), wp_M_uncovered_131 F o0 Q  K7 M x1 x2  → ow_B G D cA ad (ow_A G ad) M s s.heap H locs → lv_has ls 6 [(0, .ref (ad o0)), (1, .int x1), (2, .int x2)] → W p l e rm_M_uncovered s m ([.ref (ad o0)] : List Value).toArray below meth c H locs 0 0 (MQ below (ow_Qi G D cA ad Q) ([.ref (ad o0)] : List Value).toArray s 0 0 (ow_A G ad)) (F0 m 131 ls []) := by
    intro  K7 hK7 M x1 x2 H locs ls h hB hl
    refine lv_iinc hx hb dc_M_uncovered_131 hl (k := 2) rfl rfl (by decide) rfl (fun ls hl => ?_)
    refine lv_goto hx hb dc_M_uncovered_134 rfl ?_
    exact hK7 _ _ _ _ _ _ h hB (lv_sub hl [1, 2, 0] rfl)
  have L124 : ∀ (x2 : Int32) (K7 : om_M × Int32 × Int32 → Prop) (hK7 : ∀ (M : om_M) (x1 : Int32) (x2 : Int32) (H : Heap) (locs : List Loc) (ls : Array Slot), K7 (M, x1, x2) → ow_B G D cA ad (ow_A G ad) M s s.heap H locs → lv_has ls 6 [(0, .ref (ad o0)), (1, .int x1), (2, .int x2)] → W p l e rm_M_uncovered s m ([.ref (ad o0)] : List Value).toArray below meth c H locs 0 0 (MQ below (ow_Qi G D cA ad Q) ([.ref (ad o0)] : List Value).toArray s 0 0 (ow_A G ad)) (F0 m 7 ls [])) (K17 : om_M × Int32 × Int32 → Prop) (hK17 : ∀ (M : om_M) (x1 : Int32) (x3 : Int32) (H : Heap) (locs : List Loc) (ls : Array Slot), K17 (M, x1, x3) → ow_B G D cA ad (ow_A G ad) M s s.heap H locs → lv_has ls 6 [(0, .ref (ad o0)), (1, .int x1), (2, .int x2), (3, .int x3)] → W p l e rm_M_uncovered s m ([.ref (ad o0)] : List Value).toArray below meth c H locs 0 0 (MQ below (ow_Qi G D cA ad Q) ([.ref (ad o0)] : List Value).toArray s 0 0 (ow_A G ad)) (F0 m 17 ls [])) (M : om_M) (x3 : Int32) (t0 : Int32) (H : Heap) (locs : List Loc) (ls : Array Slot), wp_M_uncovered_124 F o0 Q x2 K7 K17 M x3 t0 → ow_B G D cA ad (ow_A G ad) M s s.heap H locs → lv_has ls 6 [(0, .ref (ad o0)), (2, .int x2), (3, .int x3)] → W p l e rm_M_uncovered s m ([.ref (ad o0)] : List Value).toArray below meth c H locs 0 0 (MQ below (ow_Qi G D cA ad Q) ([.ref (ad o0)] : List Value).toArray s 0 0 (ow_A G ad)) (F0 m 124 ls [.int t0]) := by
    intro x2 K7 hK7 K17 hK17 M x3 t0 H locs ls h hB hl
    refine lv_istore_n hx hb dc_M_uncovered_124 rfl hl (by decide) rfl (fun ls hl => ?_)
    refine lv_iinc hx hb dc_M_uncovered_125 hl (k := 3) rfl rfl (by decide) rfl (fun ls hl => ?_)
    refine lv_goto hx hb dc_M_uncovered_128 rfl ?_
    exact hK17 _ _ _ _ _ _ h hB (lv_sub hl [2, 1, 3, 0] rfl)
  have L108 : ∀ (x2 : Int32) (K7 : om_M × Int32 × Int32 → Prop) (hK7 : ∀ (M : om_M) (x1 : Int32) (x2 : Int32) (H : Heap) (locs : List Loc) (ls : Array Slot), K7 (M, x1, x2) → ow_B G D cA ad (ow_A G ad) M s s.heap H locs → lv_has ls 6 [(0, .ref (ad o0)), (1, .int x1), (2, .int x2)] → W p l e rm_M_uncovered s m ([.ref (ad o0)] : List Value).toArray below meth c H locs 0 0 (MQ below (ow_Qi G D cA ad Q) ([.ref (ad o0)] : List Value).toArray s 0 0 (ow_A G ad)) (F0 m 7 ls [])) (K17 : om_M × Int32 × Int32 → Prop) (hK17 : ∀ (M : om_M) (x1 : Int32) (x3 : Int32) (H : Heap) (locs : List Loc) (ls : Array Slot), K17 (M, x1, x3) → ow_B G D cA ad (ow_A G ad) M s s.heap H locs → lv_has ls 6 [(0, .ref (ad o0)), (1, .int x1), (2, .int x2), (3, .int x3)] → W p l e rm_M_uncovered s m ([.ref (ad o0)] : List Value).toArray below meth c H locs 0 0 (MQ below (ow_Qi G D cA ad Q) ([.ref (ad o0)] : List Value).toArray s 0 0 (ow_A G ad)) (F0 m 17 ls [])) (M : om_M) (x1 : Int32) (x3 : Int32) (x4 : Int32)  (H : Heap) (locs : List Loc) (ls : Array Slot), wp_M_uncovered_108 F o0 Q x2 K7 K17 M x1 x3 x4  → ow_B G D cA ad (ow_A G ad) M s s.heap H locs → lv_has ls 6 [(0, .ref (ad o0)), (1, .int x1), (2, .int x2), (3, .int x3), (4, .int x4)] → W p l e rm_M_uncovered s m ([.ref (ad o0)] : List Value).toArray below meth c H locs 0 0 (MQ below (ow_Qi G D cA ad Q) ([.ref (ad o0)] : List Value).toArray s 0 0 (ow_A G ad)) (F0 m 108 ls []) := by
    intro x2 K7 hK7 K17 hK17 M x1 x3 x4 H locs ls h hB hl
    refine lv_iload hx hb dc_M_uncovered_108 (lv_at hl 4 rfl) ?_
    obtain ⟨h1, h2⟩ := h
    refine lv_if_eq hx hb dc_M_uncovered_110 rfl (fun hc => ?_) (fun hc => ?_)
    · have h := h1 hc
      refine lv_iload_n hx hb dc_M_uncovered_123 rfl (lv_at hl 1 rfl) ?_
      exact L124 _ K7 hK7 K17 hK17 _ _ _ _ _ _ h hB (lv_sub hl [0, 2, 3] rfl)
    · have h := h2 hc
      refine lv_iload_n hx hb dc_M_uncovered_113 rfl (lv_at hl 1 rfl) ?_
      refine lv_iconst (v := 1) hx hb dc_M_uncovered_114 rfl ?_
      refine lv_iload_n hx hb dc_M_uncovered_115 rfl (lv_at hl 3 rfl) ?_
      refine lv_ishl hx hb dc_M_uncovered_116 ?_
      refine lv_iconst (v := (-1)) hx hb dc_M_uncovered_117 rfl ?_
      refine lv_ixor hx hb dc_M_uncovered_118 ?_
      refine lv_iand hx hb dc_M_uncovered_119 ?_
      refine lv_goto hx hb dc_M_uncovered_120 rfl ?_
      exact L124 _ K7 hK7 K17 hK17 _ _ _ _ _ _ h hB (lv_sub hl [0, 2, 3] rfl)
  have L100 : ∀ (x2 : Int32) (x1 : Int32) (x3 : Int32) (K7 : om_M × Int32 × Int32 → Prop) (hK7 : ∀ (M : om_M) (x1 : Int32) (x2 : Int32) (H : Heap) (locs : List Loc) (ls : Array Slot), K7 (M, x1, x2) → ow_B G D cA ad (ow_A G ad) M s s.heap H locs → lv_has ls 6 [(0, .ref (ad o0)), (1, .int x1), (2, .int x2)] → W p l e rm_M_uncovered s m ([.ref (ad o0)] : List Value).toArray below meth c H locs 0 0 (MQ below (ow_Qi G D cA ad Q) ([.ref (ad o0)] : List Value).toArray s 0 0 (ow_A G ad)) (F0 m 7 ls [])) (K17 : om_M × Int32 × Int32 → Prop) (hK17 : ∀ (M : om_M) (x1 : Int32) (x3 : Int32) (H : Heap) (locs : List Loc) (ls : Array Slot), K17 (M, x1, x3) → ow_B G D cA ad (ow_A G ad) M s s.heap H locs → lv_has ls 6 [(0, .ref (ad o0)), (1, .int x1), (2, .int x2), (3, .int x3)] → W p l e rm_M_uncovered s m ([.ref (ad o0)] : List Value).toArray below meth c H locs 0 0 (MQ below (ow_Qi G D cA ad Q) ([.ref (ad o0)] : List Value).toArray s 0 0 (ow_A G ad)) (F0 m 17 ls [])) (K49 : om_M × Int32 × Int32 → Prop) (hK49 : ∀ (M : om_M) (x4 : Int32) (x5 : Int32) (H : Heap) (locs : List Loc) (ls : Array Slot), K49 (M, x4, x5) → ow_B G D cA ad (ow_A G ad) M s s.heap H locs → lv_has ls 6 [(0, .ref (ad o0)), (1, .int x1), (2, .int x2), (3, .int x3), (4, .int x4), (5, .int x5)] → W p l e rm_M_uncovered s m ([.ref (ad o0)] : List Value).toArray below meth c H locs 0 0 (MQ below (ow_Qi G D cA ad Q) ([.ref (ad o0)] : List Value).toArray s 0 0 (ow_A G ad)) (F0 m 49 ls [])) (M : om_M) (x5 : Int32) (t0 : Int32) (H : Heap) (locs : List Loc) (ls : Array Slot), wp_M_uncovered_100 F o0 Q x2 x1 x3 K7 K17 K49 M x5 t0 → ow_B G D cA ad (ow_A G ad) M s s.heap H locs → lv_has ls 6 [(0, .ref (ad o0)), (1, .int x1), (2, .int x2), (3, .int x3), (5, .int x5)] → W p l e rm_M_uncovered s m ([.ref (ad o0)] : List Value).toArray below meth c H locs 0 0 (MQ below (ow_Qi G D cA ad Q) ([.ref (ad o0)] : List Value).toArray s 0 0 (ow_A G ad)) (F0 m 100 ls [.int t0]) := by
    intro x2 x1 x3 K7 hK7 K17 hK17 K49 hK49 M x5 t0 H locs ls h hB hl
    refine lv_istore hx hb dc_M_uncovered_100 hl (by decide) rfl (fun ls hl => ?_)
    refine lv_iinc hx hb dc_M_uncovered_102 hl (k := 5) rfl rfl (by decide) rfl (fun ls hl => ?_)
    refine lv_goto hx hb dc_M_uncovered_105 rfl ?_
    exact hK49 _ _ _ _ _ _ h hB (lv_sub hl [2, 3, 4, 5, 1, 0] rfl)
  have L99 : ∀ (x2 : Int32) (x1 : Int32) (x3 : Int32) (K7 : om_M × Int32 × Int32 → Prop) (hK7 : ∀ (M : om_M) (x1 : Int32) (x2 : Int32) (H : Heap) (locs : List Loc) (ls : Array Slot), K7 (M, x1, x2) → ow_B G D cA ad (ow_A G ad) M s s.heap H locs → lv_has ls 6 [(0, .ref (ad o0)), (1, .int x1), (2, .int x2)] → W p l e rm_M_uncovered s m ([.ref (ad o0)] : List Value).toArray below meth c H locs 0 0 (MQ below (ow_Qi G D cA ad Q) ([.ref (ad o0)] : List Value).toArray s 0 0 (ow_A G ad)) (F0 m 7 ls [])) (K17 : om_M × Int32 × Int32 → Prop) (hK17 : ∀ (M : om_M) (x1 : Int32) (x3 : Int32) (H : Heap) (locs : List Loc) (ls : Array Slot), K17 (M, x1, x3) → ow_B G D cA ad (ow_A G ad) M s s.heap H locs → lv_has ls 6 [(0, .ref (ad o0)), (1, .int x1), (2, .int x2), (3, .int x3)] → W p l e rm_M_uncovered s m ([.ref (ad o0)] : List Value).toArray below meth c H locs 0 0 (MQ below (ow_Qi G D cA ad Q) ([.ref (ad o0)] : List Value).toArray s 0 0 (ow_A G ad)) (F0 m 17 ls [])) (K49 : om_M × Int32 × Int32 → Prop) (hK49 : ∀ (M : om_M) (x4 : Int32) (x5 : Int32) (H : Heap) (locs : List Loc) (ls : Array Slot), K49 (M, x4, x5) → ow_B G D cA ad (ow_A G ad) M s s.heap H locs → lv_has ls 6 [(0, .ref (ad o0)), (1, .int x1), (2, .int x2), (3, .int x3), (4, .int x4), (5, .int x5)] → W p l e rm_M_uncovered s m ([.ref (ad o0)] : List Value).toArray below meth c H locs 0 0 (MQ below (ow_Qi G D cA ad Q) ([.ref (ad o0)] : List Value).toArray s 0 0 (ow_A G ad)) (F0 m 49 ls [])) (M : om_M) (x5 : Int32)  (H : Heap) (locs : List Loc) (ls : Array Slot), wp_M_uncovered_99 F o0 Q x2 x1 x3 K7 K17 K49 M x5  → ow_B G D cA ad (ow_A G ad) M s s.heap H locs → lv_has ls 6 [(0, .ref (ad o0)), (1, .int x1), (2, .int x2), (3, .int x3), (5, .int x5)] → W p l e rm_M_uncovered s m ([.ref (ad o0)] : List Value).toArray below meth c H locs 0 0 (MQ below (ow_Qi G D cA ad Q) ([.ref (ad o0)] : List Value).toArray s 0 0 (ow_A G ad)) (F0 m 99 ls []) := by
    intro x2 x1 x3 K7 hK7 K17 hK17 K49 hK49 M x5 H locs ls h hB hl
    refine lv_iconst (v := 0) hx hb dc_M_uncovered_99 rfl ?_
    exact L100 _ _ _ K7 hK7 K17 hK17 K49 hK49 _ _ _ _ _ _ h hB (lv_sub hl [0, 1, 2, 3, 4] rfl)
  have L95 : ∀ (x2 : Int32) (x1 : Int32) (x3 : Int32) (K7 : om_M × Int32 × Int32 → Prop) (hK7 : ∀ (M : om_M) (x1 : Int32) (x2 : Int32) (H : Heap) (locs : List Loc) (ls : Array Slot), K7 (M, x1, x2) → ow_B G D cA ad (ow_A G ad) M s s.heap H locs → lv_has ls 6 [(0, .ref (ad o0)), (1, .int x1), (2, .int x2)] → W p l e rm_M_uncovered s m ([.ref (ad o0)] : List Value).toArray below meth c H locs 0 0 (MQ below (ow_Qi G D cA ad Q) ([.ref (ad o0)] : List Value).toArray s 0 0 (ow_A G ad)) (F0 m 7 ls [])) (K17 : om_M × Int32 × Int32 → Prop) (hK17 : ∀ (M : om_M) (x1 : Int32) (x3 : Int32) (H : Heap) (locs : List Loc) (ls : Array Slot), K17 (M, x1, x3) → ow_B G D cA ad (ow_A G ad) M s s.heap H locs → lv_has ls 6 [(0, .ref (ad o0)), (1, .int x1), (2, .int x2), (3, .int x3)] → W p l e rm_M_uncovered s m ([.ref (ad o0)] : List Value).toArray below meth c H locs 0 0 (MQ below (ow_Qi G D cA ad Q) ([.ref (ad o0)] : List Value).toArray s 0 0 (ow_A G ad)) (F0 m 17 ls [])) (K49 : om_M × Int32 × Int32 → Prop) (hK49 : ∀ (M : om_M) (x4 : Int32) (x5 : Int32) (H : Heap) (locs : List Loc) (ls : Array Slot), K49 (M, x4, x5) → ow_B G D cA ad (ow_A G ad) M s s.heap H locs → lv_has ls 6 [(0, .ref (ad o0)), (1, .int x1), (2, .int x2), (3, .int x3), (4, .int x4), (5, .int x5)] → W p l e rm_M_uncovered s m ([.ref (ad o0)] : List Value).toArray below meth c H locs 0 0 (MQ below (ow_Qi G D cA ad Q) ([.ref (ad o0)] : List Value).toArray s 0 0 (ow_A G ad)) (F0 m 49 ls [])) (M : om_M) (x5 : Int32)  (H : Heap) (locs : List Loc) (ls : Array Slot), wp_M_uncovered_95 F o0 Q x2 x1 x3 K7 K17 K49 M x5  → ow_B G D cA ad (ow_A G ad) M s s.heap H locs → lv_has ls 6 [(0, .ref (ad o0)), (1, .int x1), (2, .int x2), (3, .int x3), (5, .int x5)] → W p l e rm_M_uncovered s m ([.ref (ad o0)] : List Value).toArray below meth c H locs 0 0 (MQ below (ow_Qi G D cA ad Q) ([.ref (ad o0)] : List Value).toArray s 0 0 (ow_A G ad)) (F0 m 95 ls []) := by
    intro x2 x1 x3 K7 hK7 K17 hK17 K49 hK49 M x5 H locs ls h hB hl
    refine lv_iconst (v := 1) hx hb dc_M_uncovered_95 rfl ?_
    refine lv_goto hx hb dc_M_uncovered_96 rfl ?_
    exact L100 _ _ _ K7 hK7 K17 hK17 K49 hK49 _ _ _ _ _ _ h hB (lv_sub hl [0, 1, 2, 3, 4] rfl)
  have B49 : ∀ (x2 : Int32) (x1 : Int32) (x3 : Int32) (K7 : om_M × Int32 × Int32 → Prop) (hK7 : ∀ (M : om_M) (x1 : Int32) (x2 : Int32) (H : Heap) (locs : List Loc) (ls : Array Slot), K7 (M, x1, x2) → ow_B G D cA ad (ow_A G ad) M s s.heap H locs → lv_has ls 6 [(0, .ref (ad o0)), (1, .int x1), (2, .int x2)] → W p l e rm_M_uncovered s m ([.ref (ad o0)] : List Value).toArray below meth c H locs 0 0 (MQ below (ow_Qi G D cA ad Q) ([.ref (ad o0)] : List Value).toArray s 0 0 (ow_A G ad)) (F0 m 7 ls [])) (K17 : om_M × Int32 × Int32 → Prop) (hK17 : ∀ (M : om_M) (x1 : Int32) (x3 : Int32) (H : Heap) (locs : List Loc) (ls : Array Slot), K17 (M, x1, x3) → ow_B G D cA ad (ow_A G ad) M s s.heap H locs → lv_has ls 6 [(0, .ref (ad o0)), (1, .int x1), (2, .int x2), (3, .int x3)] → W p l e rm_M_uncovered s m ([.ref (ad o0)] : List Value).toArray below meth c H locs 0 0 (MQ below (ow_Qi G D cA ad Q) ([.ref (ad o0)] : List Value).toArray s 0 0 (ow_A G ad)) (F0 m 17 ls [])) (K49 : om_M × Int32 × Int32 → Prop) (hK49 : ∀ (M : om_M) (x4 : Int32) (x5 : Int32) (H : Heap) (locs : List Loc) (ls : Array Slot), K49 (M, x4, x5) → ow_B G D cA ad (ow_A G ad) M s s.heap H locs → lv_has ls 6 [(0, .ref (ad o0)), (1, .int x1), (2, .int x2), (3, .int x3), (4, .int x4), (5, .int x5)] → W p l e rm_M_uncovered s m ([.ref (ad o0)] : List Value).toArray below meth c H locs 0 0 (MQ below (ow_Qi G D cA ad Q) ([.ref (ad o0)] : List Value).toArray s 0 0 (ow_A G ad)) (F0 m 49 ls [])) (M : om_M) (x4 : Int32) (x5 : Int32) (H : Heap) (locs : List Loc) (ls : Array Slot), wp_M_uncovered_49b F o0 Q x2 x1 x3 K7 K17 K49 M x4 x5 → ow_B G D cA ad (ow_A G ad) M s s.heap H locs → lv_has ls 6 [(0, .ref (ad o0)), (1, .int x1), (2, .int x2), (3, .int x3), (4, .int x4), (5, .int x5)] → W p l e rm_M_uncovered s m ([.ref (ad o0)] : List Value).toArray below meth c H locs 0 0 (MQ below (ow_Qi G D cA ad Q) ([.ref (ad o0)] : List Value).toArray s 0 0 (ow_A G ad)) (F0 m 49 ls []) := by
    intro x2 x1 x3 K7 hK7 K17 hK17 K49 hK49 M x4 x5 H locs ls h hB hl
    refine lv_iload hx hb dc_M_uncovered_49 (lv_at hl 5 rfl) ?_
    refine lv_aload_n hx hb dc_M_uncovered_51 rfl (lv_at hl 0 rfl) ?_
    refine ow_get hx hb hts iw_M hown hB k0 rfl 8 (by decide) mw_805 rfl dc_M_uncovered_52 ?_
    obtain ⟨h1, h2⟩ := h
    refine lv_icmp_ge hx hb dc_M_uncovered_55 rfl (fun hc => ?_) (fun hc => ?_)
    · have h := h1 hc
      exact L108 _ K7 hK7 K17 hK17 _ _ _ _ _ _ _ h hB (lv_sub hl [0, 1, 2, 3, 4] rfl)
    · have h := h2 hc
      refine lv_iload hx hb dc_M_uncovered_58 (lv_at hl 4 rfl) ?_
      obtain ⟨h1, h2⟩ := h
      refine lv_if_eq hx hb dc_M_uncovered_60 rfl (fun hc => ?_) (fun hc => ?_)
      · have h := h1 hc
        exact L99 _ _ _ K7 hK7 K17 hK17 K49 hK49 _ _ _ _ _ h hB (lv_sub hl [0, 1, 2, 3, 5] rfl)
      · have h := h2 hc
        refine lv_iload hx hb dc_M_uncovered_63 (lv_at hl 5 rfl) ?_
        refine lv_iload_n hx hb dc_M_uncovered_65 rfl (lv_at hl 2 rfl) ?_
        obtain ⟨h1, h2⟩ := h
        refine lv_icmp_eq hx hb dc_M_uncovered_66 rfl (fun hc => ?_) (fun hc => ?_)
        · have h := h1 hc
          exact L95 _ _ _ K7 hK7 K17 hK17 K49 hK49 _ _ _ _ _ h hB (lv_sub hl [0, 1, 2, 3, 5] rfl)
        · have h := h2 hc
          refine lv_iload hx hb dc_M_uncovered_69 (lv_at hl 5 rfl) ?_
          refine lv_iload_n hx hb dc_M_uncovered_71 rfl (lv_at hl 3 rfl) ?_
          obtain ⟨h1, h2⟩ := h
          refine lv_icmp_eq hx hb dc_M_uncovered_72 rfl (fun hc => ?_) (fun hc => ?_)
          · have h := h1 hc
            exact L95 _ _ _ K7 hK7 K17 hK17 K49 hK49 _ _ _ _ _ h hB (lv_sub hl [0, 1, 2, 3, 5] rfl)
          · have h := h2 hc
            refine lv_aload_n hx hb dc_M_uncovered_75 rfl (lv_at hl 0 rfl) ?_
            refine lv_iload_n hx hb dc_M_uncovered_76 rfl (lv_at hl 3 rfl) ?_
            refine lv_iload hx hb dc_M_uncovered_77 (lv_at hl 5 rfl) ?_
            refine ow_calli (va_runV (As := [.int x3, .int x5]) (rest := []) ⟨hx, hb, hml, hown, hts⟩ (ct_M_beats l G hG D cA ad F _ k0 _ _ _ _ h) ⟨ow_cb 2 hts mw_969 mw_12 mw_966 rfl rfl hd_M_beats ⟨Nat.le_of_ble_eq_true rfl, Nat.le_of_ble_eq_true rfl⟩, hts _ mw_968, hts _ ms_31⟩ (ow_preV hB k0 rfl) rfl rfl hl.1 rfl (lv_room (Nat.le_of_ble_eq_true rfl)) dc_M_uncovered_79 ⟨Nat.zero_le _, Nat.zero_le _⟩) hB (fun r2 M1 H locs h hB => ?_)
            obtain ⟨h1, h2⟩ := h
            refine lv_if_eq hx hb dc_M_uncovered_82 rfl (fun hc => ?_) (fun hc => ?_)
            · have h := h1 hc
              exact L95 _ _ _ K7 hK7 K17 hK17 K49 hK49 _ _ _ _ _ h hB (lv_sub hl [0, 1, 2, 3, 5] rfl)
            · have h := h2 hc
              refine lv_aload_n hx hb dc_M_uncovered_85 rfl (lv_at hl 0 rfl) ?_
              refine lv_iload_n hx hb dc_M_uncovered_86 rfl (lv_at hl 2 rfl) ?_
              refine lv_iload hx hb dc_M_uncovered_87 (lv_at hl 5 rfl) ?_
              refine ow_calli (va_runV (As := [.int x2, .int x5]) (rest := []) ⟨hx, hb, hml, hown, hts⟩ (ct_M_beats l G hG D cA ad F _ k0 _ _ _ _ h) ⟨ow_cb 2 hts mw_969 mw_12 mw_966 rfl rfl hd_M_beats ⟨Nat.le_of_ble_eq_true rfl, Nat.le_of_ble_eq_true rfl⟩, hts _ mw_968, hts _ ms_31⟩ (ow_preV hB k0 rfl) rfl rfl hl.1 rfl (lv_room (Nat.le_of_ble_eq_true rfl)) dc_M_uncovered_89 ⟨Nat.zero_le _, Nat.zero_le _⟩) hB (fun r4 M3 H locs h hB => ?_)
              obtain ⟨h1, h2⟩ := h
              refine lv_if_eq hx hb dc_M_uncovered_92 rfl (fun hc => ?_) (fun hc => ?_)
              · have h := h1 hc
                exact L99 _ _ _ K7 hK7 K17 hK17 K49 hK49 _ _ _ _ _ h hB (lv_sub hl [0, 1, 2, 3, 5] rfl)
              · have h := h2 hc
                exact L95 _ _ _ K7 hK7 K17 hK17 K49 hK49 _ _ _ _ _ h hB (lv_sub hl [0, 1, 2, 3, 5] rfl)
  have L49 : ∀ (x2 : Int32) (x1 : Int32) (x3 : Int32) (K7 : om_M × Int32 × Int32 → Prop) (hK7 : ∀ (M : om_M) (x1 : Int32) (x2 : Int32) (H : Heap) (locs : List Loc) (ls : Array Slot), K7 (M, x1, x2) → ow_B G D cA ad (ow_A G ad) M s s.heap H locs → lv_has ls 6 [(0, .ref (ad o0)), (1, .int x1), (2, .int x2)] → W p l e rm_M_uncovered s m ([.ref (ad o0)] : List Value).toArray below meth c H locs 0 0 (MQ below (ow_Qi G D cA ad Q) ([.ref (ad o0)] : List Value).toArray s 0 0 (ow_A G ad)) (F0 m 7 ls [])) (K17 : om_M × Int32 × Int32 → Prop) (hK17 : ∀ (M : om_M) (x1 : Int32) (x3 : Int32) (H : Heap) (locs : List Loc) (ls : Array Slot), K17 (M, x1, x3) → ow_B G D cA ad (ow_A G ad) M s s.heap H locs → lv_has ls 6 [(0, .ref (ad o0)), (1, .int x1), (2, .int x2), (3, .int x3)] → W p l e rm_M_uncovered s m ([.ref (ad o0)] : List Value).toArray below meth c H locs 0 0 (MQ below (ow_Qi G D cA ad Q) ([.ref (ad o0)] : List Value).toArray s 0 0 (ow_A G ad)) (F0 m 17 ls [])) (M : om_M) (x4 : Int32) (x5 : Int32) (H : Heap) (locs : List Loc) (ls : Array Slot), wp_M_uncovered_49 F o0 Q x2 x1 x3 K7 K17 M x4 x5 → ow_B G D cA ad (ow_A G ad) M s s.heap H locs → lv_has ls 6 [(0, .ref (ad o0)), (1, .int x1), (2, .int x2), (3, .int x3), (4, .int x4), (5, .int x5)] → W p l e rm_M_uncovered s m ([.ref (ad o0)] : List Value).toArray below meth c H locs 0 0 (MQ below (ow_Qi G D cA ad Q) ([.ref (ad o0)] : List Value).toArray s 0 0 (ow_A G ad)) (F0 m 49 ls []) := by
    intro x2 x1 x3 K7 hK7 K17 hK17
    have step : ∀ (k : Nat) (M : om_M) (x4 : Int32) (x5 : Int32) (H : Heap) (locs : List Loc) (ls : Array Slot), ow_lp (fun (z : om_M × Int32 × Int32) K => wp_M_uncovered_49b F o0 Q x2 x1 x3 K7 K17 K z.1 z.2.1 z.2.2) k (M, x4, x5) → ow_B G D cA ad (ow_A G ad) M s s.heap H locs → lv_has ls 6 [(0, .ref (ad o0)), (1, .int x1), (2, .int x2), (3, .int x3), (4, .int x4), (5, .int x5)] → W p l e rm_M_uncovered s m ([.ref (ad o0)] : List Value).toArray below meth c H locs 0 0 (MQ below (ow_Qi G D cA ad Q) ([.ref (ad o0)] : List Value).toArray s 0 0 (ow_A G ad)) (F0 m 49 ls []) := by
      intro k
      induction k with
      | zero => intro M x4 x5 H locs ls h hB hl; exact False.elim h
      | succ k ih => intro M x4 x5 H locs ls h hB hl; exact B49 x2 x1 x3 K7 hK7 K17 hK17 (ow_lp _ k) (fun M x4 x5 H locs ls h hB  hl => ih M x4 x5  H locs ls h hB hl) M x4 x5 H locs ls h hB hl
    intro M x4 x5 H locs ls h hB hl
    exact step F M x4 x5 H locs ls h hB hl
  have L44 : ∀ (x2 : Int32) (K7 : om_M × Int32 × Int32 → Prop) (hK7 : ∀ (M : om_M) (x1 : Int32) (x2 : Int32) (H : Heap) (locs : List Loc) (ls : Array Slot), K7 (M, x1, x2) → ow_B G D cA ad (ow_A G ad) M s s.heap H locs → lv_has ls 6 [(0, .ref (ad o0)), (1, .int x1), (2, .int x2)] → W p l e rm_M_uncovered s m ([.ref (ad o0)] : List Value).toArray below meth c H locs 0 0 (MQ below (ow_Qi G D cA ad Q) ([.ref (ad o0)] : List Value).toArray s 0 0 (ow_A G ad)) (F0 m 7 ls [])) (K17 : om_M × Int32 × Int32 → Prop) (hK17 : ∀ (M : om_M) (x1 : Int32) (x3 : Int32) (H : Heap) (locs : List Loc) (ls : Array Slot), K17 (M, x1, x3) → ow_B G D cA ad (ow_A G ad) M s s.heap H locs → lv_has ls 6 [(0, .ref (ad o0)), (1, .int x1), (2, .int x2), (3, .int x3)] → W p l e rm_M_uncovered s m ([.ref (ad o0)] : List Value).toArray below meth c H locs 0 0 (MQ below (ow_Qi G D cA ad Q) ([.ref (ad o0)] : List Value).toArray s 0 0 (ow_A G ad)) (F0 m 17 ls [])) (M : om_M) (x1 : Int32) (x3 : Int32) (t0 : Int32) (H : Heap) (locs : List Loc) (ls : Array Slot), wp_M_uncovered_44 F o0 Q x2 K7 K17 M x1 x3 t0 → ow_B G D cA ad (ow_A G ad) M s s.heap H locs → lv_has ls 6 [(0, .ref (ad o0)), (1, .int x1), (2, .int x2), (3, .int x3)] → W p l e rm_M_uncovered s m ([.ref (ad o0)] : List Value).toArray below meth c H locs 0 0 (MQ below (ow_Qi G D cA ad Q) ([.ref (ad o0)] : List Value).toArray s 0 0 (ow_A G ad)) (F0 m 44 ls [.int t0]) := by
    intro x2 K7 hK7 K17 hK17 M x1 x3 t0 H locs ls h hB hl
    refine lv_istore hx hb dc_M_uncovered_44 hl (by decide) rfl (fun ls hl => ?_)
    refine lv_iconst (v := 0) hx hb dc_M_uncovered_46 rfl ?_
    refine lv_istore hx hb dc_M_uncovered_47 hl (by decide) rfl (fun ls hl => ?_)
    exact L49 _ _ _ K7 hK7 K17 hK17 _ _ _ _ _ _ h hB (lv_sub hl [2, 3, 4, 5, 1, 0] rfl)
  have L43 : ∀ (x2 : Int32) (K7 : om_M × Int32 × Int32 → Prop) (hK7 : ∀ (M : om_M) (x1 : Int32) (x2 : Int32) (H : Heap) (locs : List Loc) (ls : Array Slot), K7 (M, x1, x2) → ow_B G D cA ad (ow_A G ad) M s s.heap H locs → lv_has ls 6 [(0, .ref (ad o0)), (1, .int x1), (2, .int x2)] → W p l e rm_M_uncovered s m ([.ref (ad o0)] : List Value).toArray below meth c H locs 0 0 (MQ below (ow_Qi G D cA ad Q) ([.ref (ad o0)] : List Value).toArray s 0 0 (ow_A G ad)) (F0 m 7 ls [])) (K17 : om_M × Int32 × Int32 → Prop) (hK17 : ∀ (M : om_M) (x1 : Int32) (x3 : Int32) (H : Heap) (locs : List Loc) (ls : Array Slot), K17 (M, x1, x3) → ow_B G D cA ad (ow_A G ad) M s s.heap H locs → lv_has ls 6 [(0, .ref (ad o0)), (1, .int x1), (2, .int x2), (3, .int x3)] → W p l e rm_M_uncovered s m ([.ref (ad o0)] : List Value).toArray below meth c H locs 0 0 (MQ below (ow_Qi G D cA ad Q) ([.ref (ad o0)] : List Value).toArray s 0 0 (ow_A G ad)) (F0 m 17 ls [])) (M : om_M) (x1 : Int32) (x3 : Int32)  (H : Heap) (locs : List Loc) (ls : Array Slot), wp_M_uncovered_43 F o0 Q x2 K7 K17 M x1 x3  → ow_B G D cA ad (ow_A G ad) M s s.heap H locs → lv_has ls 6 [(0, .ref (ad o0)), (1, .int x1), (2, .int x2), (3, .int x3)] → W p l e rm_M_uncovered s m ([.ref (ad o0)] : List Value).toArray below meth c H locs 0 0 (MQ below (ow_Qi G D cA ad Q) ([.ref (ad o0)] : List Value).toArray s 0 0 (ow_A G ad)) (F0 m 43 ls []) := by
    intro x2 K7 hK7 K17 hK17 M x1 x3 H locs ls h hB hl
    refine lv_iconst (v := 0) hx hb dc_M_uncovered_43 rfl ?_
    exact L44 _ K7 hK7 K17 hK17 _ _ _ _ _ _ _ h hB (lv_sub hl [0, 1, 2, 3] rfl)
  have B17 : ∀ (x2 : Int32) (K7 : om_M × Int32 × Int32 → Prop) (hK7 : ∀ (M : om_M) (x1 : Int32) (x2 : Int32) (H : Heap) (locs : List Loc) (ls : Array Slot), K7 (M, x1, x2) → ow_B G D cA ad (ow_A G ad) M s s.heap H locs → lv_has ls 6 [(0, .ref (ad o0)), (1, .int x1), (2, .int x2)] → W p l e rm_M_uncovered s m ([.ref (ad o0)] : List Value).toArray below meth c H locs 0 0 (MQ below (ow_Qi G D cA ad Q) ([.ref (ad o0)] : List Value).toArray s 0 0 (ow_A G ad)) (F0 m 7 ls [])) (K17 : om_M × Int32 × Int32 → Prop) (hK17 : ∀ (M : om_M) (x1 : Int32) (x3 : Int32) (H : Heap) (locs : List Loc) (ls : Array Slot), K17 (M, x1, x3) → ow_B G D cA ad (ow_A G ad) M s s.heap H locs → lv_has ls 6 [(0, .ref (ad o0)), (1, .int x1), (2, .int x2), (3, .int x3)] → W p l e rm_M_uncovered s m ([.ref (ad o0)] : List Value).toArray below meth c H locs 0 0 (MQ below (ow_Qi G D cA ad Q) ([.ref (ad o0)] : List Value).toArray s 0 0 (ow_A G ad)) (F0 m 17 ls [])) (M : om_M) (x1 : Int32) (x3 : Int32) (H : Heap) (locs : List Loc) (ls : Array Slot), wp_M_uncovered_17b F o0 Q x2 K7 K17 M x1 x3 → ow_B G D cA ad (ow_A G ad) M s s.heap H locs → lv_has ls 6 [(0, .ref (ad o0)), (1, .int x1), (2, .int x2), (3, .int x3)] → W p l e rm_M_uncovered s m ([.ref (ad o0)] : List Value).toArray below meth c H locs 0 0 (MQ below (ow_Qi G D cA ad Q) ([.ref (ad o0)] : List Value).toArray s 0 0 (ow_A G ad)) (F0 m 17 ls []) := by
    intro x2 K7 hK7 K17 hK17 M x1 x3 H locs ls h hB hl
    refine lv_iload_n hx hb dc_M_uncovered_17 rfl (lv_at hl 3 rfl) ?_
    refine lv_aload_n hx hb dc_M_uncovered_18 rfl (lv_at hl 0 rfl) ?_
    refine ow_get hx hb hts iw_M hown hB k0 rfl 8 (by decide) mw_805 rfl dc_M_uncovered_19 ?_
    obtain ⟨h1, h2⟩ := h
    refine lv_icmp_ge hx hb dc_M_uncovered_22 rfl (fun hc => ?_) (fun hc => ?_)
    · have h := h1 hc
      exact L131 K7 hK7 _ _ _ _ _ _ h hB (lv_sub hl [0, 1, 2] rfl)
    · have h := h2 hc
      refine lv_iload_n hx hb dc_M_uncovered_25 rfl (lv_at hl 2 rfl) ?_
      refine lv_iload_n hx hb dc_M_uncovered_26 rfl (lv_at hl 3 rfl) ?_
      obtain ⟨h1, h2⟩ := h
      refine lv_icmp_eq hx hb dc_M_uncovered_27 rfl (fun hc => ?_) (fun hc => ?_)
      · have h := h1 hc
        exact L43 _ K7 hK7 K17 hK17 _ _ _ _ _ _ h hB (lv_sub hl [0, 1, 2, 3] rfl)
      · have h := h2 hc
        refine lv_aload_n hx hb dc_M_uncovered_30 rfl (lv_at hl 0 rfl) ?_
        refine lv_iload_n hx hb dc_M_uncovered_31 rfl (lv_at hl 2 rfl) ?_
        refine lv_iload_n hx hb dc_M_uncovered_32 rfl (lv_at hl 3 rfl) ?_
        refine ow_calli (va_runV (As := [.int x2, .int x3]) (rest := []) ⟨hx, hb, hml, hown, hts⟩ (ct_M_beats l G hG D cA ad F _ k0 _ _ _ _ h) ⟨ow_cb 2 hts mw_969 mw_12 mw_966 rfl rfl hd_M_beats ⟨Nat.le_of_ble_eq_true rfl, Nat.le_of_ble_eq_true rfl⟩, hts _ mw_968, hts _ ms_31⟩ (ow_preV hB k0 rfl) rfl rfl hl.1 rfl (lv_room (Nat.le_of_ble_eq_true rfl)) dc_M_uncovered_33 ⟨Nat.zero_le _, Nat.zero_le _⟩) hB (fun r6 M5 H locs h hB => ?_)
        obtain ⟨h1, h2⟩ := h
        refine lv_if_eq hx hb dc_M_uncovered_36 rfl (fun hc => ?_) (fun hc => ?_)
        · have h := h1 hc
          exact L43 _ K7 hK7 K17 hK17 _ _ _ _ _ _ h hB (lv_sub hl [0, 1, 2, 3] rfl)
        · have h := h2 hc
          refine lv_iconst (v := 1) hx hb dc_M_uncovered_39 rfl ?_
          refine lv_goto hx hb dc_M_uncovered_40 rfl ?_
          exact L44 _ K7 hK7 K17 hK17 _ _ _ _ _ _ _ h hB (lv_sub hl [0, 1, 2, 3] rfl)
  have L17 : ∀ (x2 : Int32) (K7 : om_M × Int32 × Int32 → Prop) (hK7 : ∀ (M : om_M) (x1 : Int32) (x2 : Int32) (H : Heap) (locs : List Loc) (ls : Array Slot), K7 (M, x1, x2) → ow_B G D cA ad (ow_A G ad) M s s.heap H locs → lv_has ls 6 [(0, .ref (ad o0)), (1, .int x1), (2, .int x2)] → W p l e rm_M_uncovered s m ([.ref (ad o0)] : List Value).toArray below meth c H locs 0 0 (MQ below (ow_Qi G D cA ad Q) ([.ref (ad o0)] : List Value).toArray s 0 0 (ow_A G ad)) (F0 m 7 ls [])) (M : om_M) (x1 : Int32) (x3 : Int32) (H : Heap) (locs : List Loc) (ls : Array Slot), wp_M_uncovered_17 F o0 Q x2 K7 M x1 x3 → ow_B G D cA ad (ow_A G ad) M s s.heap H locs → lv_has ls 6 [(0, .ref (ad o0)), (1, .int x1), (2, .int x2), (3, .int x3)] → W p l e rm_M_uncovered s m ([.ref (ad o0)] : List Value).toArray below meth c H locs 0 0 (MQ below (ow_Qi G D cA ad Q) ([.ref (ad o0)] : List Value).toArray s 0 0 (ow_A G ad)) (F0 m 17 ls []) := by
    intro x2 K7 hK7
    have step : ∀ (k : Nat) (M : om_M) (x1 : Int32) (x3 : Int32) (H : Heap) (locs : List Loc) (ls : Array Slot), ow_lp (fun (z : om_M × Int32 × Int32) K => wp_M_uncovered_17b F o0 Q x2 K7 K z.1 z.2.1 z.2.2) k (M, x1, x3) → ow_B G D cA ad (ow_A G ad) M s s.heap H locs → lv_has ls 6 [(0, .ref (ad o0)), (1, .int x1), (2, .int x2), (3, .int x3)] → W p l e rm_M_uncovered s m ([.ref (ad o0)] : List Value).toArray below meth c H locs 0 0 (MQ below (ow_Qi G D cA ad Q) ([.ref (ad o0)] : List Value).toArray s 0 0 (ow_A G ad)) (F0 m 17 ls []) := by
      intro k
      induction k with
      | zero => intro M x1 x3 H locs ls h hB hl; exact False.elim h
      | succ k ih => intro M x1 x3 H locs ls h hB hl; exact B17 x2 K7 hK7 (ow_lp _ k) (fun M x1 x3 H locs ls h hB  hl => ih M x1 x3  H locs ls h hB hl) M x1 x3 H locs ls h hB hl
    intro M x1 x3 H locs ls h hB hl
    exact step F M x1 x3 H locs ls h hB hl
  have B7 : ∀   (K7 : om_M × Int32 × Int32 → Prop) (hK7 : ∀ (M : om_M) (x1 : Int32) (x2 : Int32) (H : Heap) (locs : List Loc) (ls : Array Slot), K7 (M, x1, x2) → ow_B G D cA ad (ow_A G ad) M s s.heap H locs → lv_has ls 6 [(0, .ref (ad o0)), (1, .int x1), (2, .int x2)] → W p l e rm_M_uncovered s m ([.ref (ad o0)] : List Value).toArray below meth c H locs 0 0 (MQ below (ow_Qi G D cA ad Q) ([.ref (ad o0)] : List Value).toArray s 0 0 (ow_A G ad)) (F0 m 7 ls [])) (M : om_M) (x1 : Int32) (x2 : Int32) (H : Heap) (locs : List Loc) (ls : Array Slot), wp_M_uncovered_7b F o0 Q   K7 M x1 x2 → ow_B G D cA ad (ow_A G ad) M s s.heap H locs → lv_has ls 6 [(0, .ref (ad o0)), (1, .int x1), (2, .int x2)] → W p l e rm_M_uncovered s m ([.ref (ad o0)] : List Value).toArray below meth c H locs 0 0 (MQ below (ow_Qi G D cA ad Q) ([.ref (ad o0)] : List Value).toArray s 0 0 (ow_A G ad)) (F0 m 7 ls []) := by
    intro   K7 hK7 M x1 x2 H locs ls h hB hl
    refine lv_iload_n hx hb dc_M_uncovered_7 rfl (lv_at hl 2 rfl) ?_
    refine lv_aload_n hx hb dc_M_uncovered_8 rfl (lv_at hl 0 rfl) ?_
    refine ow_get hx hb hts iw_M hown hB k0 rfl 8 (by decide) mw_805 rfl dc_M_uncovered_9 ?_
    obtain ⟨h1, h2⟩ := h
    refine lv_icmp_ge hx hb dc_M_uncovered_12 rfl (fun hc => ?_) (fun hc => ?_)
    · have h := h1 hc
      refine lv_iload_n hx hb dc_M_uncovered_137 rfl (lv_at hl 1 rfl) ?_
      exact ow_iret hx hb hr hlocks hB h dc_M_uncovered_138
    · have h := h2 hc
      refine lv_iconst (v := 0) hx hb dc_M_uncovered_15 rfl ?_
      refine lv_istore_n hx hb dc_M_uncovered_16 rfl hl (by decide) rfl (fun ls hl => ?_)
      exact L17 _ K7 hK7 _ _ _ _ _ _ h hB (lv_sub hl [1, 2, 3, 0] rfl)
  have L7 : ∀   (M : om_M) (x1 : Int32) (x2 : Int32) (H : Heap) (locs : List Loc) (ls : Array Slot), wp_M_uncovered_7 F o0 Q   M x1 x2 → ow_B G D cA ad (ow_A G ad) M s s.heap H locs → lv_has ls 6 [(0, .ref (ad o0)), (1, .int x1), (2, .int x2)] → W p l e rm_M_uncovered s m ([.ref (ad o0)] : List Value).toArray below meth c H locs 0 0 (MQ below (ow_Qi G D cA ad Q) ([.ref (ad o0)] : List Value).toArray s 0 0 (ow_A G ad)) (F0 m 7 ls []) := by
    have step : ∀ (k : Nat) (M : om_M) (x1 : Int32) (x2 : Int32) (H : Heap) (locs : List Loc) (ls : Array Slot), ow_lp (fun (z : om_M × Int32 × Int32) K => wp_M_uncovered_7b F o0 Q   K z.1 z.2.1 z.2.2) k (M, x1, x2) → ow_B G D cA ad (ow_A G ad) M s s.heap H locs → lv_has ls 6 [(0, .ref (ad o0)), (1, .int x1), (2, .int x2)] → W p l e rm_M_uncovered s m ([.ref (ad o0)] : List Value).toArray below meth c H locs 0 0 (MQ below (ow_Qi G D cA ad Q) ([.ref (ad o0)] : List Value).toArray s 0 0 (ow_A G ad)) (F0 m 7 ls []) := by
      intro k
      induction k with
      | zero => intro M x1 x2 H locs ls h hB hl; exact False.elim h
      | succ k ih => intro M x1 x2 H locs ls h hB hl; exact B7   (ow_lp _ k) (fun M x1 x2 H locs ls h hB  hl => ih M x1 x2  H locs ls h hB hl) M x1 x2 H locs ls h hB hl
    intro M x1 x2 H locs ls h hB hl
    exact step F M x1 x2 H locs ls h hB hl
  have hl := lv_entry ([.ref (ad o0)]) (n := 6) (Nat.le_of_ble_eq_true rfl)
  rw [lg_entry_eq]
  generalize (lg_sl ([.ref (ad o0)]) ++ List.replicate (6 - (lg_sl ([.ref (ad o0)])).length) Slot.unset).toArray = ls at hl ⊢
  have hl : lv_has ls 6 [(0, .ref (ad o0))] := hl
  show W p l e rm_M_uncovered s m _ below meth c s.heap [] 0 0 _ _
  refine lv_aload_n hx hb dc_M_uncovered_0 rfl (lv_at hl 0 rfl) ?_
  refine ow_calli (va_runV (As := []) (rest := []) ⟨hx, hb, hml, hown, hts⟩ (ct_M_all l G hG D cA ad F _ k0 _ _ h) ⟨ow_cb 0 hts mw_957 mw_12 mw_954 rfl rfl hd_M_all ⟨Nat.le_of_ble_eq_true rfl, Nat.le_of_ble_eq_true rfl⟩, hts _ mw_956, hts _ ms_28⟩ (ow_preV hB k0 rfl) rfl rfl hl.1 rfl (lv_room (Nat.le_of_ble_eq_true rfl)) dc_M_uncovered_1 ⟨Nat.zero_le _, Nat.zero_le _⟩) hB (fun r8 M7 H locs h hB => ?_)
  refine lv_istore_n hx hb dc_M_uncovered_4 rfl hl (by decide) rfl (fun ls hl => ?_)
  refine lv_iconst (v := 0) hx hb dc_M_uncovered_5 rfl ?_
  refine lv_istore_n hx hb dc_M_uncovered_6 rfl hl (by decide) rfl (fun ls hl => ?_)
  exact L7 _ _ _ _ _ _ h hB (lv_sub hl [2, 1, 0] rfl)
abbrev rm_M_byAgenda : Room := { frames := 1, cells := 0, slots := 0, locals := 22 }
theorem hd_M_byAgenda : yn_M_byAgenda.cls ≠ "java/lang/invoke/MethodHandle" ∧ yn_M_byAgenda.cls ≠ "java/lang/invoke/VarHandle" ∧ (parseMethodDescriptor yn_M_byAgenda.desc).map (fun d => d.parameters.length) = some 0 := by decide +kernel
set_option maxHeartbeats 4000000 in
set_option maxRecDepth 100000 in
theorem ct_M_byAgenda (l : Launch) (G : List (Nat × Nat)) (hG : ow_lay G) (D : va_G) (cA : Nat → ClassId) (ad : Nat → Nat) (F : Nat) (o0 : Nat) (k0 : ow_kd G o0 = (3, 9)) (M : om_M) (Q : Int32 → om_M → Prop) (h : wp_M_byAgenda F o0 M Q) : Met l yn_M_byAgenda (ow_ws yn_M_byAgenda cb_M_byAgenda 5 (some .int)) rm_M_byAgenda (ow_Pc G D cA ad M [.ref (ad o0)]) (ow_Qi G D cA ad Q) 0 0 (ow_A G ad) := by
  refine Met.ofW (cc := cb_M_byAgenda) (maxL := 5) (ret := (some .int)) (by decide) rfl ?_
  intro p e s m args below meth c s₁ B hml hv
  obtain ⟨rfl, hB⟩ := hv
  have hx := B.exec
  have hb := B.bytes
  have hr := B.returns
  have hlocks := B.notSynchronized
  have hts : ∀ w ∈ lw_g, w.before ([.ref (ad o0)] : List Value).toArray s = true := fun w h => atoms_spec (ws := ow_ws yn_M_byAgenda cb_M_byAgenda 5 (some .int)) B.pre w (List.mem_cons_of_mem _ h)
  have hown : s.vm.findClass "BallotDeskModel" = some m.cls := findClass_of_methodNamed B.named
  clear B
  have L72 : ∀  (K9 : om_M × Int32 × Int32 → Prop) (hK9 : ∀ (M : om_M) (x1 : Int32) (x2 : Int32) (H : Heap) (locs : List Loc) (ls : Array Slot), K9 (M, x1, x2) → ow_B G D cA ad (ow_A G ad) M s s.heap H locs → lv_has ls 5 [(0, .ref (ad o0)), (1, .int x1), (2, .int x2)] → W p l e rm_M_byAgenda s m ([.ref (ad o0)] : List Value).toArray below meth c H locs 0 0 (MQ below (ow_Qi G D cA ad Q) ([.ref (ad o0)] : List Value).toArray s 0 0 (ow_A G ad)) (F0 m 9 ls [])) (M : om_M) (x2 : Int32) (t0 : Int32) (H : Heap) (locs : List Loc) (ls : Array Slot), wp_M_byAgenda_72 F o0 Q  K9 M x2 t0 → ow_B G D cA ad (ow_A G ad) M s s.heap H locs → lv_has ls 5 [(0, .ref (ad o0)), (2, .int x2)] → W p l e rm_M_byAgenda s m ([.ref (ad o0)] : List Value).toArray below meth c H locs 0 0 (MQ below (ow_Qi G D cA ad Q) ([.ref (ad o0)] : List Value).toArray s 0 0 (ow_A G ad)) (F0 m 72 ls [.int t0]) := by
    intro  K9 hK9 M x2 t0 H locs ls h hB hl
    refine lv_istore_n hx hb dc_M_byAgenda_72 rfl hl (by decide) rfl (fun ls hl => ?_)
    refine lv_iinc hx hb dc_M_byAgenda_73 hl (k := 2) rfl rfl (by decide) rfl (fun ls hl => ?_)
    refine lv_goto hx hb dc_M_byAgenda_76 rfl ?_
    exact hK9 _ _ _ _ _ _ h hB (lv_sub hl [2, 1, 0] rfl)
  have L60 : ∀  (K9 : om_M × Int32 × Int32 → Prop) (hK9 : ∀ (M : om_M) (x1 : Int32) (x2 : Int32) (H : Heap) (locs : List Loc) (ls : Array Slot), K9 (M, x1, x2) → ow_B G D cA ad (ow_A G ad) M s s.heap H locs → lv_has ls 5 [(0, .ref (ad o0)), (1, .int x1), (2, .int x2)] → W p l e rm_M_byAgenda s m ([.ref (ad o0)] : List Value).toArray below meth c H locs 0 0 (MQ below (ow_Qi G D cA ad Q) ([.ref (ad o0)] : List Value).toArray s 0 0 (ow_A G ad)) (F0 m 9 ls [])) (M : om_M) (x1 : Int32) (x2 : Int32) (x3 : Int32) (t0 : Int32) (H : Heap) (locs : List Loc) (ls : Array Slot), wp_M_byAgenda_60 F o0 Q  K9 M x1 x2 x3 t0 → ow_B G D cA ad (ow_A G ad) M s s.heap H locs → lv_has ls 5 [(0, .ref (ad o0)), (1, .int x1), (2, .int x2), (3, .int x3)] → W p l e rm_M_byAgenda s m ([.ref (ad o0)] : List Value).toArray below meth c H locs 0 0 (MQ below (ow_Qi G D cA ad Q) ([.ref (ad o0)] : List Value).toArray s 0 0 (ow_A G ad)) (F0 m 60 ls [.int t0]) := by
    intro  K9 hK9 M x1 x2 x3 t0 H locs ls h hB hl
    refine lv_istore hx hb dc_M_byAgenda_60 hl (by decide) rfl (fun ls hl => ?_)
    refine lv_iload hx hb dc_M_byAgenda_62 (lv_at hl 0 rfl) ?_
    obtain ⟨h1, h2⟩ := h
    refine lv_if_eq hx hb dc_M_byAgenda_64 rfl (fun hc => ?_) (fun hc => ?_)
    · have h := h1 hc
      refine lv_iload_n hx hb dc_M_byAgenda_71 rfl (lv_at hl 2 rfl) ?_
      exact L72 K9 hK9 _ _ _ _ _ _ h hB (lv_sub hl [1, 3] rfl)
    · have h := h2 hc
      refine lv_iload_n hx hb dc_M_byAgenda_67 rfl (lv_at hl 4 rfl) ?_
      refine lv_goto hx hb dc_M_byAgenda_68 rfl ?_
      exact L72 K9 hK9 _ _ _ _ _ _ h hB (lv_sub hl [1, 3] rfl)
  have L59 : ∀  (K9 : om_M × Int32 × Int32 → Prop) (hK9 : ∀ (M : om_M) (x1 : Int32) (x2 : Int32) (H : Heap) (locs : List Loc) (ls : Array Slot), K9 (M, x1, x2) → ow_B G D cA ad (ow_A G ad) M s s.heap H locs → lv_has ls 5 [(0, .ref (ad o0)), (1, .int x1), (2, .int x2)] → W p l e rm_M_byAgenda s m ([.ref (ad o0)] : List Value).toArray below meth c H locs 0 0 (MQ below (ow_Qi G D cA ad Q) ([.ref (ad o0)] : List Value).toArray s 0 0 (ow_A G ad)) (F0 m 9 ls [])) (M : om_M) (x1 : Int32) (x2 : Int32) (x3 : Int32)  (H : Heap) (locs : List Loc) (ls : Array Slot), wp_M_byAgenda_59 F o0 Q  K9 M x1 x2 x3  → ow_B G D cA ad (ow_A G ad) M s s.heap H locs → lv_has ls 5 [(0, .ref (ad o0)), (1, .int x1), (2, .int x2), (3, .int x3)] → W p l e rm_M_byAgenda s m ([.ref (ad o0)] : List Value).toArray below meth c H locs 0 0 (MQ below (ow_Qi G D cA ad Q) ([.ref (ad o0)] : List Value).toArray s 0 0 (ow_A G ad)) (F0 m 59 ls []) := by
    intro  K9 hK9 M x1 x2 x3 H locs ls h hB hl
    refine lv_iconst (v := 0) hx hb dc_M_byAgenda_59 rfl ?_
    exact L60 K9 hK9 _ _ _ _ _ _ _ _ h hB (lv_sub hl [0, 1, 2, 3] rfl)
  have L55 : ∀  (K9 : om_M × Int32 × Int32 → Prop) (hK9 : ∀ (M : om_M) (x1 : Int32) (x2 : Int32) (H : Heap) (locs : List Loc) (ls : Array Slot), K9 (M, x1, x2) → ow_B G D cA ad (ow_A G ad) M s s.heap H locs → lv_has ls 5 [(0, .ref (ad o0)), (1, .int x1), (2, .int x2)] → W p l e rm_M_byAgenda s m ([.ref (ad o0)] : List Value).toArray below meth c H locs 0 0 (MQ below (ow_Qi G D cA ad Q) ([.ref (ad o0)] : List Value).toArray s 0 0 (ow_A G ad)) (F0 m 9 ls [])) (M : om_M) (x1 : Int32) (x2 : Int32) (x3 : Int32)  (H : Heap) (locs : List Loc) (ls : Array Slot), wp_M_byAgenda_55 F o0 Q  K9 M x1 x2 x3  → ow_B G D cA ad (ow_A G ad) M s s.heap H locs → lv_has ls 5 [(0, .ref (ad o0)), (1, .int x1), (2, .int x2), (3, .int x3)] → W p l e rm_M_byAgenda s m ([.ref (ad o0)] : List Value).toArray below meth c H locs 0 0 (MQ below (ow_Qi G D cA ad Q) ([.ref (ad o0)] : List Value).toArray s 0 0 (ow_A G ad)) (F0 m 55 ls []) := by
    intro  K9 hK9 M x1 x2 x3 H locs ls h hB hl
    refine lv_iconst (v := 1) hx hb dc_M_byAgenda_55 rfl ?_
    refine lv_goto hx hb dc_M_byAgenda_56 rfl ?_
    exact L60 K9 hK9 _ _ _ _ _ _ _ _ h hB (lv_sub hl [0, 1, 2, 3] rfl)
  have B9 : ∀   (K9 : om_M × Int32 × Int32 → Prop) (hK9 : ∀ (M : om_M) (x1 : Int32) (x2 : Int32) (H : Heap) (locs : List Loc) (ls : Array Slot), K9 (M, x1, x2) → ow_B G D cA ad (ow_A G ad) M s s.heap H locs → lv_has ls 5 [(0, .ref (ad o0)), (1, .int x1), (2, .int x2)] → W p l e rm_M_byAgenda s m ([.ref (ad o0)] : List Value).toArray below meth c H locs 0 0 (MQ below (ow_Qi G D cA ad Q) ([.ref (ad o0)] : List Value).toArray s 0 0 (ow_A G ad)) (F0 m 9 ls [])) (M : om_M) (x1 : Int32) (x2 : Int32) (H : Heap) (locs : List Loc) (ls : Array Slot), wp_M_byAgenda_9b F o0 Q   K9 M x1 x2 → ow_B G D cA ad (ow_A G ad) M s s.heap H locs → lv_has ls 5 [(0, .ref (ad o0)), (1, .int x1), (2, .int x2)] → W p l e rm_M_byAgenda s m ([.ref (ad o0)] : List Value).toArray below meth c H locs 0 0 (MQ below (ow_Qi G D cA ad Q) ([.ref (ad o0)] : List Value).toArray s 0 0 (ow_A G ad)) (F0 m 9 ls []) := by
    intro   K9 hK9 M x1 x2 H locs ls h hB hl
    refine lv_iload_n hx hb dc_M_byAgenda_9 rfl (lv_at hl 2 rfl) ?_
    refine lv_aload_n hx hb dc_M_byAgenda_10 rfl (lv_at hl 0 rfl) ?_
    refine ow_get hx hb hts iw_M hown hB k0 rfl 8 (by decide) mw_805 rfl dc_M_byAgenda_11 ?_
    obtain ⟨h1, h2⟩ := h
    refine lv_icmp_ge hx hb dc_M_byAgenda_14 rfl (fun hc => ?_) (fun hc => ?_)
    · have h := h1 hc
      refine lv_iconst (v := 1) hx hb dc_M_byAgenda_79 rfl ?_
      refine lv_iload_n hx hb dc_M_byAgenda_80 rfl (lv_at hl 1 rfl) ?_
      refine lv_ishl hx hb dc_M_byAgenda_81 ?_
      exact ow_iret hx hb hr hlocks hB h dc_M_byAgenda_82
    · have h := h2 hc
      refine lv_aload_n hx hb dc_M_byAgenda_17 rfl (lv_at hl 0 rfl) ?_
      refine ow_get hx hb hts iw_M hown hB k0 rfl 13 (by decide) mw_810 rfl dc_M_byAgenda_18 ?_
      refine lv_iload_n hx hb dc_M_byAgenda_21 rfl (lv_at hl 2 rfl) ?_
      obtain ⟨hi1, h⟩ := h
      refine ow_iald hx hb hB (ly_M_turn hG k0) hi1 dc_M_byAgenda_22 ?_
      refine lv_istore_n hx hb dc_M_byAgenda_23 rfl hl (by decide) rfl (fun ls hl => ?_)
      refine lv_aload_n hx hb dc_M_byAgenda_24 rfl (lv_at hl 1 rfl) ?_
      refine lv_iload_n hx hb dc_M_byAgenda_25 rfl (lv_at hl 0 rfl) ?_
      refine lv_iload_n hx hb dc_M_byAgenda_26 rfl (lv_at hl 2 rfl) ?_
      refine ow_calli (va_runV (As := [.int (M.1 (o0 + 9) x2.toNatClampNeg), .int x1]) (rest := []) ⟨hx, hb, hml, hown, hts⟩ (ct_M_beats l G hG D cA ad F _ k0 _ _ _ _ h) ⟨ow_cb 2 hts mw_969 mw_12 mw_966 rfl rfl hd_M_beats ⟨Nat.le_of_ble_eq_true rfl, Nat.le_of_ble_eq_true rfl⟩, hts _ mw_968, hts _ ms_31⟩ (ow_preV hB k0 rfl) rfl rfl hl.1 rfl (lv_room (Nat.le_of_ble_eq_true rfl)) dc_M_byAgenda_27 ⟨Nat.zero_le _, Nat.zero_le _⟩) hB (fun r3 M2 H locs h hB => ?_)
      obtain ⟨h1, h2⟩ := h
      refine lv_if_ne hx hb dc_M_byAgenda_30 rfl (fun hc => ?_) (fun hc => ?_)
      · have h := h2 hc
        exact L55 K9 hK9 _ _ _ _ _ _ _ h hB (lv_sub hl [1, 2, 3, 0] rfl)
      · have h := h1 hc
        refine lv_aload_n hx hb dc_M_byAgenda_33 rfl (lv_at hl 1 rfl) ?_
        refine lv_iload_n hx hb dc_M_byAgenda_34 rfl (lv_at hl 2 rfl) ?_
        refine lv_iload_n hx hb dc_M_byAgenda_35 rfl (lv_at hl 0 rfl) ?_
        refine ow_calli (va_runV (As := [.int x1, .int (M.1 (o0 + 9) x2.toNatClampNeg)]) (rest := []) ⟨hx, hb, hml, hown, hts⟩ (ct_M_beats l G hG D cA ad F _ k0 _ _ _ _ h) ⟨ow_cb 2 hts mw_969 mw_12 mw_966 rfl rfl hd_M_beats ⟨Nat.le_of_ble_eq_true rfl, Nat.le_of_ble_eq_true rfl⟩, hts _ mw_968, hts _ ms_31⟩ (ow_preV hB k0 rfl) rfl rfl hl.1 rfl (lv_room (Nat.le_of_ble_eq_true rfl)) dc_M_byAgenda_36 ⟨Nat.zero_le _, Nat.zero_le _⟩) hB (fun r5 M4 H locs h hB => ?_)
        obtain ⟨h1, h2⟩ := h
        refine lv_if_ne hx hb dc_M_byAgenda_39 rfl (fun hc => ?_) (fun hc => ?_)
        · have h := h2 hc
          exact L59 K9 hK9 _ _ _ _ _ _ _ h hB (lv_sub hl [1, 2, 3, 0] rfl)
        · have h := h1 hc
          refine lv_aload_n hx hb dc_M_byAgenda_42 rfl (lv_at hl 1 rfl) ?_
          refine lv_iload_n hx hb dc_M_byAgenda_43 rfl (lv_at hl 0 rfl) ?_
          refine ow_calli (va_runV (As := [.int (M.1 (o0 + 9) x2.toNatClampNeg)]) (rest := []) ⟨hx, hb, hml, hown, hts⟩ (ct_M_tiePlace l G hG D cA ad F _ k0 _ _ _ h) ⟨ow_cb 1 hts mw_1005 mw_12 mw_1002 rfl rfl hd_M_tiePlace ⟨Nat.le_of_ble_eq_true rfl, Nat.le_of_ble_eq_true rfl⟩, hts _ mw_1004, hts _ ms_39⟩ (ow_preV hB k0 rfl) rfl rfl hl.1 rfl (lv_room (Nat.le_of_ble_eq_true rfl)) dc_M_byAgenda_44 ⟨Nat.zero_le _, Nat.zero_le _⟩) hB (fun r7 M6 H locs h hB => ?_)
          refine lv_aload_n hx hb dc_M_byAgenda_47 rfl (lv_at hl 1 rfl) ?_
          refine lv_iload_n hx hb dc_M_byAgenda_48 rfl (lv_at hl 2 rfl) ?_
          refine ow_calli (va_runV (As := [.int x1]) (rest := [.int r7]) ⟨hx, hb, hml, hown, hts⟩ (ct_M_tiePlace l G hG D cA ad F _ k0 _ _ _ h) ⟨ow_cb 1 hts mw_1005 mw_12 mw_1002 rfl rfl hd_M_tiePlace ⟨Nat.le_of_ble_eq_true rfl, Nat.le_of_ble_eq_true rfl⟩, hts _ mw_1004, hts _ ms_39⟩ (ow_preV hB k0 rfl) rfl rfl hl.1 rfl (lv_room (Nat.le_of_ble_eq_true rfl)) dc_M_byAgenda_49 ⟨Nat.zero_le _, Nat.zero_le _⟩) hB (fun r9 M8 H locs h hB => ?_)
          obtain ⟨h1, h2⟩ := h
          refine lv_icmp_ge hx hb dc_M_byAgenda_52 rfl (fun hc => ?_) (fun hc => ?_)
          · have h := h1 hc
            exact L59 K9 hK9 _ _ _ _ _ _ _ h hB (lv_sub hl [1, 2, 3, 0] rfl)
          · have h := h2 hc
            exact L55 K9 hK9 _ _ _ _ _ _ _ h hB (lv_sub hl [1, 2, 3, 0] rfl)
  have L9 : ∀   (M : om_M) (x1 : Int32) (x2 : Int32) (H : Heap) (locs : List Loc) (ls : Array Slot), wp_M_byAgenda_9 F o0 Q   M x1 x2 → ow_B G D cA ad (ow_A G ad) M s s.heap H locs → lv_has ls 5 [(0, .ref (ad o0)), (1, .int x1), (2, .int x2)] → W p l e rm_M_byAgenda s m ([.ref (ad o0)] : List Value).toArray below meth c H locs 0 0 (MQ below (ow_Qi G D cA ad Q) ([.ref (ad o0)] : List Value).toArray s 0 0 (ow_A G ad)) (F0 m 9 ls []) := by
    have step : ∀ (k : Nat) (M : om_M) (x1 : Int32) (x2 : Int32) (H : Heap) (locs : List Loc) (ls : Array Slot), ow_lp (fun (z : om_M × Int32 × Int32) K => wp_M_byAgenda_9b F o0 Q   K z.1 z.2.1 z.2.2) k (M, x1, x2) → ow_B G D cA ad (ow_A G ad) M s s.heap H locs → lv_has ls 5 [(0, .ref (ad o0)), (1, .int x1), (2, .int x2)] → W p l e rm_M_byAgenda s m ([.ref (ad o0)] : List Value).toArray below meth c H locs 0 0 (MQ below (ow_Qi G D cA ad Q) ([.ref (ad o0)] : List Value).toArray s 0 0 (ow_A G ad)) (F0 m 9 ls []) := by
      intro k
      induction k with
      | zero => intro M x1 x2 H locs ls h hB hl; exact False.elim h
      | succ k ih => intro M x1 x2 H locs ls h hB hl; exact B9   (ow_lp _ k) (fun M x1 x2 H locs ls h hB  hl => ih M x1 x2  H locs ls h hB hl) M x1 x2 H locs ls h hB hl
    intro M x1 x2 H locs ls h hB hl
    exact step F M x1 x2 H locs ls h hB hl
  have hl := lv_entry ([.ref (ad o0)]) (n := 5) (Nat.le_of_ble_eq_true rfl)
  rw [lg_entry_eq]
  generalize (lg_sl ([.ref (ad o0)]) ++ List.replicate (5 - (lg_sl ([.ref (ad o0)])).length) Slot.unset).toArray = ls at hl ⊢
  have hl : lv_has ls 5 [(0, .ref (ad o0))] := hl
  show W p l e rm_M_byAgenda s m _ below meth c s.heap [] 0 0 _ _
  refine lv_aload_n hx hb dc_M_byAgenda_0 rfl (lv_at hl 0 rfl) ?_
  refine ow_get hx hb hts iw_M hown hB k0 rfl 13 (by decide) mw_810 rfl dc_M_byAgenda_1 ?_
  refine lv_iconst (v := 0) hx hb dc_M_byAgenda_4 rfl ?_
  obtain ⟨hi10, h⟩ := h
  refine ow_iald hx hb hB (ly_M_turn hG k0) hi10 dc_M_byAgenda_5 ?_
  refine lv_istore_n hx hb dc_M_byAgenda_6 rfl hl (by decide) rfl (fun ls hl => ?_)
  refine lv_iconst (v := 1) hx hb dc_M_byAgenda_7 rfl ?_
  refine lv_istore_n hx hb dc_M_byAgenda_8 rfl hl (by decide) rfl (fun ls hl => ?_)
  exact L9 _ _ _ _ _ _ h hB (lv_sub hl [2, 1, 0] rfl)
abbrev rm_M_work : Room := { frames := 3, cells := 0, slots := 0, locals := 78 }
theorem hd_M_work : yn_M_work.cls ≠ "java/lang/invoke/MethodHandle" ∧ yn_M_work.cls ≠ "java/lang/invoke/VarHandle" ∧ (parseMethodDescriptor yn_M_work.desc).map (fun d => d.parameters.length) = some 1 := by decide +kernel
set_option maxHeartbeats 4000000 in
set_option maxRecDepth 100000 in
theorem ct_M_work (l : Launch) (G : List (Nat × Nat)) (hG : ow_lay G) (D : va_G) (cA : Nat → ClassId) (ad : Nat → Nat) (F : Nat) (o0 : Nat) (k0 : ow_kd G o0 = (3, 9)) (x1 : Int32) (M : om_M) (Q : Int32 → om_M → Prop) (h : wp_M_work F o0 x1 M Q) : Met l yn_M_work (ow_ws yn_M_work cb_M_work 2 (some .int)) rm_M_work (ow_Pc G D cA ad M [.ref (ad o0), .int x1]) (ow_Qi G D cA ad Q) 0 0 (ow_A G ad) := by
  refine Met.ofW (cc := cb_M_work) (maxL := 2) (ret := (some .int)) (by decide) rfl ?_
  intro p e s m args below meth c s₁ B hml hv
  obtain ⟨rfl, hB⟩ := hv
  have hx := B.exec
  have hb := B.bytes
  have hr := B.returns
  have hlocks := B.notSynchronized
  have hts : ∀ w ∈ lw_g, w.before ([.ref (ad o0), .int x1] : List Value).toArray s = true := fun w h => atoms_spec (ws := ow_ws yn_M_work cb_M_work 2 (some .int)) B.pre w (List.mem_cons_of_mem _ h)
  have hown : s.vm.findClass "BallotDeskModel" = some m.cls := findClass_of_methodNamed B.named
  clear B
  have hl := lv_entry ([.ref (ad o0), .int x1]) (n := 2) (Nat.le_of_ble_eq_true rfl)
  rw [lg_entry_eq]
  generalize (lg_sl ([.ref (ad o0), .int x1]) ++ List.replicate (2 - (lg_sl ([.ref (ad o0), .int x1])).length) Slot.unset).toArray = ls at hl ⊢
  have hl : lv_has ls 2 [(0, .ref (ad o0)), (1, .int x1)] := hl
  show W p l e rm_M_work s m _ below meth c s.heap [] 0 0 _ _
  refine lv_aload_n hx hb dc_M_work_0 rfl (lv_at hl 0 rfl) ?_
  refine ow_callv (va_runV (As := []) (rest := []) ⟨hx, hb, hml, hown, hts⟩ (ct_M_tally l G hG D cA ad F _ k0 _ _ h) ⟨ow_cb 0 hts mw_945 mw_12 mw_942 rfl rfl hd_M_tally ⟨Nat.le_of_ble_eq_true rfl, Nat.le_of_ble_eq_true rfl⟩, hts _ mw_944, hts _ ms_25⟩ (ow_preV hB k0 rfl) rfl rfl hl.1 rfl (lv_room (Nat.le_of_ble_eq_true rfl)) dc_M_work_1 ⟨Nat.zero_le _, Nat.zero_le _⟩) hB (fun M1 H locs h hB => ?_)
  refine lv_iload_n hx hb dc_M_work_4 rfl (lv_at hl 1 rfl) ?_
  obtain ⟨h1, h2⟩ := h
  by_cases hc0 : x1 = 0
  · have h := h1 hc0
    refine lv_tableIn hx hb dc_M_work_5 (by rw [hc0]; decide) (by rw [hc0]; decide) (by rw [hc0]; rfl) rfl ?_
    refine lv_aload_n hx hb dc_M_work_64 rfl (lv_at hl 0 rfl) ?_
    refine lv_iload_n hx hb dc_M_work_65 rfl (lv_at hl 1 rfl) ?_
    refine lv_iconst (v := 1) hx hb dc_M_work_66 rfl ?_
    refine ow_calli (va_runV (As := [.int x1, .int 1]) (rest := []) ⟨hx, hb, hml, hown, hts⟩ (ct_M_extreme l G hG D cA ad F _ k0 _ _ _ _ h) ⟨ow_cb 2 hts mw_949 mw_12 mw_946 rfl rfl hd_M_extreme ⟨Nat.le_of_ble_eq_true rfl, Nat.le_of_ble_eq_true rfl⟩, hts _ mw_948, hts _ ms_26⟩ (ow_preV hB k0 rfl) rfl rfl hl.1 rfl (lv_room (Nat.le_of_ble_eq_true rfl)) dc_M_work_67 ⟨Nat.zero_le _, Nat.zero_le _⟩) hB (fun r25 M24 H locs h hB => ?_)
    exact ow_iret hx hb hr hlocks hB h dc_M_work_70
  · have h := h2 hc0
    obtain ⟨h1, h2⟩ := h
    by_cases hc1 : x1 = 1
    · have h := h1 hc1
      refine lv_tableIn hx hb dc_M_work_5 (by rw [hc1]; decide) (by rw [hc1]; decide) (by rw [hc1]; rfl) rfl ?_
      refine lv_aload_n hx hb dc_M_work_71 rfl (lv_at hl 0 rfl) ?_
      refine lv_iload_n hx hb dc_M_work_72 rfl (lv_at hl 1 rfl) ?_
      refine lv_iconst (v := 0) hx hb dc_M_work_73 rfl ?_
      refine ow_calli (va_runV (As := [.int x1, .int 0]) (rest := []) ⟨hx, hb, hml, hown, hts⟩ (ct_M_extreme l G hG D cA ad F _ k0 _ _ _ _ h) ⟨ow_cb 2 hts mw_949 mw_12 mw_946 rfl rfl hd_M_extreme ⟨Nat.le_of_ble_eq_true rfl, Nat.le_of_ble_eq_true rfl⟩, hts _ mw_948, hts _ ms_26⟩ (ow_preV hB k0 rfl) rfl rfl hl.1 rfl (lv_room (Nat.le_of_ble_eq_true rfl)) dc_M_work_74 ⟨Nat.zero_le _, Nat.zero_le _⟩) hB (fun r23 M22 H locs h hB => ?_)
      exact ow_iret hx hb hr hlocks hB h dc_M_work_77
    · have h := h2 hc1
      obtain ⟨h1, h2⟩ := h
      by_cases hc2 : x1 = 2
      · have h := h1 hc2
        refine lv_tableIn hx hb dc_M_work_5 (by rw [hc2]; decide) (by rw [hc2]; decide) (by rw [hc2]; rfl) rfl ?_
        refine lv_aload_n hx hb dc_M_work_64 rfl (lv_at hl 0 rfl) ?_
        refine lv_iload_n hx hb dc_M_work_65 rfl (lv_at hl 1 rfl) ?_
        refine lv_iconst (v := 1) hx hb dc_M_work_66 rfl ?_
        refine ow_calli (va_runV (As := [.int x1, .int 1]) (rest := []) ⟨hx, hb, hml, hown, hts⟩ (ct_M_extreme l G hG D cA ad F _ k0 _ _ _ _ h) ⟨ow_cb 2 hts mw_949 mw_12 mw_946 rfl rfl hd_M_extreme ⟨Nat.le_of_ble_eq_true rfl, Nat.le_of_ble_eq_true rfl⟩, hts _ mw_948, hts _ ms_26⟩ (ow_preV hB k0 rfl) rfl rfl hl.1 rfl (lv_room (Nat.le_of_ble_eq_true rfl)) dc_M_work_67 ⟨Nat.zero_le _, Nat.zero_le _⟩) hB (fun r21 M20 H locs h hB => ?_)
        exact ow_iret hx hb hr hlocks hB h dc_M_work_70
      · have h := h2 hc2
        obtain ⟨h1, h2⟩ := h
        by_cases hc3 : x1 = 3
        · have h := h1 hc3
          refine lv_tableIn hx hb dc_M_work_5 (by rw [hc3]; decide) (by rw [hc3]; decide) (by rw [hc3]; rfl) rfl ?_
          refine lv_aload_n hx hb dc_M_work_78 rfl (lv_at hl 0 rfl) ?_
          refine ow_calli (va_runV (As := []) (rest := []) ⟨hx, hb, hml, hown, hts⟩ (ct_M_runoff l G hG D cA ad F _ k0 _ _ h) ⟨ow_cb 0 hts mw_974 mw_12 mw_971 rfl rfl hd_M_runoff ⟨Nat.le_of_ble_eq_true rfl, Nat.le_of_ble_eq_true rfl⟩, hts _ mw_973, hts _ ms_32⟩ (ow_preV hB k0 rfl) rfl rfl hl.1 rfl (lv_room (Nat.le_of_ble_eq_true rfl)) dc_M_work_79 ⟨Nat.zero_le _, Nat.zero_le _⟩) hB (fun r19 M18 H locs h hB => ?_)
          exact ow_iret hx hb hr hlocks hB h dc_M_work_82
        · have h := h2 hc3
          obtain ⟨h1, h2⟩ := h
          by_cases hc4 : x1 = 4
          · have h := h1 hc4
            refine lv_tableIn hx hb dc_M_work_5 (by rw [hc4]; decide) (by rw [hc4]; decide) (by rw [hc4]; rfl) rfl ?_
            refine lv_aload_n hx hb dc_M_work_83 rfl (lv_at hl 0 rfl) ?_
            refine ow_calli (va_runV (As := []) (rest := []) ⟨hx, hb, hml, hown, hts⟩ (ct_M_eliminate l G hG D cA ad F _ k0 _ _ h) ⟨ow_cb 0 hts mw_978 mw_12 mw_975 rfl rfl hd_M_eliminate ⟨Nat.le_of_ble_eq_true rfl, Nat.le_of_ble_eq_true rfl⟩, hts _ mw_977, hts _ ms_33⟩ (ow_preV hB k0 rfl) rfl rfl hl.1 rfl (lv_room (Nat.le_of_ble_eq_true rfl)) dc_M_work_84 ⟨Nat.zero_le _, Nat.zero_le _⟩) hB (fun r17 M16 H locs h hB => ?_)
            exact ow_iret hx hb hr hlocks hB h dc_M_work_87
          · have h := h2 hc4
            obtain ⟨h1, h2⟩ := h
            by_cases hc5 : x1 = 5
            · have h := h1 hc5
              refine lv_tableIn hx hb dc_M_work_5 (by rw [hc5]; decide) (by rw [hc5]; decide) (by rw [hc5]; rfl) rfl ?_
              refine lv_aload_n hx hb dc_M_work_71 rfl (lv_at hl 0 rfl) ?_
              refine lv_iload_n hx hb dc_M_work_72 rfl (lv_at hl 1 rfl) ?_
              refine lv_iconst (v := 0) hx hb dc_M_work_73 rfl ?_
              refine ow_calli (va_runV (As := [.int x1, .int 0]) (rest := []) ⟨hx, hb, hml, hown, hts⟩ (ct_M_extreme l G hG D cA ad F _ k0 _ _ _ _ h) ⟨ow_cb 2 hts mw_949 mw_12 mw_946 rfl rfl hd_M_extreme ⟨Nat.le_of_ble_eq_true rfl, Nat.le_of_ble_eq_true rfl⟩, hts _ mw_948, hts _ ms_26⟩ (ow_preV hB k0 rfl) rfl rfl hl.1 rfl (lv_room (Nat.le_of_ble_eq_true rfl)) dc_M_work_74 ⟨Nat.zero_le _, Nat.zero_le _⟩) hB (fun r15 M14 H locs h hB => ?_)
              exact ow_iret hx hb hr hlocks hB h dc_M_work_77
            · have h := h2 hc5
              obtain ⟨h1, h2⟩ := h
              by_cases hc6 : x1 = 6
              · have h := h1 hc6
                refine lv_tableIn hx hb dc_M_work_5 (by rw [hc6]; decide) (by rw [hc6]; decide) (by rw [hc6]; rfl) rfl ?_
                refine lv_aload_n hx hb dc_M_work_64 rfl (lv_at hl 0 rfl) ?_
                refine lv_iload_n hx hb dc_M_work_65 rfl (lv_at hl 1 rfl) ?_
                refine lv_iconst (v := 1) hx hb dc_M_work_66 rfl ?_
                refine ow_calli (va_runV (As := [.int x1, .int 1]) (rest := []) ⟨hx, hb, hml, hown, hts⟩ (ct_M_extreme l G hG D cA ad F _ k0 _ _ _ _ h) ⟨ow_cb 2 hts mw_949 mw_12 mw_946 rfl rfl hd_M_extreme ⟨Nat.le_of_ble_eq_true rfl, Nat.le_of_ble_eq_true rfl⟩, hts _ mw_948, hts _ ms_26⟩ (ow_preV hB k0 rfl) rfl rfl hl.1 rfl (lv_room (Nat.le_of_ble_eq_true rfl)) dc_M_work_67 ⟨Nat.zero_le _, Nat.zero_le _⟩) hB (fun r13 M12 H locs h hB => ?_)
                exact ow_iret hx hb hr hlocks hB h dc_M_work_70
              · have h := h2 hc6
                obtain ⟨h1, h2⟩ := h
                by_cases hc7 : x1 = 7
                · have h := h1 hc7
                  refine lv_tableIn hx hb dc_M_work_5 (by rw [hc7]; decide) (by rw [hc7]; decide) (by rw [hc7]; rfl) rfl ?_
                  refine lv_aload_n hx hb dc_M_work_88 rfl (lv_at hl 0 rfl) ?_
                  refine ow_calli (va_runV (As := []) (rest := []) ⟨hx, hb, hml, hown, hts⟩ (ct_M_pathWinners l G hG D cA ad F _ k0 _ _ h) ⟨ow_cb 0 hts mw_989 mw_12 mw_986 rfl rfl hd_M_pathWinners ⟨Nat.le_of_ble_eq_true rfl, Nat.le_of_ble_eq_true rfl⟩, hts _ mw_988, hts _ ms_35⟩ (ow_preV hB k0 rfl) rfl rfl hl.1 rfl (lv_room (Nat.le_of_ble_eq_true rfl)) dc_M_work_89 ⟨Nat.zero_le _, Nat.zero_le _⟩) hB (fun r11 M10 H locs h hB => ?_)
                  exact ow_iret hx hb hr hlocks hB h dc_M_work_92
                · have h := h2 hc7
                  obtain ⟨h1, h2⟩ := h
                  by_cases hc8 : x1 = 8
                  · have h := h1 hc8
                    refine lv_tableIn hx hb dc_M_work_5 (by rw [hc8]; decide) (by rw [hc8]; decide) (by rw [hc8]; rfl) rfl ?_
                    refine lv_aload_n hx hb dc_M_work_93 rfl (lv_at hl 0 rfl) ?_
                    refine ow_calli (va_runV (As := []) (rest := []) ⟨hx, hb, hml, hown, hts⟩ (ct_M_lockWinners l G hG D cA ad F _ k0 _ _ h) ⟨ow_cb 0 hts mw_997 mw_12 mw_994 rfl rfl hd_M_lockWinners ⟨Nat.le_of_ble_eq_true rfl, Nat.le_of_ble_eq_true rfl⟩, hts _ mw_996, hts _ ms_37⟩ (ow_preV hB k0 rfl) rfl rfl hl.1 rfl (lv_room (Nat.le_of_ble_eq_true rfl)) dc_M_work_94 ⟨Nat.zero_le _, Nat.zero_le _⟩) hB (fun r9 M8 H locs h hB => ?_)
                    exact ow_iret hx hb hr hlocks hB h dc_M_work_97
                  · have h := h2 hc8
                    obtain ⟨h1, h2⟩ := h
                    by_cases hc9 : x1 = 9
                    · have h := h1 hc9
                      refine lv_tableIn hx hb dc_M_work_5 (by rw [hc9]; decide) (by rw [hc9]; decide) (by rw [hc9]; rfl) rfl ?_
                      refine lv_aload_n hx hb dc_M_work_98 rfl (lv_at hl 0 rfl) ?_
                      refine ow_calli (va_runV (As := []) (rest := []) ⟨hx, hb, hml, hown, hts⟩ (ct_M_agreeing l G hG D cA ad F _ k0 _ _ h) ⟨ow_cb 0 hts mw_1013 mw_12 mw_1010 rfl rfl hd_M_agreeing ⟨Nat.le_of_ble_eq_true rfl, Nat.le_of_ble_eq_true rfl⟩, hts _ mw_1012, hts _ ms_41⟩ (ow_preV hB k0 rfl) rfl rfl hl.1 rfl (lv_room (Nat.le_of_ble_eq_true rfl)) dc_M_work_99 ⟨Nat.zero_le _, Nat.zero_le _⟩) hB (fun r7 M6 H locs h hB => ?_)
                      exact ow_iret hx hb hr hlocks hB h dc_M_work_102
                    · have h := h2 hc9
                      obtain ⟨h1, h2⟩ := h
                      by_cases hc10 : x1 = 10
                      · have h := h1 hc10
                        refine lv_tableIn hx hb dc_M_work_5 (by rw [hc10]; decide) (by rw [hc10]; decide) (by rw [hc10]; rfl) rfl ?_
                        refine lv_aload_n hx hb dc_M_work_103 rfl (lv_at hl 0 rfl) ?_
                        refine ow_calli (va_runV (As := []) (rest := []) ⟨hx, hb, hml, hown, hts⟩ (ct_M_uncovered l G hG D cA ad F _ k0 _ _ h) ⟨ow_cb 0 hts mw_1025 mw_12 mw_1022 rfl rfl hd_M_uncovered ⟨Nat.le_of_ble_eq_true rfl, Nat.le_of_ble_eq_true rfl⟩, hts _ mw_1024, hts _ ms_44⟩ (ow_preV hB k0 rfl) rfl rfl hl.1 rfl (lv_room (Nat.le_of_ble_eq_true rfl)) dc_M_work_104 ⟨Nat.zero_le _, Nat.zero_le _⟩) hB (fun r5 M4 H locs h hB => ?_)
                        exact ow_iret hx hb hr hlocks hB h dc_M_work_107
                      · have h := h2 hc10
                        refine lv_tableOut hx hb dc_M_work_5 (by have a0 := lv_neT hc0 (a := 0) rfl; have a1 := lv_neT hc1 (a := 1) rfl; have a2 := lv_neT hc2 (a := 2) rfl; have a3 := lv_neT hc3 (a := 3) rfl; have a4 := lv_neT hc4 (a := 4) rfl; have a5 := lv_neT hc5 (a := 5) rfl; have a6 := lv_neT hc6 (a := 6) rfl; have a7 := lv_neT hc7 (a := 7) rfl; have a8 := lv_neT hc8 (a := 8) rfl; have a9 := lv_neT hc9 (a := 9) rfl; have a10 := lv_neT hc10 (a := 10) rfl; omega) rfl ?_
                        refine lv_aload_n hx hb dc_M_work_108 rfl (lv_at hl 0 rfl) ?_
                        refine ow_calli (va_runV (As := []) (rest := []) ⟨hx, hb, hml, hown, hts⟩ (ct_M_byAgenda l G hG D cA ad F _ k0 _ _ h) ⟨ow_cb 0 hts mw_1029 mw_12 mw_1026 rfl rfl hd_M_byAgenda ⟨Nat.le_of_ble_eq_true rfl, Nat.le_of_ble_eq_true rfl⟩, hts _ mw_1028, hts _ ms_45⟩ (ow_preV hB k0 rfl) rfl rfl hl.1 rfl (lv_room (Nat.le_of_ble_eq_true rfl)) dc_M_work_109 ⟨Nat.zero_le _, Nat.zero_le _⟩) hB (fun r3 M2 H locs h hB => ?_)
                        exact ow_iret hx hb hr hlocks hB h dc_M_work_112
