def wp_M_weakest_97 (F : Nat) (o0 : Nat) (x1 : Int32) (Q : Int32 → om_M → Prop)  (K4 : om_M × Int32 × Int32 → Prop) (M : om_M) (x3 : Int32) (t0 : Int32) : Prop := K4 (M, t0, x3 + 1)
def wp_M_weakest_83 (F : Nat) (o0 : Nat) (x1 : Int32) (Q : Int32 → om_M → Prop)  (K4 : om_M × Int32 × Int32 → Prop) (M : om_M) (x2 : Int32) (x3 : Int32) (x4 : Int32)  : Prop := ((x4 = 0 → wp_M_weakest_97 F o0 x1 Q K4 M x3 x2) ∧ (¬ x4 = 0 → wp_M_weakest_97 F o0 x1 Q K4 M x3 (x2 ||| ((1 : Int32) <<< (x3 &&& 31)))))
def wp_M_weakest_75 (F : Nat) (o0 : Nat) (x1 : Int32) (Q : Int32 → om_M → Prop) (x2 : Int32) (x3 : Int32) (K4 : om_M × Int32 × Int32 → Prop) (K31 : om_M × Int32 × Int32 → Prop) (M : om_M) (x5 : Int32) (t0 : Int32) : Prop := K31 (M, t0, x5 + 1)
def wp_M_weakest_70 (F : Nat) (o0 : Nat) (x1 : Int32) (Q : Int32 → om_M → Prop) (x2 : Int32) (x3 : Int32) (K4 : om_M × Int32 × Int32 → Prop) (K31 : om_M × Int32 × Int32 → Prop) (M : om_M) (x5 : Int32)  : Prop := wp_M_weakest_75 F o0 x1 Q x2 x3 K4 K31 M x5 1
def wp_M_weakest_31b (F : Nat) (o0 : Nat) (x1 : Int32) (Q : Int32 → om_M → Prop) (x2 : Int32) (x3 : Int32) (K4 : om_M × Int32 × Int32 → Prop) (K31 : om_M × Int32 × Int32 → Prop) (M : om_M) (x4 : Int32) (x5 : Int32) : Prop := (((M.1 o0 8) ≤ x5 → wp_M_weakest_83 F o0 x1 Q K4 M x2 x3 x4) ∧ (¬ (M.1 o0 8) ≤ x5 → ((x4 = 0 → wp_M_weakest_83 F o0 x1 Q K4 M x2 x3 x4) ∧ (¬ x4 = 0 → ((((x1 >>> (x5 &&& 31)) &&& 1) = 0 → wp_M_weakest_70 F o0 x1 Q x2 x3 K4 K31 M x5) ∧ (¬ ((x1 >>> (x5 &&& 31)) &&& 1) = 0 → wp_M_ahead F o0 x5 x1 M (fun r2 M1 => wp_M_ahead F o0 x3 x1 M1 (fun r4 M3 => ((r2 < r4 → wp_M_weakest_75 F o0 x1 Q x2 x3 K4 K31 M3 x5 0) ∧ (¬ r2 < r4 → wp_M_weakest_70 F o0 x1 Q x2 x3 K4 K31 M3 x5))))))))))
def wp_M_weakest_31 (F : Nat) (o0 : Nat) (x1 : Int32) (Q : Int32 → om_M → Prop) (x2 : Int32) (x3 : Int32) (K4 : om_M × Int32 × Int32 → Prop) (M : om_M) (x4 : Int32) (x5 : Int32) : Prop := ow_lp (fun (z : om_M × Int32 × Int32) K => wp_M_weakest_31b F o0 x1 Q x2 x3 K4 K z.1 z.2.1 z.2.2) F (M, x4, x5)
def wp_M_weakest_26 (F : Nat) (o0 : Nat) (x1 : Int32) (Q : Int32 → om_M → Prop)  (K4 : om_M × Int32 × Int32 → Prop) (M : om_M) (x2 : Int32) (x3 : Int32) (t0 : Int32) : Prop := wp_M_weakest_31 F o0 x1 Q x2 x3 K4 M t0 0
def wp_M_weakest_4b (F : Nat) (o0 : Nat) (x1 : Int32) (Q : Int32 → om_M → Prop)   (K4 : om_M × Int32 × Int32 → Prop) (M : om_M) (x2 : Int32) (x3 : Int32) : Prop := (((M.1 o0 8) ≤ x3 → Q x2 M) ∧ (¬ (M.1 o0 8) ≤ x3 → ((((x1 >>> (x3 &&& 31)) &&& 1) = 1 → wp_M_weakest_26 F o0 x1 Q K4 M x2 x3 1) ∧ (¬ ((x1 >>> (x3 &&& 31)) &&& 1) = 1 → wp_M_weakest_26 F o0 x1 Q K4 M x2 x3 0))))
def wp_M_weakest_4 (F : Nat) (o0 : Nat) (x1 : Int32) (Q : Int32 → om_M → Prop)   (M : om_M) (x2 : Int32) (x3 : Int32) : Prop := ow_lp (fun (z : om_M × Int32 × Int32) K => wp_M_weakest_4b F o0 x1 Q   K z.1 z.2.1 z.2.2) F (M, x2, x3)
def wp_M_weakest (F : Nat) (o0 : Nat) (x1 : Int32) (M : om_M) (Q : Int32 → om_M → Prop) : Prop := wp_M_weakest_4 F o0 x1 Q M 0 0
def wp_M_single (F : Nat) (x0 : Int32) (M : om_M) (Q : Int32 → om_M → Prop) : Prop := (((x0 &&& (x0 - 1)) = 0 → Q 1 M) ∧ (¬ (x0 &&& (x0 - 1)) = 0 → Q 0 M))
def wp_M_eliminate_125 (F : Nat) (o0 : Nat) (Q : Int32 → om_M → Prop)  (K41 : om_M × Int32 × Int32 → Prop) (M : om_M) (x1 : Int32) (x2 : Int32)  : Prop := K41 (M, x1, x2 + (-1))
def wp_M_eliminate_119 (F : Nat) (o0 : Nat) (Q : Int32 → om_M → Prop) (x1 : Int32) (x2 : Int32) (x3 : Int32) (K41 : om_M × Int32 × Int32 → Prop) (K86 : om_M × Int32 → Prop) (M : om_M) (x4 : Int32)  : Prop := K86 (M, x4 + 1)
def wp_M_eliminate_86b (F : Nat) (o0 : Nat) (Q : Int32 → om_M → Prop) (x1 : Int32) (x2 : Int32) (x3 : Int32) (K41 : om_M × Int32 × Int32 → Prop) (K86 : om_M × Int32 → Prop) (M : om_M) (x4 : Int32) : Prop := (((M.1 o0 8) ≤ x4 → wp_M_eliminate_125 F o0 Q K41 M x1 x2) ∧ (¬ (M.1 o0 8) ≤ x4 → ((((x3 >>> (x4 &&& 31)) &&& 1) = 1 → vp_in (x2 &&& (((1 : Int32) <<< (x4 &&& 31)) ^^^ (-1))) 128 ∧ wp_M_eliminate_119 F o0 Q x1 x2 x3 K41 K86 (om_up M (o0 + 14) (x2 &&& (((1 : Int32) <<< (x4 &&& 31)) ^^^ (-1))).toNatClampNeg 1) x4) ∧ (¬ ((x3 >>> (x4 &&& 31)) &&& 1) = 1 → wp_M_eliminate_119 F o0 Q x1 x2 x3 K41 K86 M x4))))
def wp_M_eliminate_86 (F : Nat) (o0 : Nat) (Q : Int32 → om_M → Prop) (x1 : Int32) (x2 : Int32) (x3 : Int32) (K41 : om_M × Int32 × Int32 → Prop) (M : om_M) (x4 : Int32) : Prop := ow_lp (fun (z : om_M × Int32) K => wp_M_eliminate_86b F o0 Q x1 x2 x3 K41 K z.1 z.2) F (M, x4)
def wp_M_eliminate_68 (F : Nat) (o0 : Nat) (Q : Int32 → om_M → Prop)  (K41 : om_M × Int32 × Int32 → Prop) (M : om_M) (x1 : Int32) (x2 : Int32)  : Prop := vp_in x2 128 ∧ (((M.1 (o0 + 14) x2.toNatClampNeg) = 0 → wp_M_eliminate_125 F o0 Q K41 M x1 x2) ∧ (¬ (M.1 (o0 + 14) x2.toNatClampNeg) = 0 → wp_M_weakest F o0 x2 M (fun r4 M3 => wp_M_eliminate_86 F o0 Q x1 x2 r4 K41 M3 0)))
def wp_M_eliminate_41b (F : Nat) (o0 : Nat) (Q : Int32 → om_M → Prop)   (K41 : om_M × Int32 × Int32 → Prop) (M : om_M) (x1 : Int32) (x2 : Int32) : Prop := ((x2 ≤ 0 → Q x1 M) ∧ (¬ x2 ≤ 0 → vp_in x2 128 ∧ (((M.1 (o0 + 14) x2.toNatClampNeg) = 0 → wp_M_eliminate_68 F o0 Q K41 M x1 x2) ∧ (¬ (M.1 (o0 + 14) x2.toNatClampNeg) = 0 → wp_M_single F x2 M (fun r7 M6 => ((r7 = 0 → wp_M_eliminate_68 F o0 Q K41 M6 x1 x2) ∧ (¬ r7 = 0 → wp_M_eliminate_125 F o0 Q K41 M6 (x1 ||| x2) x2)))))))
def wp_M_eliminate_41 (F : Nat) (o0 : Nat) (Q : Int32 → om_M → Prop)   (M : om_M) (x1 : Int32) (x2 : Int32) : Prop := ow_lp (fun (z : om_M × Int32 × Int32) K => wp_M_eliminate_41b F o0 Q   K z.1 z.2.1 z.2.2) F (M, x1, x2)
def wp_M_eliminate_36 (F : Nat) (o0 : Nat) (Q : Int32 → om_M → Prop)   (M : om_M) (x1 : Int32)  : Prop := wp_M_all F o0 M (fun r9 M8 => wp_M_eliminate_41 F o0 Q M8 x1 r9)
def wp_M_eliminate_29 (F : Nat) (o0 : Nat) (Q : Int32 → om_M → Prop) (x1 : Int32) (K7 : om_M × Int32 → Prop) (M : om_M) (x2 : Int32) (t0 : Nat) (t1 : Int32) (t2 : Int32) : Prop := vp_in t1 128 ∧ vp_nar .boolean t2 = t2 ∧ K7 (om_up M t0 t1.toNatClampNeg t2, x2 + (-1))
def wp_M_eliminate_7b (F : Nat) (o0 : Nat) (Q : Int32 → om_M → Prop) (x1 : Int32)  (K7 : om_M × Int32 → Prop) (M : om_M) (x2 : Int32) : Prop := ((x2 ≤ 0 → wp_M_eliminate_36 F o0 Q M x1) ∧ (¬ x2 ≤ 0 → wp_M_all F o0 M (fun r13 M12 => ((x2 = r13 → wp_M_eliminate_29 F o0 Q x1 K7 M12 x2 (o0 + 14) x2 1) ∧ (¬ x2 = r13 → wp_M_eliminate_29 F o0 Q x1 K7 M12 x2 (o0 + 14) x2 0)))))
def wp_M_eliminate_7 (F : Nat) (o0 : Nat) (Q : Int32 → om_M → Prop) (x1 : Int32)  (M : om_M) (x2 : Int32) : Prop := ow_lp (fun (z : om_M × Int32) K => wp_M_eliminate_7b F o0 Q x1  K z.1 z.2) F (M, x2)
def wp_M_eliminate (F : Nat) (o0 : Nat) (M : om_M) (Q : Int32 → om_M → Prop) : Prop := wp_M_all F o0 M (fun r15 M14 => wp_M_eliminate_7 F o0 Q 0 M14 r15)
def wp_M_findPaths_222 (F : Nat) (o0 : Nat) (Q : om_M → Prop)  (K74 : om_M × Int32 → Prop) (M : om_M) (x1 : Int32)  : Prop := K74 (M, x1)
def wp_M_findPaths_216 (F : Nat) (o0 : Nat) (Q : om_M → Prop)  (K74 : om_M × Int32 → Prop) (K82 : om_M × Int32 × Int32 → Prop) (M : om_M) (x1 : Int32) (x2 : Int32)  : Prop := K82 (M, x1, x2 + 1)
def wp_M_findPaths_210 (F : Nat) (o0 : Nat) (Q : om_M → Prop) (x2 : Int32) (K74 : om_M × Int32 → Prop) (K82 : om_M × Int32 × Int32 → Prop) (K92 : om_M × Int32 × Int32 → Prop) (M : om_M) (x1 : Int32) (x3 : Int32)  : Prop := K92 (M, x1, x3 + 1)
def wp_M_findPaths_204 (F : Nat) (o0 : Nat) (Q : om_M → Prop) (x2 : Int32) (x3 : Int32) (K74 : om_M × Int32 → Prop) (K82 : om_M × Int32 × Int32 → Prop) (K92 : om_M × Int32 × Int32 → Prop) (K103 : om_M × Int32 × Int32 → Prop) (M : om_M) (x1 : Int32) (x4 : Int32)  : Prop := K103 (M, x1, x4 + 1)
def wp_M_findPaths_171 (F : Nat) (o0 : Nat) (Q : om_M → Prop) (x2 : Int32) (x3 : Int32) (K74 : om_M × Int32 → Prop) (K82 : om_M × Int32 × Int32 → Prop) (K92 : om_M × Int32 × Int32 → Prop) (K103 : om_M × Int32 × Int32 → Prop) (M : om_M) (x1 : Int32) (x4 : Int32) (t0 : Int32) : Prop := vp_in (((7 : Int32) * x2) + x3) 49 ∧ ((t0 ≤ (M.1 (o0 + 12) (((7 : Int32) * x2) + x3).toNatClampNeg) → wp_M_findPaths_204 F o0 Q x2 x3 K74 K82 K92 K103 M x1 x4) ∧ (¬ t0 ≤ (M.1 (o0 + 12) (((7 : Int32) * x2) + x3).toNatClampNeg) → wp_M_findPaths_204 F o0 Q x2 x3 K74 K82 K92 K103 (om_up M (o0 + 12) (((7 : Int32) * x2) + x3).toNatClampNeg t0) 1 x4))
def wp_M_findPaths_103b (F : Nat) (o0 : Nat) (Q : om_M → Prop) (x2 : Int32) (x3 : Int32) (K74 : om_M × Int32 → Prop) (K82 : om_M × Int32 × Int32 → Prop) (K92 : om_M × Int32 × Int32 → Prop) (K103 : om_M × Int32 × Int32 → Prop) (M : om_M) (x1 : Int32) (x4 : Int32) : Prop := (((M.1 o0 8) ≤ x4 → wp_M_findPaths_210 F o0 Q x2 K74 K82 K92 M x1 x3) ∧ (¬ (M.1 o0 8) ≤ x4 → ((x2 = x3 → wp_M_findPaths_210 F o0 Q x2 K74 K82 K92 M x1 x3) ∧ (¬ x2 = x3 → vp_in (((7 : Int32) * x2) + x4) 49 ∧ vp_in (((7 : Int32) * x4) + x3) 49 ∧ (((M.1 (o0 + 12) (((7 : Int32) * x4) + x3).toNatClampNeg) ≤ (M.1 (o0 + 12) (((7 : Int32) * x2) + x4).toNatClampNeg) → wp_M_findPaths_171 F o0 Q x2 x3 K74 K82 K92 K103 M x1 x4 (M.1 (o0 + 12) (((7 : Int32) * x4) + x3).toNatClampNeg)) ∧ (¬ (M.1 (o0 + 12) (((7 : Int32) * x4) + x3).toNatClampNeg) ≤ (M.1 (o0 + 12) (((7 : Int32) * x2) + x4).toNatClampNeg) → wp_M_findPaths_171 F o0 Q x2 x3 K74 K82 K92 K103 M x1 x4 (M.1 (o0 + 12) (((7 : Int32) * x2) + x4).toNatClampNeg)))))))
def wp_M_findPaths_103 (F : Nat) (o0 : Nat) (Q : om_M → Prop) (x2 : Int32) (x3 : Int32) (K74 : om_M × Int32 → Prop) (K82 : om_M × Int32 × Int32 → Prop) (K92 : om_M × Int32 × Int32 → Prop) (M : om_M) (x1 : Int32) (x4 : Int32) : Prop := ow_lp (fun (z : om_M × Int32 × Int32) K => wp_M_findPaths_103b F o0 Q x2 x3 K74 K82 K92 K z.1 z.2.1 z.2.2) F (M, x1, x4)
def wp_M_findPaths_92b (F : Nat) (o0 : Nat) (Q : om_M → Prop) (x2 : Int32) (K74 : om_M × Int32 → Prop) (K82 : om_M × Int32 × Int32 → Prop) (K92 : om_M × Int32 × Int32 → Prop) (M : om_M) (x1 : Int32) (x3 : Int32) : Prop := (((M.1 o0 8) ≤ x3 → wp_M_findPaths_216 F o0 Q K74 K82 M x1 x2) ∧ (¬ (M.1 o0 8) ≤ x3 → wp_M_findPaths_103 F o0 Q x2 x3 K74 K82 K92 M x1 0))
def wp_M_findPaths_92 (F : Nat) (o0 : Nat) (Q : om_M → Prop) (x2 : Int32) (K74 : om_M × Int32 → Prop) (K82 : om_M × Int32 × Int32 → Prop) (M : om_M) (x1 : Int32) (x3 : Int32) : Prop := ow_lp (fun (z : om_M × Int32 × Int32) K => wp_M_findPaths_92b F o0 Q x2 K74 K82 K z.1 z.2.1 z.2.2) F (M, x1, x3)
def wp_M_findPaths_82b (F : Nat) (o0 : Nat) (Q : om_M → Prop)  (K74 : om_M × Int32 → Prop) (K82 : om_M × Int32 × Int32 → Prop) (M : om_M) (x1 : Int32) (x2 : Int32) : Prop := (((M.1 o0 8) ≤ x2 → wp_M_findPaths_222 F o0 Q K74 M x1) ∧ (¬ (M.1 o0 8) ≤ x2 → wp_M_findPaths_92 F o0 Q x2 K74 K82 M x1 0))
def wp_M_findPaths_82 (F : Nat) (o0 : Nat) (Q : om_M → Prop)  (K74 : om_M × Int32 → Prop) (M : om_M) (x1 : Int32) (x2 : Int32) : Prop := ow_lp (fun (z : om_M × Int32 × Int32) K => wp_M_findPaths_82b F o0 Q  K74 K z.1 z.2.1 z.2.2) F (M, x1, x2)
def wp_M_findPaths_74b (F : Nat) (o0 : Nat) (Q : om_M → Prop)   (K74 : om_M × Int32 → Prop) (M : om_M) (x1 : Int32) : Prop := ((x1 = 0 → Q M) ∧ (¬ x1 = 0 → wp_M_findPaths_82 F o0 Q K74 M 0 0))
def wp_M_findPaths_74 (F : Nat) (o0 : Nat) (Q : om_M → Prop)   (M : om_M) (x1 : Int32) : Prop := ow_lp (fun (z : om_M × Int32) K => wp_M_findPaths_74b F o0 Q   K z.1 z.2) F (M, x1)
def wp_M_findPaths_72 (F : Nat) (o0 : Nat) (Q : om_M → Prop)   (M : om_M)   : Prop := wp_M_findPaths_74 F o0 Q M 1
def wp_M_findPaths_66 (F : Nat) (o0 : Nat) (Q : om_M → Prop)  (K2 : om_M × Int32 → Prop) (M : om_M) (x1 : Int32)  : Prop := K2 (M, x1 + 1)
def wp_M_findPaths_59 (F : Nat) (o0 : Nat) (Q : om_M → Prop) (x1 : Int32) (K2 : om_M × Int32 → Prop) (K12 : om_M × Int32 → Prop) (M : om_M) (x2 : Int32) (t0 : Nat) (t1 : Int32) (t2 : Int32) : Prop := vp_in t1 49 ∧ K12 (om_up M t0 t1.toNatClampNeg t2, x2 + 1)
def wp_M_findPaths_58 (F : Nat) (o0 : Nat) (Q : om_M → Prop) (x1 : Int32) (K2 : om_M × Int32 → Prop) (K12 : om_M × Int32 → Prop) (M : om_M) (x2 : Int32) (t0 : Nat) (t1 : Int32) : Prop := wp_M_findPaths_59 F o0 Q x1 K2 K12 M x2 t0 t1 0
def wp_M_findPaths_12b (F : Nat) (o0 : Nat) (Q : om_M → Prop) (x1 : Int32) (K2 : om_M × Int32 → Prop) (K12 : om_M × Int32 → Prop) (M : om_M) (x2 : Int32) : Prop := (((M.1 o0 8) ≤ x2 → wp_M_findPaths_66 F o0 Q K2 M x1) ∧ (¬ (M.1 o0 8) ≤ x2 → ((x1 = x2 → wp_M_findPaths_58 F o0 Q x1 K2 K12 M x2 (o0 + 12) (((7 : Int32) * x1) + x2)) ∧ (¬ x1 = x2 → wp_M_beats F o0 x1 x2 M (fun r6 M5 => ((r6 = 0 → wp_M_findPaths_58 F o0 Q x1 K2 K12 M5 x2 (o0 + 12) (((7 : Int32) * x1) + x2)) ∧ (¬ r6 = 0 → vp_in (((7 : Int32) * x1) + x2) 49 ∧ wp_M_findPaths_59 F o0 Q x1 K2 K12 M5 x2 (o0 + 12) (((7 : Int32) * x1) + x2) (M5.1 (o0 + 11) (((7 : Int32) * x1) + x2).toNatClampNeg))))))))
def wp_M_findPaths_12 (F : Nat) (o0 : Nat) (Q : om_M → Prop) (x1 : Int32) (K2 : om_M × Int32 → Prop) (M : om_M) (x2 : Int32) : Prop := ow_lp (fun (z : om_M × Int32) K => wp_M_findPaths_12b F o0 Q x1 K2 K z.1 z.2) F (M, x2)
def wp_M_findPaths_2b (F : Nat) (o0 : Nat) (Q : om_M → Prop)   (K2 : om_M × Int32 → Prop) (M : om_M) (x1 : Int32) : Prop := (((M.1 o0 8) ≤ x1 → wp_M_findPaths_72 F o0 Q M) ∧ (¬ (M.1 o0 8) ≤ x1 → wp_M_findPaths_12 F o0 Q x1 K2 M 0))
def wp_M_findPaths_2 (F : Nat) (o0 : Nat) (Q : om_M → Prop)   (M : om_M) (x1 : Int32) : Prop := ow_lp (fun (z : om_M × Int32) K => wp_M_findPaths_2b F o0 Q   K z.1 z.2) F (M, x1)
def wp_M_findPaths (F : Nat) (o0 : Nat) (M : om_M) (Q : om_M → Prop) : Prop := wp_M_findPaths_2 F o0 Q M 0
def wp_M_pathWinners_92 (F : Nat) (o0 : Nat) (Q : Int32 → om_M → Prop)  (K8 : om_M × Int32 × Int32 → Prop) (M : om_M) (x2 : Int32) (t0 : Int32) : Prop := K8 (M, t0, x2 + 1)
def wp_M_pathWinners_79 (F : Nat) (o0 : Nat) (Q : Int32 → om_M → Prop)  (K8 : om_M × Int32 × Int32 → Prop) (M : om_M) (x1 : Int32) (x2 : Int32) (x3 : Int32)  : Prop := ((x3 = 0 → wp_M_pathWinners_92 F o0 Q K8 M x2 x1) ∧ (¬ x3 = 0 → wp_M_pathWinners_92 F o0 Q K8 M x2 (x1 ||| ((1 : Int32) <<< (x2 &&& 31)))))
def wp_M_pathWinners_72 (F : Nat) (o0 : Nat) (Q : Int32 → om_M → Prop) (x1 : Int32) (x2 : Int32) (K8 : om_M × Int32 × Int32 → Prop) (K21 : om_M × Int32 × Int32 → Prop) (M : om_M) (x4 : Int32) (t0 : Int32) : Prop := K21 (M, t0, x4 + 1)
def wp_M_pathWinners_71 (F : Nat) (o0 : Nat) (Q : Int32 → om_M → Prop) (x1 : Int32) (x2 : Int32) (K8 : om_M × Int32 × Int32 → Prop) (K21 : om_M × Int32 × Int32 → Prop) (M : om_M) (x4 : Int32)  : Prop := wp_M_pathWinners_72 F o0 Q x1 x2 K8 K21 M x4 0
def wp_M_pathWinners_67 (F : Nat) (o0 : Nat) (Q : Int32 → om_M → Prop) (x1 : Int32) (x2 : Int32) (K8 : om_M × Int32 × Int32 → Prop) (K21 : om_M × Int32 × Int32 → Prop) (M : om_M) (x4 : Int32)  : Prop := wp_M_pathWinners_72 F o0 Q x1 x2 K8 K21 M x4 1
def wp_M_pathWinners_21b (F : Nat) (o0 : Nat) (Q : Int32 → om_M → Prop) (x1 : Int32) (x2 : Int32) (K8 : om_M × Int32 × Int32 → Prop) (K21 : om_M × Int32 × Int32 → Prop) (M : om_M) (x3 : Int32) (x4 : Int32) : Prop := (((M.1 o0 8) ≤ x4 → wp_M_pathWinners_79 F o0 Q K8 M x1 x2 x3) ∧ (¬ (M.1 o0 8) ≤ x4 → ((x3 = 0 → wp_M_pathWinners_71 F o0 Q x1 x2 K8 K21 M x4) ∧ (¬ x3 = 0 → ((x2 = x4 → wp_M_pathWinners_67 F o0 Q x1 x2 K8 K21 M x4) ∧ (¬ x2 = x4 → vp_in (((7 : Int32) * x2) + x4) 49 ∧ vp_in (((7 : Int32) * x4) + x2) 49 ∧ (((M.1 (o0 + 12) (((7 : Int32) * x2) + x4).toNatClampNeg) < (M.1 (o0 + 12) (((7 : Int32) * x4) + x2).toNatClampNeg) → wp_M_pathWinners_71 F o0 Q x1 x2 K8 K21 M x4) ∧ (¬ (M.1 (o0 + 12) (((7 : Int32) * x2) + x4).toNatClampNeg) < (M.1 (o0 + 12) (((7 : Int32) * x4) + x2).toNatClampNeg) → wp_M_pathWinners_67 F o0 Q x1 x2 K8 K21 M x4))))))))
def wp_M_pathWinners_21 (F : Nat) (o0 : Nat) (Q : Int32 → om_M → Prop) (x1 : Int32) (x2 : Int32) (K8 : om_M × Int32 × Int32 → Prop) (M : om_M) (x3 : Int32) (x4 : Int32) : Prop := ow_lp (fun (z : om_M × Int32 × Int32) K => wp_M_pathWinners_21b F o0 Q x1 x2 K8 K z.1 z.2.1 z.2.2) F (M, x3, x4)
def wp_M_pathWinners_8b (F : Nat) (o0 : Nat) (Q : Int32 → om_M → Prop)   (K8 : om_M × Int32 × Int32 → Prop) (M : om_M) (x1 : Int32) (x2 : Int32) : Prop := (((M.1 o0 8) ≤ x2 → Q x1 M) ∧ (¬ (M.1 o0 8) ≤ x2 → wp_M_pathWinners_21 F o0 Q x1 x2 K8 M 1 0))
def wp_M_pathWinners_8 (F : Nat) (o0 : Nat) (Q : Int32 → om_M → Prop)   (M : om_M) (x1 : Int32) (x2 : Int32) : Prop := ow_lp (fun (z : om_M × Int32 × Int32) K => wp_M_pathWinners_8b F o0 Q   K z.1 z.2.1 z.2.2) F (M, x1, x2)
def wp_M_pathWinners (F : Nat) (o0 : Nat) (M : om_M) (Q : Int32 → om_M → Prop) : Prop := wp_M_findPaths F o0 M (fun M3 => wp_M_pathWinners_8 F o0 Q M3 0 0)
def wp_M_leads_95 (F : Nat) (o0 : Nat) (x1 : Int32) (x2 : Int32) (Q : Int32 → om_M → Prop)   (M : om_M) (x3 : Int32)  : Prop := ((((x3 >>> (x2 &&& 31)) &&& 1) = 1 → Q 1 M) ∧ (¬ ((x3 >>> (x2 &&& 31)) &&& 1) = 1 → Q 0 M))
def wp_M_leads_89 (F : Nat) (o0 : Nat) (x1 : Int32) (x2 : Int32) (Q : Int32 → om_M → Prop)  (K7 : om_M × Int32 × Int32 → Prop) (M : om_M) (x3 : Int32) (x4 : Int32)  : Prop := K7 (M, x3, x4 + 1)
def wp_M_leads_83 (F : Nat) (o0 : Nat) (x1 : Int32) (x2 : Int32) (Q : Int32 → om_M → Prop) (x4 : Int32) (K7 : om_M × Int32 × Int32 → Prop) (K19 : om_M × Int32 × Int32 → Prop) (M : om_M) (x3 : Int32) (x5 : Int32)  : Prop := K19 (M, x3, x5 + 1)
def wp_M_leads_76 (F : Nat) (o0 : Nat) (x1 : Int32) (x2 : Int32) (Q : Int32 → om_M → Prop) (x4 : Int32) (x5 : Int32) (K7 : om_M × Int32 × Int32 → Prop) (K19 : om_M × Int32 × Int32 → Prop) (K31 : om_M × Int32 × Int32 → Prop) (M : om_M) (x6 : Int32) (t0 : Int32) : Prop := K31 (M, t0, x6 + 1)
def wp_M_leads_75 (F : Nat) (o0 : Nat) (x1 : Int32) (x2 : Int32) (Q : Int32 → om_M → Prop) (x4 : Int32) (x5 : Int32) (K7 : om_M × Int32 × Int32 → Prop) (K19 : om_M × Int32 × Int32 → Prop) (K31 : om_M × Int32 × Int32 → Prop) (M : om_M) (x3 : Int32) (x6 : Int32)  : Prop := wp_M_leads_76 F o0 x1 x2 Q x4 x5 K7 K19 K31 M x6 x3
def wp_M_leads_31b (F : Nat) (o0 : Nat) (x1 : Int32) (x2 : Int32) (Q : Int32 → om_M → Prop) (x4 : Int32) (x5 : Int32) (K7 : om_M × Int32 × Int32 → Prop) (K19 : om_M × Int32 × Int32 → Prop) (K31 : om_M × Int32 × Int32 → Prop) (M : om_M) (x3 : Int32) (x6 : Int32) : Prop := (((M.1 o0 8) ≤ x6 → wp_M_leads_83 F o0 x1 x2 Q x4 K7 K19 M x3 x5) ∧ (¬ (M.1 o0 8) ≤ x6 → ((((x3 >>> (x5 &&& 31)) &&& 1) = 1 → vp_in (((7 : Int32) * x5) + x6) 49 ∧ (((M.1 (o0 + 13) (((7 : Int32) * x5) + x6).toNatClampNeg) = 0 → wp_M_leads_75 F o0 x1 x2 Q x4 x5 K7 K19 K31 M x3 x6) ∧ (¬ (M.1 (o0 + 13) (((7 : Int32) * x5) + x6).toNatClampNeg) = 0 → wp_M_leads_76 F o0 x1 x2 Q x4 x5 K7 K19 K31 M x6 (x3 ||| ((1 : Int32) <<< (x6 &&& 31)))))) ∧ (¬ ((x3 >>> (x5 &&& 31)) &&& 1) = 1 → wp_M_leads_75 F o0 x1 x2 Q x4 x5 K7 K19 K31 M x3 x6))))
def wp_M_leads_31 (F : Nat) (o0 : Nat) (x1 : Int32) (x2 : Int32) (Q : Int32 → om_M → Prop) (x4 : Int32) (x5 : Int32) (K7 : om_M × Int32 × Int32 → Prop) (K19 : om_M × Int32 × Int32 → Prop) (M : om_M) (x3 : Int32) (x6 : Int32) : Prop := ow_lp (fun (z : om_M × Int32 × Int32) K => wp_M_leads_31b F o0 x1 x2 Q x4 x5 K7 K19 K z.1 z.2.1 z.2.2) F (M, x3, x6)
def wp_M_leads_19b (F : Nat) (o0 : Nat) (x1 : Int32) (x2 : Int32) (Q : Int32 → om_M → Prop) (x4 : Int32) (K7 : om_M × Int32 × Int32 → Prop) (K19 : om_M × Int32 × Int32 → Prop) (M : om_M) (x3 : Int32) (x5 : Int32) : Prop := (((M.1 o0 8) ≤ x5 → wp_M_leads_89 F o0 x1 x2 Q K7 M x3 x4) ∧ (¬ (M.1 o0 8) ≤ x5 → wp_M_leads_31 F o0 x1 x2 Q x4 x5 K7 K19 M x3 0))
def wp_M_leads_19 (F : Nat) (o0 : Nat) (x1 : Int32) (x2 : Int32) (Q : Int32 → om_M → Prop) (x4 : Int32) (K7 : om_M × Int32 × Int32 → Prop) (M : om_M) (x3 : Int32) (x5 : Int32) : Prop := ow_lp (fun (z : om_M × Int32 × Int32) K => wp_M_leads_19b F o0 x1 x2 Q x4 K7 K z.1 z.2.1 z.2.2) F (M, x3, x5)
def wp_M_leads_7b (F : Nat) (o0 : Nat) (x1 : Int32) (x2 : Int32) (Q : Int32 → om_M → Prop)   (K7 : om_M × Int32 × Int32 → Prop) (M : om_M) (x3 : Int32) (x4 : Int32) : Prop := (((M.1 o0 8) ≤ x4 → wp_M_leads_95 F o0 x1 x2 Q M x3) ∧ (¬ (M.1 o0 8) ≤ x4 → wp_M_leads_19 F o0 x1 x2 Q x4 K7 M x3 0))
def wp_M_leads_7 (F : Nat) (o0 : Nat) (x1 : Int32) (x2 : Int32) (Q : Int32 → om_M → Prop)   (M : om_M) (x3 : Int32) (x4 : Int32) : Prop := ow_lp (fun (z : om_M × Int32 × Int32) K => wp_M_leads_7b F o0 x1 x2 Q   K z.1 z.2.1 z.2.2) F (M, x3, x4)
def wp_M_leads (F : Nat) (o0 : Nat) (x1 : Int32) (x2 : Int32) (M : om_M) (Q : Int32 → om_M → Prop) : Prop := wp_M_leads_7 F o0 x1 x2 Q M ((1 : Int32) <<< (x1 &&& 31)) 0
def wp_M_sooner (F : Nat) (o0 : Nat) (x1 : Int32) (x2 : Int32) (x3 : Int32) (x4 : Int32) (M : om_M) (Q : Int32 → om_M → Prop) : Prop := vp_in (((7 : Int32) * x1) + x2) 49 ∧ vp_in (((7 : Int32) * x3) + x4) 49 ∧ (((M.1 (o0 + 11) (((7 : Int32) * x1) + x2).toNatClampNeg) = (M.1 (o0 + 11) (((7 : Int32) * x3) + x4).toNatClampNeg) → ((x1 = x3 → wp_M_tiePlace F o0 x2 M (fun r4 M3 => wp_M_tiePlace F o0 x4 M3 (fun r6 M5 => ((r6 ≤ r4 → Q 0 M5) ∧ (¬ r6 ≤ r4 → Q 1 M5))))) ∧ (¬ x1 = x3 → wp_M_tiePlace F o0 x1 M (fun r8 M7 => wp_M_tiePlace F o0 x3 M7 (fun r10 M9 => ((r10 ≤ r8 → Q 0 M9) ∧ (¬ r10 ≤ r8 → Q 1 M9))))))) ∧ (¬ (M.1 (o0 + 11) (((7 : Int32) * x1) + x2).toNatClampNeg) = (M.1 (o0 + 11) (((7 : Int32) * x3) + x4).toNatClampNeg) → (((M.1 (o0 + 11) (((7 : Int32) * x1) + x2).toNatClampNeg) ≤ (M.1 (o0 + 11) (((7 : Int32) * x3) + x4).toNatClampNeg) → Q 0 M) ∧ (¬ (M.1 (o0 + 11) (((7 : Int32) * x1) + x2).toNatClampNeg) ≤ (M.1 (o0 + 11) (((7 : Int32) * x3) + x4).toNatClampNeg) → Q 1 M))))
abbrev rm_M_weakest : Room := { frames := 1, cells := 0, slots := 0, locals := 25 }
theorem hd_M_weakest : yn_M_weakest.cls ≠ "java/lang/invoke/MethodHandle" ∧ yn_M_weakest.cls ≠ "java/lang/invoke/VarHandle" ∧ (parseMethodDescriptor yn_M_weakest.desc).map (fun d => d.parameters.length) = some 1 := by decide +kernel
set_option maxHeartbeats 4000000 in
set_option maxRecDepth 100000 in
theorem ct_M_weakest (l : Launch) (G : List (Nat × Nat)) (hG : ow_lay G) (D : va_G) (cA : Nat → ClassId) (ad : Nat → Nat) (F : Nat) (o0 : Nat) (k0 : ow_kd G o0 = (3, 9)) (x1 : Int32) (M : om_M) (Q : Int32 → om_M → Prop) (h : wp_M_weakest F o0 x1 M Q) : Met l yn_M_weakest (ow_ws yn_M_weakest cb_M_weakest 6 (some .int)) rm_M_weakest (ow_Pc G D cA ad M [.ref (ad o0), .int x1]) (ow_Qi G D cA ad Q) 0 0 (ow_A G ad) := by
  refine Met.ofW (cc := cb_M_weakest) (maxL := 6) (ret := (some .int)) (by decide) rfl ?_
  intro p e s m args below meth c s₁ B hml hv
  obtain ⟨rfl, hB⟩ := hv
  have hx := B.exec
  have hb := B.bytes
  have hr := B.returns
  have hlocks := B.notSynchronized
  have hts : ∀ w ∈ lw_g, w.before ([.ref (ad o0), .int x1] : List Value).toArray s = true := fun w h => atoms_spec (ws := ow_ws yn_M_weakest cb_M_weakest 6 (some .int)) B.pre w (List.mem_cons_of_mem _ h)
  have hown : s.vm.findClass "BallotDeskModel" = some m.cls := findClass_of_methodNamed B.named
  clear B
  have L97 : ∀  (K4 : om_M × Int32 × Int32 → Prop) (hK4 : ∀ (M : om_M) (x2 : Int32) (x3 : Int32) (H : Heap) (locs : List Loc) (ls : Array Slot), K4 (M, x2, x3) → ow_B G D cA ad (ow_A G ad) M s s.heap H locs → lv_has ls 6 [(0, .ref (ad o0)), (1, .int x1), (2, .int x2), (3, .int x3)] → W p l e rm_M_weakest s m ([.ref (ad o0), .int x1] : List Value).toArray below meth c H locs 0 0 (MQ below (ow_Qi G D cA ad Q) ([.ref (ad o0), .int x1] : List Value).toArray s 0 0 (ow_A G ad)) (F0 m 4 ls [])) (M : om_M) (x3 : Int32) (t0 : Int32) (H : Heap) (locs : List Loc) (ls : Array Slot), wp_M_weakest_97 F o0 x1 Q  K4 M x3 t0 → ow_B G D cA ad (ow_A G ad) M s s.heap H locs → lv_has ls 6 [(0, .ref (ad o0)), (1, .int x1), (3, .int x3)] → W p l e rm_M_weakest s m ([.ref (ad o0), .int x1] : List Value).toArray below meth c H locs 0 0 (MQ below (ow_Qi G D cA ad Q) ([.ref (ad o0), .int x1] : List Value).toArray s 0 0 (ow_A G ad)) (F0 m 97 ls [.int t0]) := by
    intro  K4 hK4 M x3 t0 H locs ls h hB hl
    refine lv_istore_n hx hb dc_M_weakest_97 rfl hl (by decide) rfl (fun ls hl => ?_)
    refine lv_iinc hx hb dc_M_weakest_98 hl (k := 3) rfl rfl (by decide) rfl (fun ls hl => ?_)
    refine lv_goto hx hb dc_M_weakest_101 rfl ?_
    exact hK4 _ _ _ _ _ _ h hB (lv_sub hl [2, 3, 1, 0] rfl)
  have L83 : ∀  (K4 : om_M × Int32 × Int32 → Prop) (hK4 : ∀ (M : om_M) (x2 : Int32) (x3 : Int32) (H : Heap) (locs : List Loc) (ls : Array Slot), K4 (M, x2, x3) → ow_B G D cA ad (ow_A G ad) M s s.heap H locs → lv_has ls 6 [(0, .ref (ad o0)), (1, .int x1), (2, .int x2), (3, .int x3)] → W p l e rm_M_weakest s m ([.ref (ad o0), .int x1] : List Value).toArray below meth c H locs 0 0 (MQ below (ow_Qi G D cA ad Q) ([.ref (ad o0), .int x1] : List Value).toArray s 0 0 (ow_A G ad)) (F0 m 4 ls [])) (M : om_M) (x2 : Int32) (x3 : Int32) (x4 : Int32)  (H : Heap) (locs : List Loc) (ls : Array Slot), wp_M_weakest_83 F o0 x1 Q  K4 M x2 x3 x4  → ow_B G D cA ad (ow_A G ad) M s s.heap H locs → lv_has ls 6 [(0, .ref (ad o0)), (1, .int x1), (2, .int x2), (3, .int x3), (4, .int x4)] → W p l e rm_M_weakest s m ([.ref (ad o0), .int x1] : List Value).toArray below meth c H locs 0 0 (MQ below (ow_Qi G D cA ad Q) ([.ref (ad o0), .int x1] : List Value).toArray s 0 0 (ow_A G ad)) (F0 m 83 ls []) := by
    intro  K4 hK4 M x2 x3 x4 H locs ls h hB hl
    refine lv_iload hx hb dc_M_weakest_83 (lv_at hl 4 rfl) ?_
    obtain ⟨h1, h2⟩ := h
    refine lv_if_eq hx hb dc_M_weakest_85 rfl (fun hc => ?_) (fun hc => ?_)
    · have h := h1 hc
      refine lv_iload_n hx hb dc_M_weakest_96 rfl (lv_at hl 2 rfl) ?_
      exact L97 K4 hK4 _ _ _ _ _ _ h hB (lv_sub hl [0, 1, 3] rfl)
    · have h := h2 hc
      refine lv_iload_n hx hb dc_M_weakest_88 rfl (lv_at hl 2 rfl) ?_
      refine lv_iconst (v := 1) hx hb dc_M_weakest_89 rfl ?_
      refine lv_iload_n hx hb dc_M_weakest_90 rfl (lv_at hl 3 rfl) ?_
      refine lv_ishl hx hb dc_M_weakest_91 ?_
      refine lv_ior hx hb dc_M_weakest_92 ?_
      refine lv_goto hx hb dc_M_weakest_93 rfl ?_
      exact L97 K4 hK4 _ _ _ _ _ _ h hB (lv_sub hl [0, 1, 3] rfl)
  have L75 : ∀ (x2 : Int32) (x3 : Int32) (K4 : om_M × Int32 × Int32 → Prop) (hK4 : ∀ (M : om_M) (x2 : Int32) (x3 : Int32) (H : Heap) (locs : List Loc) (ls : Array Slot), K4 (M, x2, x3) → ow_B G D cA ad (ow_A G ad) M s s.heap H locs → lv_has ls 6 [(0, .ref (ad o0)), (1, .int x1), (2, .int x2), (3, .int x3)] → W p l e rm_M_weakest s m ([.ref (ad o0), .int x1] : List Value).toArray below meth c H locs 0 0 (MQ below (ow_Qi G D cA ad Q) ([.ref (ad o0), .int x1] : List Value).toArray s 0 0 (ow_A G ad)) (F0 m 4 ls [])) (K31 : om_M × Int32 × Int32 → Prop) (hK31 : ∀ (M : om_M) (x4 : Int32) (x5 : Int32) (H : Heap) (locs : List Loc) (ls : Array Slot), K31 (M, x4, x5) → ow_B G D cA ad (ow_A G ad) M s s.heap H locs → lv_has ls 6 [(0, .ref (ad o0)), (1, .int x1), (2, .int x2), (3, .int x3), (4, .int x4), (5, .int x5)] → W p l e rm_M_weakest s m ([.ref (ad o0), .int x1] : List Value).toArray below meth c H locs 0 0 (MQ below (ow_Qi G D cA ad Q) ([.ref (ad o0), .int x1] : List Value).toArray s 0 0 (ow_A G ad)) (F0 m 31 ls [])) (M : om_M) (x5 : Int32) (t0 : Int32) (H : Heap) (locs : List Loc) (ls : Array Slot), wp_M_weakest_75 F o0 x1 Q x2 x3 K4 K31 M x5 t0 → ow_B G D cA ad (ow_A G ad) M s s.heap H locs → lv_has ls 6 [(0, .ref (ad o0)), (1, .int x1), (2, .int x2), (3, .int x3), (5, .int x5)] → W p l e rm_M_weakest s m ([.ref (ad o0), .int x1] : List Value).toArray below meth c H locs 0 0 (MQ below (ow_Qi G D cA ad Q) ([.ref (ad o0), .int x1] : List Value).toArray s 0 0 (ow_A G ad)) (F0 m 75 ls [.int t0]) := by
    intro x2 x3 K4 hK4 K31 hK31 M x5 t0 H locs ls h hB hl
    refine lv_istore hx hb dc_M_weakest_75 hl (by decide) rfl (fun ls hl => ?_)
    refine lv_iinc hx hb dc_M_weakest_77 hl (k := 5) rfl rfl (by decide) rfl (fun ls hl => ?_)
    refine lv_goto hx hb dc_M_weakest_80 rfl ?_
    exact hK31 _ _ _ _ _ _ h hB (lv_sub hl [2, 3, 4, 5, 1, 0] rfl)
  have L70 : ∀ (x2 : Int32) (x3 : Int32) (K4 : om_M × Int32 × Int32 → Prop) (hK4 : ∀ (M : om_M) (x2 : Int32) (x3 : Int32) (H : Heap) (locs : List Loc) (ls : Array Slot), K4 (M, x2, x3) → ow_B G D cA ad (ow_A G ad) M s s.heap H locs → lv_has ls 6 [(0, .ref (ad o0)), (1, .int x1), (2, .int x2), (3, .int x3)] → W p l e rm_M_weakest s m ([.ref (ad o0), .int x1] : List Value).toArray below meth c H locs 0 0 (MQ below (ow_Qi G D cA ad Q) ([.ref (ad o0), .int x1] : List Value).toArray s 0 0 (ow_A G ad)) (F0 m 4 ls [])) (K31 : om_M × Int32 × Int32 → Prop) (hK31 : ∀ (M : om_M) (x4 : Int32) (x5 : Int32) (H : Heap) (locs : List Loc) (ls : Array Slot), K31 (M, x4, x5) → ow_B G D cA ad (ow_A G ad) M s s.heap H locs → lv_has ls 6 [(0, .ref (ad o0)), (1, .int x1), (2, .int x2), (3, .int x3), (4, .int x4), (5, .int x5)] → W p l e rm_M_weakest s m ([.ref (ad o0), .int x1] : List Value).toArray below meth c H locs 0 0 (MQ below (ow_Qi G D cA ad Q) ([.ref (ad o0), .int x1] : List Value).toArray s 0 0 (ow_A G ad)) (F0 m 31 ls [])) (M : om_M) (x5 : Int32)  (H : Heap) (locs : List Loc) (ls : Array Slot), wp_M_weakest_70 F o0 x1 Q x2 x3 K4 K31 M x5  → ow_B G D cA ad (ow_A G ad) M s s.heap H locs → lv_has ls 6 [(0, .ref (ad o0)), (1, .int x1), (2, .int x2), (3, .int x3), (5, .int x5)] → W p l e rm_M_weakest s m ([.ref (ad o0), .int x1] : List Value).toArray below meth c H locs 0 0 (MQ below (ow_Qi G D cA ad Q) ([.ref (ad o0), .int x1] : List Value).toArray s 0 0 (ow_A G ad)) (F0 m 70 ls []) := by
    intro x2 x3 K4 hK4 K31 hK31 M x5 H locs ls h hB hl
    refine lv_iconst (v := 1) hx hb dc_M_weakest_70 rfl ?_
    refine lv_goto hx hb dc_M_weakest_71 rfl ?_
    exact L75 _ _ K4 hK4 K31 hK31 _ _ _ _ _ _ h hB (lv_sub hl [0, 1, 2, 3, 4] rfl)
  have B31 : ∀ (x2 : Int32) (x3 : Int32) (K4 : om_M × Int32 × Int32 → Prop) (hK4 : ∀ (M : om_M) (x2 : Int32) (x3 : Int32) (H : Heap) (locs : List Loc) (ls : Array Slot), K4 (M, x2, x3) → ow_B G D cA ad (ow_A G ad) M s s.heap H locs → lv_has ls 6 [(0, .ref (ad o0)), (1, .int x1), (2, .int x2), (3, .int x3)] → W p l e rm_M_weakest s m ([.ref (ad o0), .int x1] : List Value).toArray below meth c H locs 0 0 (MQ below (ow_Qi G D cA ad Q) ([.ref (ad o0), .int x1] : List Value).toArray s 0 0 (ow_A G ad)) (F0 m 4 ls [])) (K31 : om_M × Int32 × Int32 → Prop) (hK31 : ∀ (M : om_M) (x4 : Int32) (x5 : Int32) (H : Heap) (locs : List Loc) (ls : Array Slot), K31 (M, x4, x5) → ow_B G D cA ad (ow_A G ad) M s s.heap H locs → lv_has ls 6 [(0, .ref (ad o0)), (1, .int x1), (2, .int x2), (3, .int x3), (4, .int x4), (5, .int x5)] → W p l e rm_M_weakest s m ([.ref (ad o0), .int x1] : List Value).toArray below meth c H locs 0 0 (MQ below (ow_Qi G D cA ad Q) ([.ref (ad o0), .int x1] : List Value).toArray s 0 0 (ow_A G ad)) (F0 m 31 ls [])) (M : om_M) (x4 : Int32) (x5 : Int32) (H : Heap) (locs : List Loc) (ls : Array Slot), wp_M_weakest_31b F o0 x1 Q x2 x3 K4 K31 M x4 x5 → ow_B G D cA ad (ow_A G ad) M s s.heap H locs → lv_has ls 6 [(0, .ref (ad o0)), (1, .int x1), (2, .int x2), (3, .int x3), (4, .int x4), (5, .int x5)] → W p l e rm_M_weakest s m ([.ref (ad o0), .int x1] : List Value).toArray below meth c H locs 0 0 (MQ below (ow_Qi G D cA ad Q) ([.ref (ad o0), .int x1] : List Value).toArray s 0 0 (ow_A G ad)) (F0 m 31 ls []) := by
    intro x2 x3 K4 hK4 K31 hK31 M x4 x5 H locs ls h hB hl
    refine lv_iload hx hb dc_M_weakest_31 (lv_at hl 5 rfl) ?_
    refine lv_aload_n hx hb dc_M_weakest_33 rfl (lv_at hl 0 rfl) ?_
    refine ow_get hx hb hts iw_M hown hB k0 rfl 8 (by decide) mw_805 rfl dc_M_weakest_34 ?_
    obtain ⟨h1, h2⟩ := h
    refine lv_icmp_ge hx hb dc_M_weakest_37 rfl (fun hc => ?_) (fun hc => ?_)
    · have h := h1 hc
      exact L83 K4 hK4 _ _ _ _ _ _ _ h hB (lv_sub hl [0, 1, 2, 3, 4] rfl)
    · have h := h2 hc
      refine lv_iload hx hb dc_M_weakest_40 (lv_at hl 4 rfl) ?_
      obtain ⟨h1, h2⟩ := h
      refine lv_if_eq hx hb dc_M_weakest_42 rfl (fun hc => ?_) (fun hc => ?_)
      · have h := h1 hc
        exact L83 K4 hK4 _ _ _ _ _ _ _ h hB (lv_sub hl [0, 1, 2, 3, 4] rfl)
      · have h := h2 hc
        refine lv_iload_n hx hb dc_M_weakest_45 rfl (lv_at hl 1 rfl) ?_
        refine lv_iload hx hb dc_M_weakest_46 (lv_at hl 5 rfl) ?_
        refine lv_ishr hx hb dc_M_weakest_48 ?_
        refine lv_iconst (v := 1) hx hb dc_M_weakest_49 rfl ?_
        refine lv_iand hx hb dc_M_weakest_50 ?_
        obtain ⟨h1, h2⟩ := h
        refine lv_if_eq hx hb dc_M_weakest_51 rfl (fun hc => ?_) (fun hc => ?_)
        · have h := h1 hc
          exact L70 _ _ K4 hK4 K31 hK31 _ _ _ _ _ h hB (lv_sub hl [0, 1, 2, 3, 5] rfl)
        · have h := h2 hc
          refine lv_aload_n hx hb dc_M_weakest_54 rfl (lv_at hl 0 rfl) ?_
          refine lv_iload hx hb dc_M_weakest_55 (lv_at hl 5 rfl) ?_
          refine lv_iload_n hx hb dc_M_weakest_57 rfl (lv_at hl 1 rfl) ?_
          refine ow_calli (va_runV (As := [.int x5, .int x1]) (rest := []) ⟨hx, hb, hml, hown, hts⟩ (ct_M_ahead l G hG D cA ad F _ k0 _ _ _ _ h) ⟨ow_cb 2 hts mw_961 mw_12 mw_958 rfl rfl hd_M_ahead ⟨Nat.le_of_ble_eq_true rfl, Nat.le_of_ble_eq_true rfl⟩, hts _ mw_960, hts _ ms_29⟩ (ow_preV hB k0 rfl) rfl rfl hl.1 rfl (lv_room (Nat.le_of_ble_eq_true rfl)) dc_M_weakest_58 ⟨Nat.zero_le _, Nat.zero_le _⟩) hB (fun r2 M1 H locs h hB => ?_)
          refine lv_aload_n hx hb dc_M_weakest_61 rfl (lv_at hl 0 rfl) ?_
          refine lv_iload_n hx hb dc_M_weakest_62 rfl (lv_at hl 3 rfl) ?_
          refine lv_iload_n hx hb dc_M_weakest_63 rfl (lv_at hl 1 rfl) ?_
          refine ow_calli (va_runV (As := [.int x3, .int x1]) (rest := [.int r2]) ⟨hx, hb, hml, hown, hts⟩ (ct_M_ahead l G hG D cA ad F _ k0 _ _ _ _ h) ⟨ow_cb 2 hts mw_961 mw_12 mw_958 rfl rfl hd_M_ahead ⟨Nat.le_of_ble_eq_true rfl, Nat.le_of_ble_eq_true rfl⟩, hts _ mw_960, hts _ ms_29⟩ (ow_preV hB k0 rfl) rfl rfl hl.1 rfl (lv_room (Nat.le_of_ble_eq_true rfl)) dc_M_weakest_64 ⟨Nat.zero_le _, Nat.zero_le _⟩) hB (fun r4 M3 H locs h hB => ?_)
          obtain ⟨h1, h2⟩ := h
          refine lv_icmp_lt hx hb dc_M_weakest_67 rfl (fun hc => ?_) (fun hc => ?_)
          · have h := h1 hc
            refine lv_iconst (v := 0) hx hb dc_M_weakest_74 rfl ?_
            exact L75 _ _ K4 hK4 K31 hK31 _ _ _ _ _ _ h hB (lv_sub hl [0, 1, 2, 3, 5] rfl)
          · have h := h2 hc
            exact L70 _ _ K4 hK4 K31 hK31 _ _ _ _ _ h hB (lv_sub hl [0, 1, 2, 3, 5] rfl)
  have L31 : ∀ (x2 : Int32) (x3 : Int32) (K4 : om_M × Int32 × Int32 → Prop) (hK4 : ∀ (M : om_M) (x2 : Int32) (x3 : Int32) (H : Heap) (locs : List Loc) (ls : Array Slot), K4 (M, x2, x3) → ow_B G D cA ad (ow_A G ad) M s s.heap H locs → lv_has ls 6 [(0, .ref (ad o0)), (1, .int x1), (2, .int x2), (3, .int x3)] → W p l e rm_M_weakest s m ([.ref (ad o0), .int x1] : List Value).toArray below meth c H locs 0 0 (MQ below (ow_Qi G D cA ad Q) ([.ref (ad o0), .int x1] : List Value).toArray s 0 0 (ow_A G ad)) (F0 m 4 ls [])) (M : om_M) (x4 : Int32) (x5 : Int32) (H : Heap) (locs : List Loc) (ls : Array Slot), wp_M_weakest_31 F o0 x1 Q x2 x3 K4 M x4 x5 → ow_B G D cA ad (ow_A G ad) M s s.heap H locs → lv_has ls 6 [(0, .ref (ad o0)), (1, .int x1), (2, .int x2), (3, .int x3), (4, .int x4), (5, .int x5)] → W p l e rm_M_weakest s m ([.ref (ad o0), .int x1] : List Value).toArray below meth c H locs 0 0 (MQ below (ow_Qi G D cA ad Q) ([.ref (ad o0), .int x1] : List Value).toArray s 0 0 (ow_A G ad)) (F0 m 31 ls []) := by
    intro x2 x3 K4 hK4
    have step : ∀ (k : Nat) (M : om_M) (x4 : Int32) (x5 : Int32) (H : Heap) (locs : List Loc) (ls : Array Slot), ow_lp (fun (z : om_M × Int32 × Int32) K => wp_M_weakest_31b F o0 x1 Q x2 x3 K4 K z.1 z.2.1 z.2.2) k (M, x4, x5) → ow_B G D cA ad (ow_A G ad) M s s.heap H locs → lv_has ls 6 [(0, .ref (ad o0)), (1, .int x1), (2, .int x2), (3, .int x3), (4, .int x4), (5, .int x5)] → W p l e rm_M_weakest s m ([.ref (ad o0), .int x1] : List Value).toArray below meth c H locs 0 0 (MQ below (ow_Qi G D cA ad Q) ([.ref (ad o0), .int x1] : List Value).toArray s 0 0 (ow_A G ad)) (F0 m 31 ls []) := by
      intro k
      induction k with
      | zero => intro M x4 x5 H locs ls h hB hl; exact False.elim h
      | succ k ih => intro M x4 x5 H locs ls h hB hl; exact B31 x2 x3 K4 hK4 (ow_lp _ k) (fun M x4 x5 H locs ls h hB  hl => ih M x4 x5  H locs ls h hB hl) M x4 x5 H locs ls h hB hl
    intro M x4 x5 H locs ls h hB hl
    exact step F M x4 x5 H locs ls h hB hl
  have L26 : ∀  (K4 : om_M × Int32 × Int32 → Prop) (hK4 : ∀ (M : om_M) (x2 : Int32) (x3 : Int32) (H : Heap) (locs : List Loc) (ls : Array Slot), K4 (M, x2, x3) → ow_B G D cA ad (ow_A G ad) M s s.heap H locs → lv_has ls 6 [(0, .ref (ad o0)), (1, .int x1), (2, .int x2), (3, .int x3)] → W p l e rm_M_weakest s m ([.ref (ad o0), .int x1] : List Value).toArray below meth c H locs 0 0 (MQ below (ow_Qi G D cA ad Q) ([.ref (ad o0), .int x1] : List Value).toArray s 0 0 (ow_A G ad)) (F0 m 4 ls [])) (M : om_M) (x2 : Int32) (x3 : Int32) (t0 : Int32) (H : Heap) (locs : List Loc) (ls : Array Slot), wp_M_weakest_26 F o0 x1 Q  K4 M x2 x3 t0 → ow_B G D cA ad (ow_A G ad) M s s.heap H locs → lv_has ls 6 [(0, .ref (ad o0)), (1, .int x1), (2, .int x2), (3, .int x3)] → W p l e rm_M_weakest s m ([.ref (ad o0), .int x1] : List Value).toArray below meth c H locs 0 0 (MQ below (ow_Qi G D cA ad Q) ([.ref (ad o0), .int x1] : List Value).toArray s 0 0 (ow_A G ad)) (F0 m 26 ls [.int t0]) := by
    intro  K4 hK4 M x2 x3 t0 H locs ls h hB hl
    refine lv_istore hx hb dc_M_weakest_26 hl (by decide) rfl (fun ls hl => ?_)
    refine lv_iconst (v := 0) hx hb dc_M_weakest_28 rfl ?_
    refine lv_istore hx hb dc_M_weakest_29 hl (by decide) rfl (fun ls hl => ?_)
    exact L31 _ _ K4 hK4 _ _ _ _ _ _ h hB (lv_sub hl [2, 3, 4, 5, 1, 0] rfl)
  have B4 : ∀   (K4 : om_M × Int32 × Int32 → Prop) (hK4 : ∀ (M : om_M) (x2 : Int32) (x3 : Int32) (H : Heap) (locs : List Loc) (ls : Array Slot), K4 (M, x2, x3) → ow_B G D cA ad (ow_A G ad) M s s.heap H locs → lv_has ls 6 [(0, .ref (ad o0)), (1, .int x1), (2, .int x2), (3, .int x3)] → W p l e rm_M_weakest s m ([.ref (ad o0), .int x1] : List Value).toArray below meth c H locs 0 0 (MQ below (ow_Qi G D cA ad Q) ([.ref (ad o0), .int x1] : List Value).toArray s 0 0 (ow_A G ad)) (F0 m 4 ls [])) (M : om_M) (x2 : Int32) (x3 : Int32) (H : Heap) (locs : List Loc) (ls : Array Slot), wp_M_weakest_4b F o0 x1 Q   K4 M x2 x3 → ow_B G D cA ad (ow_A G ad) M s s.heap H locs → lv_has ls 6 [(0, .ref (ad o0)), (1, .int x1), (2, .int x2), (3, .int x3)] → W p l e rm_M_weakest s m ([.ref (ad o0), .int x1] : List Value).toArray below meth c H locs 0 0 (MQ below (ow_Qi G D cA ad Q) ([.ref (ad o0), .int x1] : List Value).toArray s 0 0 (ow_A G ad)) (F0 m 4 ls []) := by
    intro   K4 hK4 M x2 x3 H locs ls h hB hl
    refine lv_iload_n hx hb dc_M_weakest_4 rfl (lv_at hl 3 rfl) ?_
    refine lv_aload_n hx hb dc_M_weakest_5 rfl (lv_at hl 0 rfl) ?_
    refine ow_get hx hb hts iw_M hown hB k0 rfl 8 (by decide) mw_805 rfl dc_M_weakest_6 ?_
    obtain ⟨h1, h2⟩ := h
    refine lv_icmp_ge hx hb dc_M_weakest_9 rfl (fun hc => ?_) (fun hc => ?_)
    · have h := h1 hc
      refine lv_iload_n hx hb dc_M_weakest_104 rfl (lv_at hl 2 rfl) ?_
      exact ow_iret hx hb hr hlocks hB h dc_M_weakest_105
    · have h := h2 hc
      refine lv_iload_n hx hb dc_M_weakest_12 rfl (lv_at hl 1 rfl) ?_
      refine lv_iload_n hx hb dc_M_weakest_13 rfl (lv_at hl 3 rfl) ?_
      refine lv_ishr hx hb dc_M_weakest_14 ?_
      refine lv_iconst (v := 1) hx hb dc_M_weakest_15 rfl ?_
      refine lv_iand hx hb dc_M_weakest_16 ?_
      refine lv_iconst (v := 1) hx hb dc_M_weakest_17 rfl ?_
      obtain ⟨h1, h2⟩ := h
      refine lv_icmp_ne hx hb dc_M_weakest_18 rfl (fun hc => ?_) (fun hc => ?_)
      · have h := h2 hc
        refine lv_iconst (v := 0) hx hb dc_M_weakest_25 rfl ?_
        exact L26 K4 hK4 _ _ _ _ _ _ _ h hB (lv_sub hl [0, 1, 2, 3] rfl)
      · have h := h1 hc
        refine lv_iconst (v := 1) hx hb dc_M_weakest_21 rfl ?_
        refine lv_goto hx hb dc_M_weakest_22 rfl ?_
        exact L26 K4 hK4 _ _ _ _ _ _ _ h hB (lv_sub hl [0, 1, 2, 3] rfl)
  have L4 : ∀   (M : om_M) (x2 : Int32) (x3 : Int32) (H : Heap) (locs : List Loc) (ls : Array Slot), wp_M_weakest_4 F o0 x1 Q   M x2 x3 → ow_B G D cA ad (ow_A G ad) M s s.heap H locs → lv_has ls 6 [(0, .ref (ad o0)), (1, .int x1), (2, .int x2), (3, .int x3)] → W p l e rm_M_weakest s m ([.ref (ad o0), .int x1] : List Value).toArray below meth c H locs 0 0 (MQ below (ow_Qi G D cA ad Q) ([.ref (ad o0), .int x1] : List Value).toArray s 0 0 (ow_A G ad)) (F0 m 4 ls []) := by
    have step : ∀ (k : Nat) (M : om_M) (x2 : Int32) (x3 : Int32) (H : Heap) (locs : List Loc) (ls : Array Slot), ow_lp (fun (z : om_M × Int32 × Int32) K => wp_M_weakest_4b F o0 x1 Q   K z.1 z.2.1 z.2.2) k (M, x2, x3) → ow_B G D cA ad (ow_A G ad) M s s.heap H locs → lv_has ls 6 [(0, .ref (ad o0)), (1, .int x1), (2, .int x2), (3, .int x3)] → W p l e rm_M_weakest s m ([.ref (ad o0), .int x1] : List Value).toArray below meth c H locs 0 0 (MQ below (ow_Qi G D cA ad Q) ([.ref (ad o0), .int x1] : List Value).toArray s 0 0 (ow_A G ad)) (F0 m 4 ls []) := by
      intro k
      induction k with
      | zero => intro M x2 x3 H locs ls h hB hl; exact False.elim h
      | succ k ih => intro M x2 x3 H locs ls h hB hl; exact B4   (ow_lp _ k) (fun M x2 x3 H locs ls h hB  hl => ih M x2 x3  H locs ls h hB hl) M x2 x3 H locs ls h hB hl
    intro M x2 x3 H locs ls h hB hl
    exact step F M x2 x3 H locs ls h hB hl
  have hl := lv_entry ([.ref (ad o0), .int x1]) (n := 6) (Nat.le_of_ble_eq_true rfl)
  rw [lg_entry_eq]
  generalize (lg_sl ([.ref (ad o0), .int x1]) ++ List.replicate (6 - (lg_sl ([.ref (ad o0), .int x1])).length) Slot.unset).toArray = ls at hl ⊢
  have hl : lv_has ls 6 [(0, .ref (ad o0)), (1, .int x1)] := hl
  show W p l e rm_M_weakest s m _ below meth c s.heap [] 0 0 _ _
  refine lv_iconst (v := 0) hx hb dc_M_weakest_0 rfl ?_
  refine lv_istore_n hx hb dc_M_weakest_1 rfl hl (by decide) rfl (fun ls hl => ?_)
  refine lv_iconst (v := 0) hx hb dc_M_weakest_2 rfl ?_
  refine lv_istore_n hx hb dc_M_weakest_3 rfl hl (by decide) rfl (fun ls hl => ?_)
  exact L4 _ _ _ _ _ _ h hB (lv_sub hl [2, 3, 1, 0] rfl)
abbrev rm_M_single : Room := { frames := 0, cells := 0, slots := 0, locals := 0 }
theorem hd_M_single : yn_M_single.cls ≠ "java/lang/invoke/MethodHandle" ∧ yn_M_single.cls ≠ "java/lang/invoke/VarHandle" ∧ (parseMethodDescriptor yn_M_single.desc).map (fun d => d.parameters.length) = some 1 := by decide +kernel
set_option maxHeartbeats 4000000 in
set_option maxRecDepth 100000 in
theorem ct_M_single (l : Launch) (G : List (Nat × Nat)) (hG : ow_lay G) (D : va_G) (cA : Nat → ClassId) (ad : Nat → Nat) (F : Nat) (x0 : Int32) (M : om_M) (Q : Int32 → om_M → Prop) (h : wp_M_single F x0 M Q) : Met l yn_M_single (ow_ws yn_M_single cb_M_single 1 (some .boolean)) rm_M_single (ow_Pc G D cA ad M [.int x0]) (ow_Qi G D cA ad Q) 0 0 (ow_A G ad) := by
  refine Met.ofW (cc := cb_M_single) (maxL := 1) (ret := (some .boolean)) (by decide) rfl ?_
  intro p e s m args below meth c s₁ B hml hv
  obtain ⟨rfl, hB⟩ := hv
  have hx := B.exec
  have hb := B.bytes
  have hr := B.returns
  have hlocks := B.notSynchronized
  have hts : ∀ w ∈ lw_g, w.before ([.int x0] : List Value).toArray s = true := fun w h => atoms_spec (ws := ow_ws yn_M_single cb_M_single 1 (some .boolean)) B.pre w (List.mem_cons_of_mem _ h)
  have hown : s.vm.findClass "BallotDeskModel" = some m.cls := findClass_of_methodNamed B.named
  clear B
  have hl := lv_entry ([.int x0]) (n := 1) (Nat.le_of_ble_eq_true rfl)
  rw [lg_entry_eq]
  generalize (lg_sl ([.int x0]) ++ List.replicate (1 - (lg_sl ([.int x0])).length) Slot.unset).toArray = ls at hl ⊢
  have hl : lv_has ls 1 [(0, .int x0)] := hl
  show W p l e rm_M_single s m _ below meth c s.heap [] 0 0 _ _
  refine lv_iload_n hx hb dc_M_single_0 rfl (lv_at hl 0 rfl) ?_
  refine lv_iload_n hx hb dc_M_single_1 rfl (lv_at hl 0 rfl) ?_
  refine lv_iconst (v := 1) hx hb dc_M_single_2 rfl ?_
  refine lv_isub hx hb dc_M_single_3 ?_
  refine lv_iand hx hb dc_M_single_4 ?_
  obtain ⟨h1, h2⟩ := h
  refine lv_if_ne hx hb dc_M_single_5 rfl (fun hc => ?_) (fun hc => ?_)
  · have h := h2 hc
    refine lv_iconst (v := 0) hx hb dc_M_single_12 rfl ?_
    exact ow_zret hx hb hr hlocks (by decide) hB h dc_M_single_13
  · have h := h1 hc
    refine lv_iconst (v := 1) hx hb dc_M_single_8 rfl ?_
    refine lv_goto hx hb dc_M_single_9 rfl ?_
    exact ow_zret hx hb hr hlocks (by decide) hB h dc_M_single_13
abbrev rm_M_eliminate : Room := { frames := 2, cells := 0, slots := 0, locals := 50 }
theorem hd_M_eliminate : yn_M_eliminate.cls ≠ "java/lang/invoke/MethodHandle" ∧ yn_M_eliminate.cls ≠ "java/lang/invoke/VarHandle" ∧ (parseMethodDescriptor yn_M_eliminate.desc).map (fun d => d.parameters.length) = some 0 := by decide +kernel
set_option maxHeartbeats 4000000 in
set_option maxRecDepth 100000 in
theorem ct_M_eliminate (l : Launch) (G : List (Nat × Nat)) (hG : ow_lay G) (D : va_G) (cA : Nat → ClassId) (ad : Nat → Nat) (F : Nat) (o0 : Nat) (k0 : ow_kd G o0 = (3, 9)) (M : om_M) (Q : Int32 → om_M → Prop) (h : wp_M_eliminate F o0 M Q) : Met l yn_M_eliminate (ow_ws yn_M_eliminate cb_M_eliminate 5 (some .int)) rm_M_eliminate (ow_Pc G D cA ad M [.ref (ad o0)]) (ow_Qi G D cA ad Q) 0 0 (ow_A G ad) := by
  refine Met.ofW (cc := cb_M_eliminate) (maxL := 5) (ret := (some .int)) (by decide) rfl ?_
  intro p e s m args below meth c s₁ B hml hv
  obtain ⟨rfl, hB⟩ := hv
  have hx := B.exec
  have hb := B.bytes
  have hr := B.returns
  have hlocks := B.notSynchronized
  have hts : ∀ w ∈ lw_g, w.before ([.ref (ad o0)] : List Value).toArray s = true := fun w h => atoms_spec (ws := ow_ws yn_M_eliminate cb_M_eliminate 5 (some .int)) B.pre w (List.mem_cons_of_mem _ h)
  have hown : s.vm.findClass "BallotDeskModel" = some m.cls := findClass_of_methodNamed B.named
  clear B
  have L125 : ∀  (K41 : om_M × Int32 × Int32 → Prop) (hK41 : ∀ (M : om_M) (x1 : Int32) (x2 : Int32) (H : Heap) (locs : List Loc) (ls : Array Slot), K41 (M, x1, x2) → ow_B G D cA ad (ow_A G ad) M s s.heap H locs → lv_has ls 5 [(0, .ref (ad o0)), (1, .int x1), (2, .int x2)] → W p l e rm_M_eliminate s m ([.ref (ad o0)] : List Value).toArray below meth c H locs 0 0 (MQ below (ow_Qi G D cA ad Q) ([.ref (ad o0)] : List Value).toArray s 0 0 (ow_A G ad)) (F0 m 41 ls [])) (M : om_M) (x1 : Int32) (x2 : Int32)  (H : Heap) (locs : List Loc) (ls : Array Slot), wp_M_eliminate_125 F o0 Q  K41 M x1 x2  → ow_B G D cA ad (ow_A G ad) M s s.heap H locs → lv_has ls 5 [(0, .ref (ad o0)), (1, .int x1), (2, .int x2)] → W p l e rm_M_eliminate s m ([.ref (ad o0)] : List Value).toArray below meth c H locs 0 0 (MQ below (ow_Qi G D cA ad Q) ([.ref (ad o0)] : List Value).toArray s 0 0 (ow_A G ad)) (F0 m 125 ls []) := by
    intro  K41 hK41 M x1 x2 H locs ls h hB hl
    refine lv_iinc hx hb dc_M_eliminate_125 hl (k := 2) rfl rfl (by decide) rfl (fun ls hl => ?_)
    refine lv_goto hx hb dc_M_eliminate_128 rfl ?_
    exact hK41 _ _ _ _ _ _ h hB (lv_sub hl [1, 2, 0] rfl)
  have L119 : ∀ (x1 : Int32) (x2 : Int32) (x3 : Int32) (K41 : om_M × Int32 × Int32 → Prop) (hK41 : ∀ (M : om_M) (x1 : Int32) (x2 : Int32) (H : Heap) (locs : List Loc) (ls : Array Slot), K41 (M, x1, x2) → ow_B G D cA ad (ow_A G ad) M s s.heap H locs → lv_has ls 5 [(0, .ref (ad o0)), (1, .int x1), (2, .int x2)] → W p l e rm_M_eliminate s m ([.ref (ad o0)] : List Value).toArray below meth c H locs 0 0 (MQ below (ow_Qi G D cA ad Q) ([.ref (ad o0)] : List Value).toArray s 0 0 (ow_A G ad)) (F0 m 41 ls [])) (K86 : om_M × Int32 → Prop) (hK86 : ∀ (M : om_M) (x4 : Int32) (H : Heap) (locs : List Loc) (ls : Array Slot), K86 (M, x4) → ow_B G D cA ad (ow_A G ad) M s s.heap H locs → lv_has ls 5 [(0, .ref (ad o0)), (1, .int x1), (2, .int x2), (3, .int x3), (4, .int x4)] → W p l e rm_M_eliminate s m ([.ref (ad o0)] : List Value).toArray below meth c H locs 0 0 (MQ below (ow_Qi G D cA ad Q) ([.ref (ad o0)] : List Value).toArray s 0 0 (ow_A G ad)) (F0 m 86 ls [])) (M : om_M) (x4 : Int32)  (H : Heap) (locs : List Loc) (ls : Array Slot), wp_M_eliminate_119 F o0 Q x1 x2 x3 K41 K86 M x4  → ow_B G D cA ad (ow_A G ad) M s s.heap H locs → lv_has ls 5 [(0, .ref (ad o0)), (1, .int x1), (2, .int x2), (3, .int x3), (4, .int x4)] → W p l e rm_M_eliminate s m ([.ref (ad o0)] : List Value).toArray below meth c H locs 0 0 (MQ below (ow_Qi G D cA ad Q) ([.ref (ad o0)] : List Value).toArray s 0 0 (ow_A G ad)) (F0 m 119 ls []) := by
    intro x1 x2 x3 K41 hK41 K86 hK86 M x4 H locs ls h hB hl
    refine lv_iinc hx hb dc_M_eliminate_119 hl (k := 4) rfl rfl (by decide) rfl (fun ls hl => ?_)
    refine lv_goto hx hb dc_M_eliminate_122 rfl ?_
    exact hK86 _ _ _ _ _ h hB (lv_sub hl [1, 2, 3, 4, 0] rfl)
  have B86 : ∀ (x1 : Int32) (x2 : Int32) (x3 : Int32) (K41 : om_M × Int32 × Int32 → Prop) (hK41 : ∀ (M : om_M) (x1 : Int32) (x2 : Int32) (H : Heap) (locs : List Loc) (ls : Array Slot), K41 (M, x1, x2) → ow_B G D cA ad (ow_A G ad) M s s.heap H locs → lv_has ls 5 [(0, .ref (ad o0)), (1, .int x1), (2, .int x2)] → W p l e rm_M_eliminate s m ([.ref (ad o0)] : List Value).toArray below meth c H locs 0 0 (MQ below (ow_Qi G D cA ad Q) ([.ref (ad o0)] : List Value).toArray s 0 0 (ow_A G ad)) (F0 m 41 ls [])) (K86 : om_M × Int32 → Prop) (hK86 : ∀ (M : om_M) (x4 : Int32) (H : Heap) (locs : List Loc) (ls : Array Slot), K86 (M, x4) → ow_B G D cA ad (ow_A G ad) M s s.heap H locs → lv_has ls 5 [(0, .ref (ad o0)), (1, .int x1), (2, .int x2), (3, .int x3), (4, .int x4)] → W p l e rm_M_eliminate s m ([.ref (ad o0)] : List Value).toArray below meth c H locs 0 0 (MQ below (ow_Qi G D cA ad Q) ([.ref (ad o0)] : List Value).toArray s 0 0 (ow_A G ad)) (F0 m 86 ls [])) (M : om_M) (x4 : Int32) (H : Heap) (locs : List Loc) (ls : Array Slot), wp_M_eliminate_86b F o0 Q x1 x2 x3 K41 K86 M x4 → ow_B G D cA ad (ow_A G ad) M s s.heap H locs → lv_has ls 5 [(0, .ref (ad o0)), (1, .int x1), (2, .int x2), (3, .int x3), (4, .int x4)] → W p l e rm_M_eliminate s m ([.ref (ad o0)] : List Value).toArray below meth c H locs 0 0 (MQ below (ow_Qi G D cA ad Q) ([.ref (ad o0)] : List Value).toArray s 0 0 (ow_A G ad)) (F0 m 86 ls []) := by
    intro x1 x2 x3 K41 hK41 K86 hK86 M x4 H locs ls h hB hl
    refine lv_iload hx hb dc_M_eliminate_86 (lv_at hl 4 rfl) ?_
    refine lv_aload_n hx hb dc_M_eliminate_88 rfl (lv_at hl 0 rfl) ?_
    refine ow_get hx hb hts iw_M hown hB k0 rfl 8 (by decide) mw_805 rfl dc_M_eliminate_89 ?_
    obtain ⟨h1, h2⟩ := h
    refine lv_icmp_ge hx hb dc_M_eliminate_92 rfl (fun hc => ?_) (fun hc => ?_)
    · have h := h1 hc
      exact L125 K41 hK41 _ _ _ _ _ _ h hB (lv_sub hl [0, 1, 2] rfl)
    · have h := h2 hc
      refine lv_iload_n hx hb dc_M_eliminate_95 rfl (lv_at hl 3 rfl) ?_
      refine lv_iload hx hb dc_M_eliminate_96 (lv_at hl 4 rfl) ?_
      refine lv_ishr hx hb dc_M_eliminate_98 ?_
      refine lv_iconst (v := 1) hx hb dc_M_eliminate_99 rfl ?_
      refine lv_iand hx hb dc_M_eliminate_100 ?_
      refine lv_iconst (v := 1) hx hb dc_M_eliminate_101 rfl ?_
      obtain ⟨h1, h2⟩ := h
      refine lv_icmp_ne hx hb dc_M_eliminate_102 rfl (fun hc => ?_) (fun hc => ?_)
      · have h := h2 hc
        exact L119 _ _ _ K41 hK41 K86 hK86 _ _ _ _ _ h hB (lv_sub hl [0, 1, 2, 3, 4] rfl)
      · have h := h1 hc
        refine lv_aload_n hx hb dc_M_eliminate_105 rfl (lv_at hl 0 rfl) ?_
        refine ow_get hx hb hts iw_M hown hB k0 rfl 18 (by decide) mw_815 rfl dc_M_eliminate_106 ?_
        refine lv_iload_n hx hb dc_M_eliminate_109 rfl (lv_at hl 2 rfl) ?_
        refine lv_iconst (v := 1) hx hb dc_M_eliminate_110 rfl ?_
        refine lv_iload hx hb dc_M_eliminate_111 (lv_at hl 4 rfl) ?_
        refine lv_ishl hx hb dc_M_eliminate_113 ?_
        refine lv_iconst (v := (-1)) hx hb dc_M_eliminate_114 rfl ?_
        refine lv_ixor hx hb dc_M_eliminate_115 ?_
        refine lv_iand hx hb dc_M_eliminate_116 ?_
        refine lv_iconst (v := 1) hx hb dc_M_eliminate_117 rfl ?_
        obtain ⟨hi1, h⟩ := h
        refine ow_zast hx hb hB (ly_M_left hG k0) (by decide) hi1 dc_M_eliminate_118 (fun H locs hB => ?_)
        exact L119 _ _ _ K41 hK41 K86 hK86 _ _ _ _ _ h hB (lv_sub hl [0, 1, 2, 3, 4] rfl)
  have L86 : ∀ (x1 : Int32) (x2 : Int32) (x3 : Int32) (K41 : om_M × Int32 × Int32 → Prop) (hK41 : ∀ (M : om_M) (x1 : Int32) (x2 : Int32) (H : Heap) (locs : List Loc) (ls : Array Slot), K41 (M, x1, x2) → ow_B G D cA ad (ow_A G ad) M s s.heap H locs → lv_has ls 5 [(0, .ref (ad o0)), (1, .int x1), (2, .int x2)] → W p l e rm_M_eliminate s m ([.ref (ad o0)] : List Value).toArray below meth c H locs 0 0 (MQ below (ow_Qi G D cA ad Q) ([.ref (ad o0)] : List Value).toArray s 0 0 (ow_A G ad)) (F0 m 41 ls [])) (M : om_M) (x4 : Int32) (H : Heap) (locs : List Loc) (ls : Array Slot), wp_M_eliminate_86 F o0 Q x1 x2 x3 K41 M x4 → ow_B G D cA ad (ow_A G ad) M s s.heap H locs → lv_has ls 5 [(0, .ref (ad o0)), (1, .int x1), (2, .int x2), (3, .int x3), (4, .int x4)] → W p l e rm_M_eliminate s m ([.ref (ad o0)] : List Value).toArray below meth c H locs 0 0 (MQ below (ow_Qi G D cA ad Q) ([.ref (ad o0)] : List Value).toArray s 0 0 (ow_A G ad)) (F0 m 86 ls []) := by
    intro x1 x2 x3 K41 hK41
    have step : ∀ (k : Nat) (M : om_M) (x4 : Int32) (H : Heap) (locs : List Loc) (ls : Array Slot), ow_lp (fun (z : om_M × Int32) K => wp_M_eliminate_86b F o0 Q x1 x2 x3 K41 K z.1 z.2) k (M, x4) → ow_B G D cA ad (ow_A G ad) M s s.heap H locs → lv_has ls 5 [(0, .ref (ad o0)), (1, .int x1), (2, .int x2), (3, .int x3), (4, .int x4)] → W p l e rm_M_eliminate s m ([.ref (ad o0)] : List Value).toArray below meth c H locs 0 0 (MQ below (ow_Qi G D cA ad Q) ([.ref (ad o0)] : List Value).toArray s 0 0 (ow_A G ad)) (F0 m 86 ls []) := by
      intro k
      induction k with
      | zero => intro M x4 H locs ls h hB hl; exact False.elim h
      | succ k ih => intro M x4 H locs ls h hB hl; exact B86 x1 x2 x3 K41 hK41 (ow_lp _ k) (fun M x4 H locs ls h hB  hl => ih M x4  H locs ls h hB hl) M x4 H locs ls h hB hl
    intro M x4 H locs ls h hB hl
    exact step F M x4 H locs ls h hB hl
  have L68 : ∀  (K41 : om_M × Int32 × Int32 → Prop) (hK41 : ∀ (M : om_M) (x1 : Int32) (x2 : Int32) (H : Heap) (locs : List Loc) (ls : Array Slot), K41 (M, x1, x2) → ow_B G D cA ad (ow_A G ad) M s s.heap H locs → lv_has ls 5 [(0, .ref (ad o0)), (1, .int x1), (2, .int x2)] → W p l e rm_M_eliminate s m ([.ref (ad o0)] : List Value).toArray below meth c H locs 0 0 (MQ below (ow_Qi G D cA ad Q) ([.ref (ad o0)] : List Value).toArray s 0 0 (ow_A G ad)) (F0 m 41 ls [])) (M : om_M) (x1 : Int32) (x2 : Int32)  (H : Heap) (locs : List Loc) (ls : Array Slot), wp_M_eliminate_68 F o0 Q  K41 M x1 x2  → ow_B G D cA ad (ow_A G ad) M s s.heap H locs → lv_has ls 5 [(0, .ref (ad o0)), (1, .int x1), (2, .int x2)] → W p l e rm_M_eliminate s m ([.ref (ad o0)] : List Value).toArray below meth c H locs 0 0 (MQ below (ow_Qi G D cA ad Q) ([.ref (ad o0)] : List Value).toArray s 0 0 (ow_A G ad)) (F0 m 68 ls []) := by
    intro  K41 hK41 M x1 x2 H locs ls h hB hl
    refine lv_aload_n hx hb dc_M_eliminate_68 rfl (lv_at hl 0 rfl) ?_
    refine ow_get hx hb hts iw_M hown hB k0 rfl 18 (by decide) mw_815 rfl dc_M_eliminate_69 ?_
    refine lv_iload_n hx hb dc_M_eliminate_72 rfl (lv_at hl 2 rfl) ?_
    obtain ⟨hi2, h⟩ := h
    refine ow_zald hx hb hB (ly_M_left hG k0) hi2 dc_M_eliminate_73 ?_
    obtain ⟨h1, h2⟩ := h
    refine lv_if_eq hx hb dc_M_eliminate_74 rfl (fun hc => ?_) (fun hc => ?_)
    · have h := h1 hc
      exact L125 K41 hK41 _ _ _ _ _ _ h hB (lv_sub hl [0, 1, 2] rfl)
    · have h := h2 hc
      refine lv_aload_n hx hb dc_M_eliminate_77 rfl (lv_at hl 0 rfl) ?_
      refine lv_iload_n hx hb dc_M_eliminate_78 rfl (lv_at hl 2 rfl) ?_
      refine ow_calli (va_runV (As := [.int x2]) (rest := []) ⟨hx, hb, hml, hown, hts⟩ (ct_M_weakest l G hG D cA ad F _ k0 _ _ _ h) ⟨ow_cb 1 hts mw_985 mw_12 mw_982 rfl rfl hd_M_weakest ⟨Nat.le_of_ble_eq_true rfl, Nat.le_of_ble_eq_true rfl⟩, hts _ mw_984, hts _ ms_34⟩ (ow_preV hB k0 rfl) rfl rfl hl.1 rfl (lv_room (Nat.le_of_ble_eq_true rfl)) dc_M_eliminate_79 ⟨Nat.zero_le _, Nat.zero_le _⟩) hB (fun r4 M3 H locs h hB => ?_)
      refine lv_istore_n hx hb dc_M_eliminate_82 rfl hl (by decide) rfl (fun ls hl => ?_)
      refine lv_iconst (v := 0) hx hb dc_M_eliminate_83 rfl ?_
      refine lv_istore hx hb dc_M_eliminate_84 hl (by decide) rfl (fun ls hl => ?_)
      exact L86 _ _ _ K41 hK41 _ _ _ _ _ h hB (lv_sub hl [2, 3, 4, 1, 0] rfl)
  have B41 : ∀   (K41 : om_M × Int32 × Int32 → Prop) (hK41 : ∀ (M : om_M) (x1 : Int32) (x2 : Int32) (H : Heap) (locs : List Loc) (ls : Array Slot), K41 (M, x1, x2) → ow_B G D cA ad (ow_A G ad) M s s.heap H locs → lv_has ls 5 [(0, .ref (ad o0)), (1, .int x1), (2, .int x2)] → W p l e rm_M_eliminate s m ([.ref (ad o0)] : List Value).toArray below meth c H locs 0 0 (MQ below (ow_Qi G D cA ad Q) ([.ref (ad o0)] : List Value).toArray s 0 0 (ow_A G ad)) (F0 m 41 ls [])) (M : om_M) (x1 : Int32) (x2 : Int32) (H : Heap) (locs : List Loc) (ls : Array Slot), wp_M_eliminate_41b F o0 Q   K41 M x1 x2 → ow_B G D cA ad (ow_A G ad) M s s.heap H locs → lv_has ls 5 [(0, .ref (ad o0)), (1, .int x1), (2, .int x2)] → W p l e rm_M_eliminate s m ([.ref (ad o0)] : List Value).toArray below meth c H locs 0 0 (MQ below (ow_Qi G D cA ad Q) ([.ref (ad o0)] : List Value).toArray s 0 0 (ow_A G ad)) (F0 m 41 ls []) := by
    intro   K41 hK41 M x1 x2 H locs ls h hB hl
    refine lv_iload_n hx hb dc_M_eliminate_41 rfl (lv_at hl 2 rfl) ?_
    obtain ⟨h1, h2⟩ := h
    refine lv_if_le hx hb dc_M_eliminate_42 rfl (fun hc => ?_) (fun hc => ?_)
    · have h := h1 hc
      refine lv_iload_n hx hb dc_M_eliminate_131 rfl (lv_at hl 1 rfl) ?_
      exact ow_iret hx hb hr hlocks hB h dc_M_eliminate_132
    · have h := h2 hc
      refine lv_aload_n hx hb dc_M_eliminate_45 rfl (lv_at hl 0 rfl) ?_
      refine ow_get hx hb hts iw_M hown hB k0 rfl 18 (by decide) mw_815 rfl dc_M_eliminate_46 ?_
      refine lv_iload_n hx hb dc_M_eliminate_49 rfl (lv_at hl 2 rfl) ?_
      obtain ⟨hi5, h⟩ := h
      refine ow_zald hx hb hB (ly_M_left hG k0) hi5 dc_M_eliminate_50 ?_
      obtain ⟨h1, h2⟩ := h
      refine lv_if_eq hx hb dc_M_eliminate_51 rfl (fun hc => ?_) (fun hc => ?_)
      · have h := h1 hc
        exact L68 K41 hK41 _ _ _ _ _ _ h hB (lv_sub hl [0, 1, 2] rfl)
      · have h := h2 hc
        refine lv_iload_n hx hb dc_M_eliminate_54 rfl (lv_at hl 2 rfl) ?_
        refine ow_calli (va_runS (As := [.int x2]) (rest := []) ⟨hx, hb, hml, hown, hts⟩ (ct_M_single l G hG D cA ad F _ _ _ h) ⟨ow_cb 1 hts mw_981 mw_12 mw_979 rfl rfl hd_M_single ⟨Nat.le_of_ble_eq_true rfl, Nat.le_of_ble_eq_true rfl⟩, hts _ mw_980⟩ (ow_preS hB) rfl rfl hl.1 rfl (lv_room (Nat.le_of_ble_eq_true rfl)) dc_M_eliminate_55 ⟨Nat.zero_le _, Nat.zero_le _⟩) hB (fun r7 M6 H locs h hB => ?_)
        obtain ⟨h1, h2⟩ := h
        refine lv_if_eq hx hb dc_M_eliminate_58 rfl (fun hc => ?_) (fun hc => ?_)
        · have h := h1 hc
          exact L68 K41 hK41 _ _ _ _ _ _ h hB (lv_sub hl [0, 1, 2] rfl)
        · have h := h2 hc
          refine lv_iload_n hx hb dc_M_eliminate_61 rfl (lv_at hl 1 rfl) ?_
          refine lv_iload_n hx hb dc_M_eliminate_62 rfl (lv_at hl 2 rfl) ?_
          refine lv_ior hx hb dc_M_eliminate_63 ?_
          refine lv_istore_n hx hb dc_M_eliminate_64 rfl hl (by decide) rfl (fun ls hl => ?_)
          refine lv_goto hx hb dc_M_eliminate_65 rfl ?_
          exact L125 K41 hK41 _ _ _ _ _ _ h hB (lv_sub hl [1, 0, 2] rfl)
  have L41 : ∀   (M : om_M) (x1 : Int32) (x2 : Int32) (H : Heap) (locs : List Loc) (ls : Array Slot), wp_M_eliminate_41 F o0 Q   M x1 x2 → ow_B G D cA ad (ow_A G ad) M s s.heap H locs → lv_has ls 5 [(0, .ref (ad o0)), (1, .int x1), (2, .int x2)] → W p l e rm_M_eliminate s m ([.ref (ad o0)] : List Value).toArray below meth c H locs 0 0 (MQ below (ow_Qi G D cA ad Q) ([.ref (ad o0)] : List Value).toArray s 0 0 (ow_A G ad)) (F0 m 41 ls []) := by
    have step : ∀ (k : Nat) (M : om_M) (x1 : Int32) (x2 : Int32) (H : Heap) (locs : List Loc) (ls : Array Slot), ow_lp (fun (z : om_M × Int32 × Int32) K => wp_M_eliminate_41b F o0 Q   K z.1 z.2.1 z.2.2) k (M, x1, x2) → ow_B G D cA ad (ow_A G ad) M s s.heap H locs → lv_has ls 5 [(0, .ref (ad o0)), (1, .int x1), (2, .int x2)] → W p l e rm_M_eliminate s m ([.ref (ad o0)] : List Value).toArray below meth c H locs 0 0 (MQ below (ow_Qi G D cA ad Q) ([.ref (ad o0)] : List Value).toArray s 0 0 (ow_A G ad)) (F0 m 41 ls []) := by
      intro k
      induction k with
      | zero => intro M x1 x2 H locs ls h hB hl; exact False.elim h
      | succ k ih => intro M x1 x2 H locs ls h hB hl; exact B41   (ow_lp _ k) (fun M x1 x2 H locs ls h hB  hl => ih M x1 x2  H locs ls h hB hl) M x1 x2 H locs ls h hB hl
    intro M x1 x2 H locs ls h hB hl
    exact step F M x1 x2 H locs ls h hB hl
  have L36 : ∀   (M : om_M) (x1 : Int32)  (H : Heap) (locs : List Loc) (ls : Array Slot), wp_M_eliminate_36 F o0 Q   M x1  → ow_B G D cA ad (ow_A G ad) M s s.heap H locs → lv_has ls 5 [(0, .ref (ad o0)), (1, .int x1)] → W p l e rm_M_eliminate s m ([.ref (ad o0)] : List Value).toArray below meth c H locs 0 0 (MQ below (ow_Qi G D cA ad Q) ([.ref (ad o0)] : List Value).toArray s 0 0 (ow_A G ad)) (F0 m 36 ls []) := by
    intro   M x1 H locs ls h hB hl
    refine lv_aload_n hx hb dc_M_eliminate_36 rfl (lv_at hl 0 rfl) ?_
    refine ow_calli (va_runV (As := []) (rest := []) ⟨hx, hb, hml, hown, hts⟩ (ct_M_all l G hG D cA ad F _ k0 _ _ h) ⟨ow_cb 0 hts mw_957 mw_12 mw_954 rfl rfl hd_M_all ⟨Nat.le_of_ble_eq_true rfl, Nat.le_of_ble_eq_true rfl⟩, hts _ mw_956, hts _ ms_28⟩ (ow_preV hB k0 rfl) rfl rfl hl.1 rfl (lv_room (Nat.le_of_ble_eq_true rfl)) dc_M_eliminate_37 ⟨Nat.zero_le _, Nat.zero_le _⟩) hB (fun r9 M8 H locs h hB => ?_)
    refine lv_istore_n hx hb dc_M_eliminate_40 rfl hl (by decide) rfl (fun ls hl => ?_)
    exact L41 _ _ _ _ _ _ h hB (lv_sub hl [1, 2, 0] rfl)
  have L29 : ∀ (x1 : Int32) (K7 : om_M × Int32 → Prop) (hK7 : ∀ (M : om_M) (x2 : Int32) (H : Heap) (locs : List Loc) (ls : Array Slot), K7 (M, x2) → ow_B G D cA ad (ow_A G ad) M s s.heap H locs → lv_has ls 5 [(0, .ref (ad o0)), (1, .int x1), (2, .int x2)] → W p l e rm_M_eliminate s m ([.ref (ad o0)] : List Value).toArray below meth c H locs 0 0 (MQ below (ow_Qi G D cA ad Q) ([.ref (ad o0)] : List Value).toArray s 0 0 (ow_A G ad)) (F0 m 7 ls [])) (M : om_M) (x2 : Int32) (t0 : Nat) (t1 : Int32) (t2 : Int32) (kt0 : ow_kd G t0 = (1, 128)) (H : Heap) (locs : List Loc) (ls : Array Slot), wp_M_eliminate_29 F o0 Q x1 K7 M x2 t0 t1 t2 → ow_B G D cA ad (ow_A G ad) M s s.heap H locs → lv_has ls 5 [(0, .ref (ad o0)), (1, .int x1), (2, .int x2)] → W p l e rm_M_eliminate s m ([.ref (ad o0)] : List Value).toArray below meth c H locs 0 0 (MQ below (ow_Qi G D cA ad Q) ([.ref (ad o0)] : List Value).toArray s 0 0 (ow_A G ad)) (F0 m 29 ls [.int t2, .int t1, .ref (ad t0)]) := by
    intro x1 K7 hK7 M x2 t0 t1 t2 kt0 H locs ls h hB hl
    obtain ⟨hi10, h⟩ := h
    obtain ⟨hz11, h⟩ := h
    refine ow_zast hx hb hB kt0 hz11 hi10 dc_M_eliminate_29 (fun H locs hB => ?_)
    refine lv_iinc hx hb dc_M_eliminate_30 hl (k := 2) rfl rfl (by decide) rfl (fun ls hl => ?_)
    refine lv_goto hx hb dc_M_eliminate_33 rfl ?_
    exact hK7 _ _ _ _ _ h hB (lv_sub hl [1, 2, 0] rfl)
  have B7 : ∀ (x1 : Int32)  (K7 : om_M × Int32 → Prop) (hK7 : ∀ (M : om_M) (x2 : Int32) (H : Heap) (locs : List Loc) (ls : Array Slot), K7 (M, x2) → ow_B G D cA ad (ow_A G ad) M s s.heap H locs → lv_has ls 5 [(0, .ref (ad o0)), (1, .int x1), (2, .int x2)] → W p l e rm_M_eliminate s m ([.ref (ad o0)] : List Value).toArray below meth c H locs 0 0 (MQ below (ow_Qi G D cA ad Q) ([.ref (ad o0)] : List Value).toArray s 0 0 (ow_A G ad)) (F0 m 7 ls [])) (M : om_M) (x2 : Int32) (H : Heap) (locs : List Loc) (ls : Array Slot), wp_M_eliminate_7b F o0 Q x1  K7 M x2 → ow_B G D cA ad (ow_A G ad) M s s.heap H locs → lv_has ls 5 [(0, .ref (ad o0)), (1, .int x1), (2, .int x2)] → W p l e rm_M_eliminate s m ([.ref (ad o0)] : List Value).toArray below meth c H locs 0 0 (MQ below (ow_Qi G D cA ad Q) ([.ref (ad o0)] : List Value).toArray s 0 0 (ow_A G ad)) (F0 m 7 ls []) := by
    intro x1  K7 hK7 M x2 H locs ls h hB hl
    refine lv_iload_n hx hb dc_M_eliminate_7 rfl (lv_at hl 2 rfl) ?_
    obtain ⟨h1, h2⟩ := h
    refine lv_if_le hx hb dc_M_eliminate_8 rfl (fun hc => ?_) (fun hc => ?_)
    · have h := h1 hc
      exact L36 _ _ _ _ _ h hB (lv_sub hl [0, 1] rfl)
    · have h := h2 hc
      refine lv_aload_n hx hb dc_M_eliminate_11 rfl (lv_at hl 0 rfl) ?_
      refine ow_get hx hb hts iw_M hown hB k0 rfl 18 (by decide) mw_815 rfl dc_M_eliminate_12 ?_
      refine lv_iload_n hx hb dc_M_eliminate_15 rfl (lv_at hl 2 rfl) ?_
      refine lv_iload_n hx hb dc_M_eliminate_16 rfl (lv_at hl 2 rfl) ?_
      refine lv_aload_n hx hb dc_M_eliminate_17 rfl (lv_at hl 0 rfl) ?_
      refine ow_calli (va_runV (As := []) (rest := [.int x2, .int x2, .ref (ad (o0 + 14))]) ⟨hx, hb, hml, hown, hts⟩ (ct_M_all l G hG D cA ad F _ k0 _ _ h) ⟨ow_cb 0 hts mw_957 mw_12 mw_954 rfl rfl hd_M_all ⟨Nat.le_of_ble_eq_true rfl, Nat.le_of_ble_eq_true rfl⟩, hts _ mw_956, hts _ ms_28⟩ (ow_preV hB k0 rfl) rfl rfl hl.1 rfl (lv_room (Nat.le_of_ble_eq_true rfl)) dc_M_eliminate_18 ⟨Nat.zero_le _, Nat.zero_le _⟩) hB (fun r13 M12 H locs h hB => ?_)
      obtain ⟨h1, h2⟩ := h
      refine lv_icmp_ne hx hb dc_M_eliminate_21 rfl (fun hc => ?_) (fun hc => ?_)
      · have h := h2 hc
        refine lv_iconst (v := 0) hx hb dc_M_eliminate_28 rfl ?_
        exact L29 _ K7 hK7 _ _ _ _ _ (ly_M_left hG k0) _ _ _ h hB (lv_sub hl [0, 1, 2] rfl)
      · have h := h1 hc
        refine lv_iconst (v := 1) hx hb dc_M_eliminate_24 rfl ?_
        refine lv_goto hx hb dc_M_eliminate_25 rfl ?_
        exact L29 _ K7 hK7 _ _ _ _ _ (ly_M_left hG k0) _ _ _ h hB (lv_sub hl [0, 1, 2] rfl)
  have L7 : ∀ (x1 : Int32)  (M : om_M) (x2 : Int32) (H : Heap) (locs : List Loc) (ls : Array Slot), wp_M_eliminate_7 F o0 Q x1  M x2 → ow_B G D cA ad (ow_A G ad) M s s.heap H locs → lv_has ls 5 [(0, .ref (ad o0)), (1, .int x1), (2, .int x2)] → W p l e rm_M_eliminate s m ([.ref (ad o0)] : List Value).toArray below meth c H locs 0 0 (MQ below (ow_Qi G D cA ad Q) ([.ref (ad o0)] : List Value).toArray s 0 0 (ow_A G ad)) (F0 m 7 ls []) := by
    intro x1 
    have step : ∀ (k : Nat) (M : om_M) (x2 : Int32) (H : Heap) (locs : List Loc) (ls : Array Slot), ow_lp (fun (z : om_M × Int32) K => wp_M_eliminate_7b F o0 Q x1  K z.1 z.2) k (M, x2) → ow_B G D cA ad (ow_A G ad) M s s.heap H locs → lv_has ls 5 [(0, .ref (ad o0)), (1, .int x1), (2, .int x2)] → W p l e rm_M_eliminate s m ([.ref (ad o0)] : List Value).toArray below meth c H locs 0 0 (MQ below (ow_Qi G D cA ad Q) ([.ref (ad o0)] : List Value).toArray s 0 0 (ow_A G ad)) (F0 m 7 ls []) := by
      intro k
      induction k with
      | zero => intro M x2 H locs ls h hB hl; exact False.elim h
      | succ k ih => intro M x2 H locs ls h hB hl; exact B7 x1  (ow_lp _ k) (fun M x2 H locs ls h hB  hl => ih M x2  H locs ls h hB hl) M x2 H locs ls h hB hl
    intro M x2 H locs ls h hB hl
    exact step F M x2 H locs ls h hB hl
  have hl := lv_entry ([.ref (ad o0)]) (n := 5) (Nat.le_of_ble_eq_true rfl)
  rw [lg_entry_eq]
  generalize (lg_sl ([.ref (ad o0)]) ++ List.replicate (5 - (lg_sl ([.ref (ad o0)])).length) Slot.unset).toArray = ls at hl ⊢
  have hl : lv_has ls 5 [(0, .ref (ad o0))] := hl
  show W p l e rm_M_eliminate s m _ below meth c s.heap [] 0 0 _ _
  refine lv_iconst (v := 0) hx hb dc_M_eliminate_0 rfl ?_
  refine lv_istore_n hx hb dc_M_eliminate_1 rfl hl (by decide) rfl (fun ls hl => ?_)
  refine lv_aload_n hx hb dc_M_eliminate_2 rfl (lv_at hl 1 rfl) ?_
  refine ow_calli (va_runV (As := []) (rest := []) ⟨hx, hb, hml, hown, hts⟩ (ct_M_all l G hG D cA ad F _ k0 _ _ h) ⟨ow_cb 0 hts mw_957 mw_12 mw_954 rfl rfl hd_M_all ⟨Nat.le_of_ble_eq_true rfl, Nat.le_of_ble_eq_true rfl⟩, hts _ mw_956, hts _ ms_28⟩ (ow_preV hB k0 rfl) rfl rfl hl.1 rfl (lv_room (Nat.le_of_ble_eq_true rfl)) dc_M_eliminate_3 ⟨Nat.zero_le _, Nat.zero_le _⟩) hB (fun r15 M14 H locs h hB => ?_)
  refine lv_istore_n hx hb dc_M_eliminate_6 rfl hl (by decide) rfl (fun ls hl => ?_)
  exact L7 _ _ _ _ _ _ h hB (lv_sub hl [2, 1, 0] rfl)
abbrev rm_M_findPaths : Room := { frames := 1, cells := 0, slots := 0, locals := 22 }
theorem hd_M_findPaths : yn_M_findPaths.cls ≠ "java/lang/invoke/MethodHandle" ∧ yn_M_findPaths.cls ≠ "java/lang/invoke/VarHandle" ∧ (parseMethodDescriptor yn_M_findPaths.desc).map (fun d => d.parameters.length) = some 0 := by decide +kernel
set_option maxHeartbeats 4000000 in
set_option maxRecDepth 100000 in
theorem ct_M_findPaths (l : Launch) (G : List (Nat × Nat)) (hG : ow_lay G) (D : va_G) (cA : Nat → ClassId) (ad : Nat → Nat) (F : Nat) (o0 : Nat) (k0 : ow_kd G o0 = (3, 9)) (M : om_M) (Q : om_M → Prop) (h : wp_M_findPaths F o0 M Q) : Met l yn_M_findPaths (ow_ws yn_M_findPaths cb_M_findPaths 6 none) rm_M_findPaths (ow_Pc G D cA ad M [.ref (ad o0)]) (ow_Qv G D cA ad Q) 0 0 (ow_A G ad) := by
  refine Met.ofW (cc := cb_M_findPaths) (maxL := 6) (ret := none) (by decide) rfl ?_
  intro p e s m args below meth c s₁ B hml hv
  obtain ⟨rfl, hB⟩ := hv
  have hx := B.exec
  have hb := B.bytes
  have hr := B.returns
  have hlocks := B.notSynchronized
  have hts : ∀ w ∈ lw_g, w.before ([.ref (ad o0)] : List Value).toArray s = true := fun w h => atoms_spec (ws := ow_ws yn_M_findPaths cb_M_findPaths 6 none) B.pre w (List.mem_cons_of_mem _ h)
  have hown : s.vm.findClass "BallotDeskModel" = some m.cls := findClass_of_methodNamed B.named
  clear B
  have L222 : ∀  (K74 : om_M × Int32 → Prop) (hK74 : ∀ (M : om_M) (x1 : Int32) (H : Heap) (locs : List Loc) (ls : Array Slot), K74 (M, x1) → ow_B G D cA ad (ow_A G ad) M s s.heap H locs → lv_has ls 6 [(0, .ref (ad o0)), (1, .int x1)] → W p l e rm_M_findPaths s m ([.ref (ad o0)] : List Value).toArray below meth c H locs 0 0 (MQ below (ow_Qv G D cA ad Q) ([.ref (ad o0)] : List Value).toArray s 0 0 (ow_A G ad)) (F0 m 74 ls [])) (M : om_M) (x1 : Int32)  (H : Heap) (locs : List Loc) (ls : Array Slot), wp_M_findPaths_222 F o0 Q  K74 M x1  → ow_B G D cA ad (ow_A G ad) M s s.heap H locs → lv_has ls 6 [(0, .ref (ad o0)), (1, .int x1)] → W p l e rm_M_findPaths s m ([.ref (ad o0)] : List Value).toArray below meth c H locs 0 0 (MQ below (ow_Qv G D cA ad Q) ([.ref (ad o0)] : List Value).toArray s 0 0 (ow_A G ad)) (F0 m 222 ls []) := by
    intro  K74 hK74 M x1 H locs ls h hB hl
    refine lv_goto hx hb dc_M_findPaths_222 rfl ?_
    exact hK74 _ _ _ _ _ h hB (lv_sub hl [0, 1] rfl)
  have L216 : ∀  (K74 : om_M × Int32 → Prop) (hK74 : ∀ (M : om_M) (x1 : Int32) (H : Heap) (locs : List Loc) (ls : Array Slot), K74 (M, x1) → ow_B G D cA ad (ow_A G ad) M s s.heap H locs → lv_has ls 6 [(0, .ref (ad o0)), (1, .int x1)] → W p l e rm_M_findPaths s m ([.ref (ad o0)] : List Value).toArray below meth c H locs 0 0 (MQ below (ow_Qv G D cA ad Q) ([.ref (ad o0)] : List Value).toArray s 0 0 (ow_A G ad)) (F0 m 74 ls [])) (K82 : om_M × Int32 × Int32 → Prop) (hK82 : ∀ (M : om_M) (x1 : Int32) (x2 : Int32) (H : Heap) (locs : List Loc) (ls : Array Slot), K82 (M, x1, x2) → ow_B G D cA ad (ow_A G ad) M s s.heap H locs → lv_has ls 6 [(0, .ref (ad o0)), (1, .int x1), (2, .int x2)] → W p l e rm_M_findPaths s m ([.ref (ad o0)] : List Value).toArray below meth c H locs 0 0 (MQ below (ow_Qv G D cA ad Q) ([.ref (ad o0)] : List Value).toArray s 0 0 (ow_A G ad)) (F0 m 82 ls [])) (M : om_M) (x1 : Int32) (x2 : Int32)  (H : Heap) (locs : List Loc) (ls : Array Slot), wp_M_findPaths_216 F o0 Q  K74 K82 M x1 x2  → ow_B G D cA ad (ow_A G ad) M s s.heap H locs → lv_has ls 6 [(0, .ref (ad o0)), (1, .int x1), (2, .int x2)] → W p l e rm_M_findPaths s m ([.ref (ad o0)] : List Value).toArray below meth c H locs 0 0 (MQ below (ow_Qv G D cA ad Q) ([.ref (ad o0)] : List Value).toArray s 0 0 (ow_A G ad)) (F0 m 216 ls []) := by
    intro  K74 hK74 K82 hK82 M x1 x2 H locs ls h hB hl
    refine lv_iinc hx hb dc_M_findPaths_216 hl (k := 2) rfl rfl (by decide) rfl (fun ls hl => ?_)
    refine lv_goto hx hb dc_M_findPaths_219 rfl ?_
    exact hK82 _ _ _ _ _ _ h hB (lv_sub hl [1, 2, 0] rfl)
  have L210 : ∀ (x2 : Int32) (K74 : om_M × Int32 → Prop) (hK74 : ∀ (M : om_M) (x1 : Int32) (H : Heap) (locs : List Loc) (ls : Array Slot), K74 (M, x1) → ow_B G D cA ad (ow_A G ad) M s s.heap H locs → lv_has ls 6 [(0, .ref (ad o0)), (1, .int x1)] → W p l e rm_M_findPaths s m ([.ref (ad o0)] : List Value).toArray below meth c H locs 0 0 (MQ below (ow_Qv G D cA ad Q) ([.ref (ad o0)] : List Value).toArray s 0 0 (ow_A G ad)) (F0 m 74 ls [])) (K82 : om_M × Int32 × Int32 → Prop) (hK82 : ∀ (M : om_M) (x1 : Int32) (x2 : Int32) (H : Heap) (locs : List Loc) (ls : Array Slot), K82 (M, x1, x2) → ow_B G D cA ad (ow_A G ad) M s s.heap H locs → lv_has ls 6 [(0, .ref (ad o0)), (1, .int x1), (2, .int x2)] → W p l e rm_M_findPaths s m ([.ref (ad o0)] : List Value).toArray below meth c H locs 0 0 (MQ below (ow_Qv G D cA ad Q) ([.ref (ad o0)] : List Value).toArray s 0 0 (ow_A G ad)) (F0 m 82 ls [])) (K92 : om_M × Int32 × Int32 → Prop) (hK92 : ∀ (M : om_M) (x1 : Int32) (x3 : Int32) (H : Heap) (locs : List Loc) (ls : Array Slot), K92 (M, x1, x3) → ow_B G D cA ad (ow_A G ad) M s s.heap H locs → lv_has ls 6 [(0, .ref (ad o0)), (1, .int x1), (2, .int x2), (3, .int x3)] → W p l e rm_M_findPaths s m ([.ref (ad o0)] : List Value).toArray below meth c H locs 0 0 (MQ below (ow_Qv G D cA ad Q) ([.ref (ad o0)] : List Value).toArray s 0 0 (ow_A G ad)) (F0 m 92 ls [])) (M : om_M) (x1 : Int32) (x3 : Int32)  (H : Heap) (locs : List Loc) (ls : Array Slot), wp_M_findPaths_210 F o0 Q x2 K74 K82 K92 M x1 x3  → ow_B G D cA ad (ow_A G ad) M s s.heap H locs → lv_has ls 6 [(0, .ref (ad o0)), (1, .int x1), (2, .int x2), (3, .int x3)] → W p l e rm_M_findPaths s m ([.ref (ad o0)] : List Value).toArray below meth c H locs 0 0 (MQ below (ow_Qv G D cA ad Q) ([.ref (ad o0)] : List Value).toArray s 0 0 (ow_A G ad)) (F0 m 210 ls []) := by
    intro x2 K74 hK74 K82 hK82 K92 hK92 M x1 x3 H locs ls h hB hl
    refine lv_iinc hx hb dc_M_findPaths_210 hl (k := 3) rfl rfl (by decide) rfl (fun ls hl => ?_)
    refine lv_goto hx hb dc_M_findPaths_213 rfl ?_
    exact hK92 _ _ _ _ _ _ h hB (lv_sub hl [1, 2, 3, 0] rfl)
  have L204 : ∀ (x2 : Int32) (x3 : Int32) (K74 : om_M × Int32 → Prop) (hK74 : ∀ (M : om_M) (x1 : Int32) (H : Heap) (locs : List Loc) (ls : Array Slot), K74 (M, x1) → ow_B G D cA ad (ow_A G ad) M s s.heap H locs → lv_has ls 6 [(0, .ref (ad o0)), (1, .int x1)] → W p l e rm_M_findPaths s m ([.ref (ad o0)] : List Value).toArray below meth c H locs 0 0 (MQ below (ow_Qv G D cA ad Q) ([.ref (ad o0)] : List Value).toArray s 0 0 (ow_A G ad)) (F0 m 74 ls [])) (K82 : om_M × Int32 × Int32 → Prop) (hK82 : ∀ (M : om_M) (x1 : Int32) (x2 : Int32) (H : Heap) (locs : List Loc) (ls : Array Slot), K82 (M, x1, x2) → ow_B G D cA ad (ow_A G ad) M s s.heap H locs → lv_has ls 6 [(0, .ref (ad o0)), (1, .int x1), (2, .int x2)] → W p l e rm_M_findPaths s m ([.ref (ad o0)] : List Value).toArray below meth c H locs 0 0 (MQ below (ow_Qv G D cA ad Q) ([.ref (ad o0)] : List Value).toArray s 0 0 (ow_A G ad)) (F0 m 82 ls [])) (K92 : om_M × Int32 × Int32 → Prop) (hK92 : ∀ (M : om_M) (x1 : Int32) (x3 : Int32) (H : Heap) (locs : List Loc) (ls : Array Slot), K92 (M, x1, x3) → ow_B G D cA ad (ow_A G ad) M s s.heap H locs → lv_has ls 6 [(0, .ref (ad o0)), (1, .int x1), (2, .int x2), (3, .int x3)] → W p l e rm_M_findPaths s m ([.ref (ad o0)] : List Value).toArray below meth c H locs 0 0 (MQ below (ow_Qv G D cA ad Q) ([.ref (ad o0)] : List Value).toArray s 0 0 (ow_A G ad)) (F0 m 92 ls [])) (K103 : om_M × Int32 × Int32 → Prop) (hK103 : ∀ (M : om_M) (x1 : Int32) (x4 : Int32) (H : Heap) (locs : List Loc) (ls : Array Slot), K103 (M, x1, x4) → ow_B G D cA ad (ow_A G ad) M s s.heap H locs → lv_has ls 6 [(0, .ref (ad o0)), (1, .int x1), (2, .int x2), (3, .int x3), (4, .int x4)] → W p l e rm_M_findPaths s m ([.ref (ad o0)] : List Value).toArray below meth c H locs 0 0 (MQ below (ow_Qv G D cA ad Q) ([.ref (ad o0)] : List Value).toArray s 0 0 (ow_A G ad)) (F0 m 103 ls [])) (M : om_M) (x1 : Int32) (x4 : Int32)  (H : Heap) (locs : List Loc) (ls : Array Slot), wp_M_findPaths_204 F o0 Q x2 x3 K74 K82 K92 K103 M x1 x4  → ow_B G D cA ad (ow_A G ad) M s s.heap H locs → lv_has ls 6 [(0, .ref (ad o0)), (1, .int x1), (2, .int x2), (3, .int x3), (4, .int x4)] → W p l e rm_M_findPaths s m ([.ref (ad o0)] : List Value).toArray below meth c H locs 0 0 (MQ below (ow_Qv G D cA ad Q) ([.ref (ad o0)] : List Value).toArray s 0 0 (ow_A G ad)) (F0 m 204 ls []) := by
    intro x2 x3 K74 hK74 K82 hK82 K92 hK92 K103 hK103 M x1 x4 H locs ls h hB hl
    refine lv_iinc hx hb dc_M_findPaths_204 hl (k := 4) rfl rfl (by decide) rfl (fun ls hl => ?_)
    refine lv_goto hx hb dc_M_findPaths_207 rfl ?_
    exact hK103 _ _ _ _ _ _ h hB (lv_sub hl [1, 2, 3, 4, 0] rfl)
  have L171 : ∀ (x2 : Int32) (x3 : Int32) (K74 : om_M × Int32 → Prop) (hK74 : ∀ (M : om_M) (x1 : Int32) (H : Heap) (locs : List Loc) (ls : Array Slot), K74 (M, x1) → ow_B G D cA ad (ow_A G ad) M s s.heap H locs → lv_has ls 6 [(0, .ref (ad o0)), (1, .int x1)] → W p l e rm_M_findPaths s m ([.ref (ad o0)] : List Value).toArray below meth c H locs 0 0 (MQ below (ow_Qv G D cA ad Q) ([.ref (ad o0)] : List Value).toArray s 0 0 (ow_A G ad)) (F0 m 74 ls [])) (K82 : om_M × Int32 × Int32 → Prop) (hK82 : ∀ (M : om_M) (x1 : Int32) (x2 : Int32) (H : Heap) (locs : List Loc) (ls : Array Slot), K82 (M, x1, x2) → ow_B G D cA ad (ow_A G ad) M s s.heap H locs → lv_has ls 6 [(0, .ref (ad o0)), (1, .int x1), (2, .int x2)] → W p l e rm_M_findPaths s m ([.ref (ad o0)] : List Value).toArray below meth c H locs 0 0 (MQ below (ow_Qv G D cA ad Q) ([.ref (ad o0)] : List Value).toArray s 0 0 (ow_A G ad)) (F0 m 82 ls [])) (K92 : om_M × Int32 × Int32 → Prop) (hK92 : ∀ (M : om_M) (x1 : Int32) (x3 : Int32) (H : Heap) (locs : List Loc) (ls : Array Slot), K92 (M, x1, x3) → ow_B G D cA ad (ow_A G ad) M s s.heap H locs → lv_has ls 6 [(0, .ref (ad o0)), (1, .int x1), (2, .int x2), (3, .int x3)] → W p l e rm_M_findPaths s m ([.ref (ad o0)] : List Value).toArray below meth c H locs 0 0 (MQ below (ow_Qv G D cA ad Q) ([.ref (ad o0)] : List Value).toArray s 0 0 (ow_A G ad)) (F0 m 92 ls [])) (K103 : om_M × Int32 × Int32 → Prop) (hK103 : ∀ (M : om_M) (x1 : Int32) (x4 : Int32) (H : Heap) (locs : List Loc) (ls : Array Slot), K103 (M, x1, x4) → ow_B G D cA ad (ow_A G ad) M s s.heap H locs → lv_has ls 6 [(0, .ref (ad o0)), (1, .int x1), (2, .int x2), (3, .int x3), (4, .int x4)] → W p l e rm_M_findPaths s m ([.ref (ad o0)] : List Value).toArray below meth c H locs 0 0 (MQ below (ow_Qv G D cA ad Q) ([.ref (ad o0)] : List Value).toArray s 0 0 (ow_A G ad)) (F0 m 103 ls [])) (M : om_M) (x1 : Int32) (x4 : Int32) (t0 : Int32) (H : Heap) (locs : List Loc) (ls : Array Slot), wp_M_findPaths_171 F o0 Q x2 x3 K74 K82 K92 K103 M x1 x4 t0 → ow_B G D cA ad (ow_A G ad) M s s.heap H locs → lv_has ls 6 [(0, .ref (ad o0)), (1, .int x1), (2, .int x2), (3, .int x3), (4, .int x4)] → W p l e rm_M_findPaths s m ([.ref (ad o0)] : List Value).toArray below meth c H locs 0 0 (MQ below (ow_Qv G D cA ad Q) ([.ref (ad o0)] : List Value).toArray s 0 0 (ow_A G ad)) (F0 m 171 ls [.int t0]) := by
    intro x2 x3 K74 hK74 K82 hK82 K92 hK92 K103 hK103 M x1 x4 t0 H locs ls h hB hl
    refine lv_istore hx hb dc_M_findPaths_171 hl (by decide) rfl (fun ls hl => ?_)
    refine lv_iload hx hb dc_M_findPaths_173 (lv_at hl 0 rfl) ?_
    refine lv_aload_n hx hb dc_M_findPaths_175 rfl (lv_at hl 1 rfl) ?_
    refine ow_get hx hb hts iw_M hown hB k0 rfl 16 (by decide) mw_813 rfl dc_M_findPaths_176 ?_
    refine lv_bipush (v := 7) hx hb dc_M_findPaths_179 rfl ?_
    refine lv_iload_n hx hb dc_M_findPaths_181 rfl (lv_at hl 3 rfl) ?_
    refine lv_imul hx hb dc_M_findPaths_182 ?_
    refine lv_iload_n hx hb dc_M_findPaths_183 rfl (lv_at hl 4 rfl) ?_
    refine lv_iadd hx hb dc_M_findPaths_184 ?_
    obtain ⟨hi1, h⟩ := h
    refine ow_iald hx hb hB (ly_M_paths hG k0) hi1 dc_M_findPaths_185 ?_
    obtain ⟨h1, h2⟩ := h
    refine lv_icmp_le hx hb dc_M_findPaths_186 rfl (fun hc => ?_) (fun hc => ?_)
    · have h := h1 hc
      exact L204 _ _ K74 hK74 K82 hK82 K92 hK92 K103 hK103 _ _ _ _ _ _ h hB (lv_sub hl [1, 2, 3, 4, 5] rfl)
    · have h := h2 hc
      refine lv_aload_n hx hb dc_M_findPaths_189 rfl (lv_at hl 1 rfl) ?_
      refine ow_get hx hb hts iw_M hown hB k0 rfl 16 (by decide) mw_813 rfl dc_M_findPaths_190 ?_
      refine lv_bipush (v := 7) hx hb dc_M_findPaths_193 rfl ?_
      refine lv_iload_n hx hb dc_M_findPaths_195 rfl (lv_at hl 3 rfl) ?_
      refine lv_imul hx hb dc_M_findPaths_196 ?_
      refine lv_iload_n hx hb dc_M_findPaths_197 rfl (lv_at hl 4 rfl) ?_
      refine lv_iadd hx hb dc_M_findPaths_198 ?_
      refine lv_iload hx hb dc_M_findPaths_199 (lv_at hl 0 rfl) ?_
      refine ow_iast hx hb hB (ly_M_paths hG k0) hi1 dc_M_findPaths_201 (fun H locs hB => ?_)
      refine lv_iconst (v := 1) hx hb dc_M_findPaths_202 rfl ?_
      refine lv_istore_n hx hb dc_M_findPaths_203 rfl hl (by decide) rfl (fun ls hl => ?_)
      exact L204 _ _ K74 hK74 K82 hK82 K92 hK92 K103 hK103 _ _ _ _ _ _ h hB (lv_sub hl [2, 0, 3, 4, 5] rfl)
  have B103 : ∀ (x2 : Int32) (x3 : Int32) (K74 : om_M × Int32 → Prop) (hK74 : ∀ (M : om_M) (x1 : Int32) (H : Heap) (locs : List Loc) (ls : Array Slot), K74 (M, x1) → ow_B G D cA ad (ow_A G ad) M s s.heap H locs → lv_has ls 6 [(0, .ref (ad o0)), (1, .int x1)] → W p l e rm_M_findPaths s m ([.ref (ad o0)] : List Value).toArray below meth c H locs 0 0 (MQ below (ow_Qv G D cA ad Q) ([.ref (ad o0)] : List Value).toArray s 0 0 (ow_A G ad)) (F0 m 74 ls [])) (K82 : om_M × Int32 × Int32 → Prop) (hK82 : ∀ (M : om_M) (x1 : Int32) (x2 : Int32) (H : Heap) (locs : List Loc) (ls : Array Slot), K82 (M, x1, x2) → ow_B G D cA ad (ow_A G ad) M s s.heap H locs → lv_has ls 6 [(0, .ref (ad o0)), (1, .int x1), (2, .int x2)] → W p l e rm_M_findPaths s m ([.ref (ad o0)] : List Value).toArray below meth c H locs 0 0 (MQ below (ow_Qv G D cA ad Q) ([.ref (ad o0)] : List Value).toArray s 0 0 (ow_A G ad)) (F0 m 82 ls [])) (K92 : om_M × Int32 × Int32 → Prop) (hK92 : ∀ (M : om_M) (x1 : Int32) (x3 : Int32) (H : Heap) (locs : List Loc) (ls : Array Slot), K92 (M, x1, x3) → ow_B G D cA ad (ow_A G ad) M s s.heap H locs → lv_has ls 6 [(0, .ref (ad o0)), (1, .int x1), (2, .int x2), (3, .int x3)] → W p l e rm_M_findPaths s m ([.ref (ad o0)] : List Value).toArray below meth c H locs 0 0 (MQ below (ow_Qv G D cA ad Q) ([.ref (ad o0)] : List Value).toArray s 0 0 (ow_A G ad)) (F0 m 92 ls [])) (K103 : om_M × Int32 × Int32 → Prop) (hK103 : ∀ (M : om_M) (x1 : Int32) (x4 : Int32) (H : Heap) (locs : List Loc) (ls : Array Slot), K103 (M, x1, x4) → ow_B G D cA ad (ow_A G ad) M s s.heap H locs → lv_has ls 6 [(0, .ref (ad o0)), (1, .int x1), (2, .int x2), (3, .int x3), (4, .int x4)] → W p l e rm_M_findPaths s m ([.ref (ad o0)] : List Value).toArray below meth c H locs 0 0 (MQ below (ow_Qv G D cA ad Q) ([.ref (ad o0)] : List Value).toArray s 0 0 (ow_A G ad)) (F0 m 103 ls [])) (M : om_M) (x1 : Int32) (x4 : Int32) (H : Heap) (locs : List Loc) (ls : Array Slot), wp_M_findPaths_103b F o0 Q x2 x3 K74 K82 K92 K103 M x1 x4 → ow_B G D cA ad (ow_A G ad) M s s.heap H locs → lv_has ls 6 [(0, .ref (ad o0)), (1, .int x1), (2, .int x2), (3, .int x3), (4, .int x4)] → W p l e rm_M_findPaths s m ([.ref (ad o0)] : List Value).toArray below meth c H locs 0 0 (MQ below (ow_Qv G D cA ad Q) ([.ref (ad o0)] : List Value).toArray s 0 0 (ow_A G ad)) (F0 m 103 ls []) := by
    intro x2 x3 K74 hK74 K82 hK82 K92 hK92 K103 hK103 M x1 x4 H locs ls h hB hl
    refine lv_iload hx hb dc_M_findPaths_103 (lv_at hl 4 rfl) ?_
    refine lv_aload_n hx hb dc_M_findPaths_105 rfl (lv_at hl 0 rfl) ?_
    refine ow_get hx hb hts iw_M hown hB k0 rfl 8 (by decide) mw_805 rfl dc_M_findPaths_106 ?_
    obtain ⟨h1, h2⟩ := h
    refine lv_icmp_ge hx hb dc_M_findPaths_109 rfl (fun hc => ?_) (fun hc => ?_)
    · have h := h1 hc
      exact L210 _ K74 hK74 K82 hK82 K92 hK92 _ _ _ _ _ _ h hB (lv_sub hl [0, 1, 2, 3] rfl)
    · have h := h2 hc
      refine lv_iload_n hx hb dc_M_findPaths_112 rfl (lv_at hl 2 rfl) ?_
      refine lv_iload_n hx hb dc_M_findPaths_113 rfl (lv_at hl 3 rfl) ?_
      obtain ⟨h1, h2⟩ := h
      refine lv_icmp_eq hx hb dc_M_findPaths_114 rfl (fun hc => ?_) (fun hc => ?_)
      · have h := h1 hc
        exact L210 _ K74 hK74 K82 hK82 K92 hK92 _ _ _ _ _ _ h hB (lv_sub hl [0, 1, 2, 3] rfl)
      · have h := h2 hc
        refine lv_aload_n hx hb dc_M_findPaths_117 rfl (lv_at hl 0 rfl) ?_
        refine ow_get hx hb hts iw_M hown hB k0 rfl 16 (by decide) mw_813 rfl dc_M_findPaths_118 ?_
        refine lv_bipush (v := 7) hx hb dc_M_findPaths_121 rfl ?_
        refine lv_iload_n hx hb dc_M_findPaths_123 rfl (lv_at hl 2 rfl) ?_
        refine lv_imul hx hb dc_M_findPaths_124 ?_
        refine lv_iload hx hb dc_M_findPaths_125 (lv_at hl 4 rfl) ?_
        refine lv_iadd hx hb dc_M_findPaths_127 ?_
        obtain ⟨hi2, h⟩ := h
        refine ow_iald hx hb hB (ly_M_paths hG k0) hi2 dc_M_findPaths_128 ?_
        refine lv_aload_n hx hb dc_M_findPaths_129 rfl (lv_at hl 0 rfl) ?_
        refine ow_get hx hb hts iw_M hown hB k0 rfl 16 (by decide) mw_813 rfl dc_M_findPaths_130 ?_
        refine lv_bipush (v := 7) hx hb dc_M_findPaths_133 rfl ?_
        refine lv_iload hx hb dc_M_findPaths_135 (lv_at hl 4 rfl) ?_
        refine lv_imul hx hb dc_M_findPaths_137 ?_
        refine lv_iload_n hx hb dc_M_findPaths_138 rfl (lv_at hl 3 rfl) ?_
        refine lv_iadd hx hb dc_M_findPaths_139 ?_
        obtain ⟨hi3, h⟩ := h
        refine ow_iald hx hb hB (ly_M_paths hG k0) hi3 dc_M_findPaths_140 ?_
        obtain ⟨h1, h2⟩ := h
        refine lv_icmp_ge hx hb dc_M_findPaths_141 rfl (fun hc => ?_) (fun hc => ?_)
        · have h := h1 hc
          refine lv_aload_n hx hb dc_M_findPaths_159 rfl (lv_at hl 0 rfl) ?_
          refine ow_get hx hb hts iw_M hown hB k0 rfl 16 (by decide) mw_813 rfl dc_M_findPaths_160 ?_
          refine lv_bipush (v := 7) hx hb dc_M_findPaths_163 rfl ?_
          refine lv_iload hx hb dc_M_findPaths_165 (lv_at hl 4 rfl) ?_
          refine lv_imul hx hb dc_M_findPaths_167 ?_
          refine lv_iload_n hx hb dc_M_findPaths_168 rfl (lv_at hl 3 rfl) ?_
          refine lv_iadd hx hb dc_M_findPaths_169 ?_
          refine ow_iald hx hb hB (ly_M_paths hG k0) hi3 dc_M_findPaths_170 ?_
          exact L171 _ _ K74 hK74 K82 hK82 K92 hK92 K103 hK103 _ _ _ _ _ _ _ h hB (lv_sub hl [0, 1, 2, 3, 4] rfl)
        · have h := h2 hc
          refine lv_aload_n hx hb dc_M_findPaths_144 rfl (lv_at hl 0 rfl) ?_
          refine ow_get hx hb hts iw_M hown hB k0 rfl 16 (by decide) mw_813 rfl dc_M_findPaths_145 ?_
          refine lv_bipush (v := 7) hx hb dc_M_findPaths_148 rfl ?_
          refine lv_iload_n hx hb dc_M_findPaths_150 rfl (lv_at hl 2 rfl) ?_
          refine lv_imul hx hb dc_M_findPaths_151 ?_
          refine lv_iload hx hb dc_M_findPaths_152 (lv_at hl 4 rfl) ?_
          refine lv_iadd hx hb dc_M_findPaths_154 ?_
          refine ow_iald hx hb hB (ly_M_paths hG k0) hi2 dc_M_findPaths_155 ?_
          refine lv_goto hx hb dc_M_findPaths_156 rfl ?_
          exact L171 _ _ K74 hK74 K82 hK82 K92 hK92 K103 hK103 _ _ _ _ _ _ _ h hB (lv_sub hl [0, 1, 2, 3, 4] rfl)
  have L103 : ∀ (x2 : Int32) (x3 : Int32) (K74 : om_M × Int32 → Prop) (hK74 : ∀ (M : om_M) (x1 : Int32) (H : Heap) (locs : List Loc) (ls : Array Slot), K74 (M, x1) → ow_B G D cA ad (ow_A G ad) M s s.heap H locs → lv_has ls 6 [(0, .ref (ad o0)), (1, .int x1)] → W p l e rm_M_findPaths s m ([.ref (ad o0)] : List Value).toArray below meth c H locs 0 0 (MQ below (ow_Qv G D cA ad Q) ([.ref (ad o0)] : List Value).toArray s 0 0 (ow_A G ad)) (F0 m 74 ls [])) (K82 : om_M × Int32 × Int32 → Prop) (hK82 : ∀ (M : om_M) (x1 : Int32) (x2 : Int32) (H : Heap) (locs : List Loc) (ls : Array Slot), K82 (M, x1, x2) → ow_B G D cA ad (ow_A G ad) M s s.heap H locs → lv_has ls 6 [(0, .ref (ad o0)), (1, .int x1), (2, .int x2)] → W p l e rm_M_findPaths s m ([.ref (ad o0)] : List Value).toArray below meth c H locs 0 0 (MQ below (ow_Qv G D cA ad Q) ([.ref (ad o0)] : List Value).toArray s 0 0 (ow_A G ad)) (F0 m 82 ls [])) (K92 : om_M × Int32 × Int32 → Prop) (hK92 : ∀ (M : om_M) (x1 : Int32) (x3 : Int32) (H : Heap) (locs : List Loc) (ls : Array Slot), K92 (M, x1, x3) → ow_B G D cA ad (ow_A G ad) M s s.heap H locs → lv_has ls 6 [(0, .ref (ad o0)), (1, .int x1), (2, .int x2), (3, .int x3)] → W p l e rm_M_findPaths s m ([.ref (ad o0)] : List Value).toArray below meth c H locs 0 0 (MQ below (ow_Qv G D cA ad Q) ([.ref (ad o0)] : List Value).toArray s 0 0 (ow_A G ad)) (F0 m 92 ls [])) (M : om_M) (x1 : Int32) (x4 : Int32) (H : Heap) (locs : List Loc) (ls : Array Slot), wp_M_findPaths_103 F o0 Q x2 x3 K74 K82 K92 M x1 x4 → ow_B G D cA ad (ow_A G ad) M s s.heap H locs → lv_has ls 6 [(0, .ref (ad o0)), (1, .int x1), (2, .int x2), (3, .int x3), (4, .int x4)] → W p l e rm_M_findPaths s m ([.ref (ad o0)] : List Value).toArray below meth c H locs 0 0 (MQ below (ow_Qv G D cA ad Q) ([.ref (ad o0)] : List Value).toArray s 0 0 (ow_A G ad)) (F0 m 103 ls []) := by
    intro x2 x3 K74 hK74 K82 hK82 K92 hK92
    have step : ∀ (k : Nat) (M : om_M) (x1 : Int32) (x4 : Int32) (H : Heap) (locs : List Loc) (ls : Array Slot), ow_lp (fun (z : om_M × Int32 × Int32) K => wp_M_findPaths_103b F o0 Q x2 x3 K74 K82 K92 K z.1 z.2.1 z.2.2) k (M, x1, x4) → ow_B G D cA ad (ow_A G ad) M s s.heap H locs → lv_has ls 6 [(0, .ref (ad o0)), (1, .int x1), (2, .int x2), (3, .int x3), (4, .int x4)] → W p l e rm_M_findPaths s m ([.ref (ad o0)] : List Value).toArray below meth c H locs 0 0 (MQ below (ow_Qv G D cA ad Q) ([.ref (ad o0)] : List Value).toArray s 0 0 (ow_A G ad)) (F0 m 103 ls []) := by
      intro k
      induction k with
      | zero => intro M x1 x4 H locs ls h hB hl; exact False.elim h
      | succ k ih => intro M x1 x4 H locs ls h hB hl; exact B103 x2 x3 K74 hK74 K82 hK82 K92 hK92 (ow_lp _ k) (fun M x1 x4 H locs ls h hB  hl => ih M x1 x4  H locs ls h hB hl) M x1 x4 H locs ls h hB hl
    intro M x1 x4 H locs ls h hB hl
    exact step F M x1 x4 H locs ls h hB hl
  have B92 : ∀ (x2 : Int32) (K74 : om_M × Int32 → Prop) (hK74 : ∀ (M : om_M) (x1 : Int32) (H : Heap) (locs : List Loc) (ls : Array Slot), K74 (M, x1) → ow_B G D cA ad (ow_A G ad) M s s.heap H locs → lv_has ls 6 [(0, .ref (ad o0)), (1, .int x1)] → W p l e rm_M_findPaths s m ([.ref (ad o0)] : List Value).toArray below meth c H locs 0 0 (MQ below (ow_Qv G D cA ad Q) ([.ref (ad o0)] : List Value).toArray s 0 0 (ow_A G ad)) (F0 m 74 ls [])) (K82 : om_M × Int32 × Int32 → Prop) (hK82 : ∀ (M : om_M) (x1 : Int32) (x2 : Int32) (H : Heap) (locs : List Loc) (ls : Array Slot), K82 (M, x1, x2) → ow_B G D cA ad (ow_A G ad) M s s.heap H locs → lv_has ls 6 [(0, .ref (ad o0)), (1, .int x1), (2, .int x2)] → W p l e rm_M_findPaths s m ([.ref (ad o0)] : List Value).toArray below meth c H locs 0 0 (MQ below (ow_Qv G D cA ad Q) ([.ref (ad o0)] : List Value).toArray s 0 0 (ow_A G ad)) (F0 m 82 ls [])) (K92 : om_M × Int32 × Int32 → Prop) (hK92 : ∀ (M : om_M) (x1 : Int32) (x3 : Int32) (H : Heap) (locs : List Loc) (ls : Array Slot), K92 (M, x1, x3) → ow_B G D cA ad (ow_A G ad) M s s.heap H locs → lv_has ls 6 [(0, .ref (ad o0)), (1, .int x1), (2, .int x2), (3, .int x3)] → W p l e rm_M_findPaths s m ([.ref (ad o0)] : List Value).toArray below meth c H locs 0 0 (MQ below (ow_Qv G D cA ad Q) ([.ref (ad o0)] : List Value).toArray s 0 0 (ow_A G ad)) (F0 m 92 ls [])) (M : om_M) (x1 : Int32) (x3 : Int32) (H : Heap) (locs : List Loc) (ls : Array Slot), wp_M_findPaths_92b F o0 Q x2 K74 K82 K92 M x1 x3 → ow_B G D cA ad (ow_A G ad) M s s.heap H locs → lv_has ls 6 [(0, .ref (ad o0)), (1, .int x1), (2, .int x2), (3, .int x3)] → W p l e rm_M_findPaths s m ([.ref (ad o0)] : List Value).toArray below meth c H locs 0 0 (MQ below (ow_Qv G D cA ad Q) ([.ref (ad o0)] : List Value).toArray s 0 0 (ow_A G ad)) (F0 m 92 ls []) := by
    intro x2 K74 hK74 K82 hK82 K92 hK92 M x1 x3 H locs ls h hB hl
    refine lv_iload_n hx hb dc_M_findPaths_92 rfl (lv_at hl 3 rfl) ?_
    refine lv_aload_n hx hb dc_M_findPaths_93 rfl (lv_at hl 0 rfl) ?_
    refine ow_get hx hb hts iw_M hown hB k0 rfl 8 (by decide) mw_805 rfl dc_M_findPaths_94 ?_
    obtain ⟨h1, h2⟩ := h
    refine lv_icmp_ge hx hb dc_M_findPaths_97 rfl (fun hc => ?_) (fun hc => ?_)
    · have h := h1 hc
      exact L216 K74 hK74 K82 hK82 _ _ _ _ _ _ h hB (lv_sub hl [0, 1, 2] rfl)
    · have h := h2 hc
      refine lv_iconst (v := 0) hx hb dc_M_findPaths_100 rfl ?_
      refine lv_istore hx hb dc_M_findPaths_101 hl (by decide) rfl (fun ls hl => ?_)
      exact L103 _ _ K74 hK74 K82 hK82 K92 hK92 _ _ _ _ _ _ h hB (lv_sub hl [1, 2, 3, 4, 0] rfl)
  have L92 : ∀ (x2 : Int32) (K74 : om_M × Int32 → Prop) (hK74 : ∀ (M : om_M) (x1 : Int32) (H : Heap) (locs : List Loc) (ls : Array Slot), K74 (M, x1) → ow_B G D cA ad (ow_A G ad) M s s.heap H locs → lv_has ls 6 [(0, .ref (ad o0)), (1, .int x1)] → W p l e rm_M_findPaths s m ([.ref (ad o0)] : List Value).toArray below meth c H locs 0 0 (MQ below (ow_Qv G D cA ad Q) ([.ref (ad o0)] : List Value).toArray s 0 0 (ow_A G ad)) (F0 m 74 ls [])) (K82 : om_M × Int32 × Int32 → Prop) (hK82 : ∀ (M : om_M) (x1 : Int32) (x2 : Int32) (H : Heap) (locs : List Loc) (ls : Array Slot), K82 (M, x1, x2) → ow_B G D cA ad (ow_A G ad) M s s.heap H locs → lv_has ls 6 [(0, .ref (ad o0)), (1, .int x1), (2, .int x2)] → W p l e rm_M_findPaths s m ([.ref (ad o0)] : List Value).toArray below meth c H locs 0 0 (MQ below (ow_Qv G D cA ad Q) ([.ref (ad o0)] : List Value).toArray s 0 0 (ow_A G ad)) (F0 m 82 ls [])) (M : om_M) (x1 : Int32) (x3 : Int32) (H : Heap) (locs : List Loc) (ls : Array Slot), wp_M_findPaths_92 F o0 Q x2 K74 K82 M x1 x3 → ow_B G D cA ad (ow_A G ad) M s s.heap H locs → lv_has ls 6 [(0, .ref (ad o0)), (1, .int x1), (2, .int x2), (3, .int x3)] → W p l e rm_M_findPaths s m ([.ref (ad o0)] : List Value).toArray below meth c H locs 0 0 (MQ below (ow_Qv G D cA ad Q) ([.ref (ad o0)] : List Value).toArray s 0 0 (ow_A G ad)) (F0 m 92 ls []) := by
    intro x2 K74 hK74 K82 hK82
    have step : ∀ (k : Nat) (M : om_M) (x1 : Int32) (x3 : Int32) (H : Heap) (locs : List Loc) (ls : Array Slot), ow_lp (fun (z : om_M × Int32 × Int32) K => wp_M_findPaths_92b F o0 Q x2 K74 K82 K z.1 z.2.1 z.2.2) k (M, x1, x3) → ow_B G D cA ad (ow_A G ad) M s s.heap H locs → lv_has ls 6 [(0, .ref (ad o0)), (1, .int x1), (2, .int x2), (3, .int x3)] → W p l e rm_M_findPaths s m ([.ref (ad o0)] : List Value).toArray below meth c H locs 0 0 (MQ below (ow_Qv G D cA ad Q) ([.ref (ad o0)] : List Value).toArray s 0 0 (ow_A G ad)) (F0 m 92 ls []) := by
      intro k
      induction k with
      | zero => intro M x1 x3 H locs ls h hB hl; exact False.elim h
      | succ k ih => intro M x1 x3 H locs ls h hB hl; exact B92 x2 K74 hK74 K82 hK82 (ow_lp _ k) (fun M x1 x3 H locs ls h hB  hl => ih M x1 x3  H locs ls h hB hl) M x1 x3 H locs ls h hB hl
    intro M x1 x3 H locs ls h hB hl
    exact step F M x1 x3 H locs ls h hB hl
  have B82 : ∀  (K74 : om_M × Int32 → Prop) (hK74 : ∀ (M : om_M) (x1 : Int32) (H : Heap) (locs : List Loc) (ls : Array Slot), K74 (M, x1) → ow_B G D cA ad (ow_A G ad) M s s.heap H locs → lv_has ls 6 [(0, .ref (ad o0)), (1, .int x1)] → W p l e rm_M_findPaths s m ([.ref (ad o0)] : List Value).toArray below meth c H locs 0 0 (MQ below (ow_Qv G D cA ad Q) ([.ref (ad o0)] : List Value).toArray s 0 0 (ow_A G ad)) (F0 m 74 ls [])) (K82 : om_M × Int32 × Int32 → Prop) (hK82 : ∀ (M : om_M) (x1 : Int32) (x2 : Int32) (H : Heap) (locs : List Loc) (ls : Array Slot), K82 (M, x1, x2) → ow_B G D cA ad (ow_A G ad) M s s.heap H locs → lv_has ls 6 [(0, .ref (ad o0)), (1, .int x1), (2, .int x2)] → W p l e rm_M_findPaths s m ([.ref (ad o0)] : List Value).toArray below meth c H locs 0 0 (MQ below (ow_Qv G D cA ad Q) ([.ref (ad o0)] : List Value).toArray s 0 0 (ow_A G ad)) (F0 m 82 ls [])) (M : om_M) (x1 : Int32) (x2 : Int32) (H : Heap) (locs : List Loc) (ls : Array Slot), wp_M_findPaths_82b F o0 Q  K74 K82 M x1 x2 → ow_B G D cA ad (ow_A G ad) M s s.heap H locs → lv_has ls 6 [(0, .ref (ad o0)), (1, .int x1), (2, .int x2)] → W p l e rm_M_findPaths s m ([.ref (ad o0)] : List Value).toArray below meth c H locs 0 0 (MQ below (ow_Qv G D cA ad Q) ([.ref (ad o0)] : List Value).toArray s 0 0 (ow_A G ad)) (F0 m 82 ls []) := by
    intro  K74 hK74 K82 hK82 M x1 x2 H locs ls h hB hl
    refine lv_iload_n hx hb dc_M_findPaths_82 rfl (lv_at hl 2 rfl) ?_
    refine lv_aload_n hx hb dc_M_findPaths_83 rfl (lv_at hl 0 rfl) ?_
    refine ow_get hx hb hts iw_M hown hB k0 rfl 8 (by decide) mw_805 rfl dc_M_findPaths_84 ?_
    obtain ⟨h1, h2⟩ := h
    refine lv_icmp_ge hx hb dc_M_findPaths_87 rfl (fun hc => ?_) (fun hc => ?_)
    · have h := h1 hc
      exact L222 K74 hK74 _ _ _ _ _ h hB (lv_sub hl [0, 1] rfl)
    · have h := h2 hc
      refine lv_iconst (v := 0) hx hb dc_M_findPaths_90 rfl ?_
      refine lv_istore_n hx hb dc_M_findPaths_91 rfl hl (by decide) rfl (fun ls hl => ?_)
      exact L92 _ K74 hK74 K82 hK82 _ _ _ _ _ _ h hB (lv_sub hl [1, 2, 3, 0] rfl)
  have L82 : ∀  (K74 : om_M × Int32 → Prop) (hK74 : ∀ (M : om_M) (x1 : Int32) (H : Heap) (locs : List Loc) (ls : Array Slot), K74 (M, x1) → ow_B G D cA ad (ow_A G ad) M s s.heap H locs → lv_has ls 6 [(0, .ref (ad o0)), (1, .int x1)] → W p l e rm_M_findPaths s m ([.ref (ad o0)] : List Value).toArray below meth c H locs 0 0 (MQ below (ow_Qv G D cA ad Q) ([.ref (ad o0)] : List Value).toArray s 0 0 (ow_A G ad)) (F0 m 74 ls [])) (M : om_M) (x1 : Int32) (x2 : Int32) (H : Heap) (locs : List Loc) (ls : Array Slot), wp_M_findPaths_82 F o0 Q  K74 M x1 x2 → ow_B G D cA ad (ow_A G ad) M s s.heap H locs → lv_has ls 6 [(0, .ref (ad o0)), (1, .int x1), (2, .int x2)] → W p l e rm_M_findPaths s m ([.ref (ad o0)] : List Value).toArray below meth c H locs 0 0 (MQ below (ow_Qv G D cA ad Q) ([.ref (ad o0)] : List Value).toArray s 0 0 (ow_A G ad)) (F0 m 82 ls []) := by
    intro  K74 hK74
    have step : ∀ (k : Nat) (M : om_M) (x1 : Int32) (x2 : Int32) (H : Heap) (locs : List Loc) (ls : Array Slot), ow_lp (fun (z : om_M × Int32 × Int32) K => wp_M_findPaths_82b F o0 Q  K74 K z.1 z.2.1 z.2.2) k (M, x1, x2) → ow_B G D cA ad (ow_A G ad) M s s.heap H locs → lv_has ls 6 [(0, .ref (ad o0)), (1, .int x1), (2, .int x2)] → W p l e rm_M_findPaths s m ([.ref (ad o0)] : List Value).toArray below meth c H locs 0 0 (MQ below (ow_Qv G D cA ad Q) ([.ref (ad o0)] : List Value).toArray s 0 0 (ow_A G ad)) (F0 m 82 ls []) := by
      intro k
      induction k with
      | zero => intro M x1 x2 H locs ls h hB hl; exact False.elim h
      | succ k ih => intro M x1 x2 H locs ls h hB hl; exact B82  K74 hK74 (ow_lp _ k) (fun M x1 x2 H locs ls h hB  hl => ih M x1 x2  H locs ls h hB hl) M x1 x2 H locs ls h hB hl
    intro M x1 x2 H locs ls h hB hl
    exact step F M x1 x2 H locs ls h hB hl
  have B74 : ∀   (K74 : om_M × Int32 → Prop) (hK74 : ∀ (M : om_M) (x1 : Int32) (H : Heap) (locs : List Loc) (ls : Array Slot), K74 (M, x1) → ow_B G D cA ad (ow_A G ad) M s s.heap H locs → lv_has ls 6 [(0, .ref (ad o0)), (1, .int x1)] → W p l e rm_M_findPaths s m ([.ref (ad o0)] : List Value).toArray below meth c H locs 0 0 (MQ below (ow_Qv G D cA ad Q) ([.ref (ad o0)] : List Value).toArray s 0 0 (ow_A G ad)) (F0 m 74 ls [])) (M : om_M) (x1 : Int32) (H : Heap) (locs : List Loc) (ls : Array Slot), wp_M_findPaths_74b F o0 Q   K74 M x1 → ow_B G D cA ad (ow_A G ad) M s s.heap H locs → lv_has ls 6 [(0, .ref (ad o0)), (1, .int x1)] → W p l e rm_M_findPaths s m ([.ref (ad o0)] : List Value).toArray below meth c H locs 0 0 (MQ below (ow_Qv G D cA ad Q) ([.ref (ad o0)] : List Value).toArray s 0 0 (ow_A G ad)) (F0 m 74 ls []) := by
    intro   K74 hK74 M x1 H locs ls h hB hl
    refine lv_iload_n hx hb dc_M_findPaths_74 rfl (lv_at hl 1 rfl) ?_
    obtain ⟨h1, h2⟩ := h
    refine lv_if_eq hx hb dc_M_findPaths_75 rfl (fun hc => ?_) (fun hc => ?_)
    · have h := h1 hc
      exact ow_vret hx hb hr hlocks hB h dc_M_findPaths_225
    · have h := h2 hc
      refine lv_iconst (v := 0) hx hb dc_M_findPaths_78 rfl ?_
      refine lv_istore_n hx hb dc_M_findPaths_79 rfl hl (by decide) rfl (fun ls hl => ?_)
      refine lv_iconst (v := 0) hx hb dc_M_findPaths_80 rfl ?_
      refine lv_istore_n hx hb dc_M_findPaths_81 rfl hl (by decide) rfl (fun ls hl => ?_)
      exact L82 K74 hK74 _ _ _ _ _ _ h hB (lv_sub hl [2, 1, 0] rfl)
  have L74 : ∀   (M : om_M) (x1 : Int32) (H : Heap) (locs : List Loc) (ls : Array Slot), wp_M_findPaths_74 F o0 Q   M x1 → ow_B G D cA ad (ow_A G ad) M s s.heap H locs → lv_has ls 6 [(0, .ref (ad o0)), (1, .int x1)] → W p l e rm_M_findPaths s m ([.ref (ad o0)] : List Value).toArray below meth c H locs 0 0 (MQ below (ow_Qv G D cA ad Q) ([.ref (ad o0)] : List Value).toArray s 0 0 (ow_A G ad)) (F0 m 74 ls []) := by
    have step : ∀ (k : Nat) (M : om_M) (x1 : Int32) (H : Heap) (locs : List Loc) (ls : Array Slot), ow_lp (fun (z : om_M × Int32) K => wp_M_findPaths_74b F o0 Q   K z.1 z.2) k (M, x1) → ow_B G D cA ad (ow_A G ad) M s s.heap H locs → lv_has ls 6 [(0, .ref (ad o0)), (1, .int x1)] → W p l e rm_M_findPaths s m ([.ref (ad o0)] : List Value).toArray below meth c H locs 0 0 (MQ below (ow_Qv G D cA ad Q) ([.ref (ad o0)] : List Value).toArray s 0 0 (ow_A G ad)) (F0 m 74 ls []) := by
      intro k
      induction k with
      | zero => intro M x1 H locs ls h hB hl; exact False.elim h
      | succ k ih => intro M x1 H locs ls h hB hl; exact B74   (ow_lp _ k) (fun M x1 H locs ls h hB  hl => ih M x1  H locs ls h hB hl) M x1 H locs ls h hB hl
    intro M x1 H locs ls h hB hl
    exact step F M x1 H locs ls h hB hl
  have L72 : ∀   (M : om_M)   (H : Heap) (locs : List Loc) (ls : Array Slot), wp_M_findPaths_72 F o0 Q   M   → ow_B G D cA ad (ow_A G ad) M s s.heap H locs → lv_has ls 6 [(0, .ref (ad o0))] → W p l e rm_M_findPaths s m ([.ref (ad o0)] : List Value).toArray below meth c H locs 0 0 (MQ below (ow_Qv G D cA ad Q) ([.ref (ad o0)] : List Value).toArray s 0 0 (ow_A G ad)) (F0 m 72 ls []) := by
    intro   M H locs ls h hB hl
    refine lv_iconst (v := 1) hx hb dc_M_findPaths_72 rfl ?_
    refine lv_istore_n hx hb dc_M_findPaths_73 rfl hl (by decide) rfl (fun ls hl => ?_)
    exact L74 _ _ _ _ _ h hB (lv_sub hl [1, 0] rfl)
  have L66 : ∀  (K2 : om_M × Int32 → Prop) (hK2 : ∀ (M : om_M) (x1 : Int32) (H : Heap) (locs : List Loc) (ls : Array Slot), K2 (M, x1) → ow_B G D cA ad (ow_A G ad) M s s.heap H locs → lv_has ls 6 [(0, .ref (ad o0)), (1, .int x1)] → W p l e rm_M_findPaths s m ([.ref (ad o0)] : List Value).toArray below meth c H locs 0 0 (MQ below (ow_Qv G D cA ad Q) ([.ref (ad o0)] : List Value).toArray s 0 0 (ow_A G ad)) (F0 m 2 ls [])) (M : om_M) (x1 : Int32)  (H : Heap) (locs : List Loc) (ls : Array Slot), wp_M_findPaths_66 F o0 Q  K2 M x1  → ow_B G D cA ad (ow_A G ad) M s s.heap H locs → lv_has ls 6 [(0, .ref (ad o0)), (1, .int x1)] → W p l e rm_M_findPaths s m ([.ref (ad o0)] : List Value).toArray below meth c H locs 0 0 (MQ below (ow_Qv G D cA ad Q) ([.ref (ad o0)] : List Value).toArray s 0 0 (ow_A G ad)) (F0 m 66 ls []) := by
    intro  K2 hK2 M x1 H locs ls h hB hl
    refine lv_iinc hx hb dc_M_findPaths_66 hl (k := 1) rfl rfl (by decide) rfl (fun ls hl => ?_)
    refine lv_goto hx hb dc_M_findPaths_69 rfl ?_
    exact hK2 _ _ _ _ _ h hB (lv_sub hl [1, 0] rfl)
  have L59 : ∀ (x1 : Int32) (K2 : om_M × Int32 → Prop) (hK2 : ∀ (M : om_M) (x1 : Int32) (H : Heap) (locs : List Loc) (ls : Array Slot), K2 (M, x1) → ow_B G D cA ad (ow_A G ad) M s s.heap H locs → lv_has ls 6 [(0, .ref (ad o0)), (1, .int x1)] → W p l e rm_M_findPaths s m ([.ref (ad o0)] : List Value).toArray below meth c H locs 0 0 (MQ below (ow_Qv G D cA ad Q) ([.ref (ad o0)] : List Value).toArray s 0 0 (ow_A G ad)) (F0 m 2 ls [])) (K12 : om_M × Int32 → Prop) (hK12 : ∀ (M : om_M) (x2 : Int32) (H : Heap) (locs : List Loc) (ls : Array Slot), K12 (M, x2) → ow_B G D cA ad (ow_A G ad) M s s.heap H locs → lv_has ls 6 [(0, .ref (ad o0)), (1, .int x1), (2, .int x2)] → W p l e rm_M_findPaths s m ([.ref (ad o0)] : List Value).toArray below meth c H locs 0 0 (MQ below (ow_Qv G D cA ad Q) ([.ref (ad o0)] : List Value).toArray s 0 0 (ow_A G ad)) (F0 m 12 ls [])) (M : om_M) (x2 : Int32) (t0 : Nat) (t1 : Int32) (t2 : Int32) (kt0 : ow_kd G t0 = (0, 49)) (H : Heap) (locs : List Loc) (ls : Array Slot), wp_M_findPaths_59 F o0 Q x1 K2 K12 M x2 t0 t1 t2 → ow_B G D cA ad (ow_A G ad) M s s.heap H locs → lv_has ls 6 [(0, .ref (ad o0)), (1, .int x1), (2, .int x2)] → W p l e rm_M_findPaths s m ([.ref (ad o0)] : List Value).toArray below meth c H locs 0 0 (MQ below (ow_Qv G D cA ad Q) ([.ref (ad o0)] : List Value).toArray s 0 0 (ow_A G ad)) (F0 m 59 ls [.int t2, .int t1, .ref (ad t0)]) := by
    intro x1 K2 hK2 K12 hK12 M x2 t0 t1 t2 kt0 H locs ls h hB hl
    obtain ⟨hi4, h⟩ := h
    refine ow_iast hx hb hB kt0 hi4 dc_M_findPaths_59 (fun H locs hB => ?_)
    refine lv_iinc hx hb dc_M_findPaths_60 hl (k := 2) rfl rfl (by decide) rfl (fun ls hl => ?_)
    refine lv_goto hx hb dc_M_findPaths_63 rfl ?_
    exact hK12 _ _ _ _ _ h hB (lv_sub hl [1, 2, 0] rfl)
  have L58 : ∀ (x1 : Int32) (K2 : om_M × Int32 → Prop) (hK2 : ∀ (M : om_M) (x1 : Int32) (H : Heap) (locs : List Loc) (ls : Array Slot), K2 (M, x1) → ow_B G D cA ad (ow_A G ad) M s s.heap H locs → lv_has ls 6 [(0, .ref (ad o0)), (1, .int x1)] → W p l e rm_M_findPaths s m ([.ref (ad o0)] : List Value).toArray below meth c H locs 0 0 (MQ below (ow_Qv G D cA ad Q) ([.ref (ad o0)] : List Value).toArray s 0 0 (ow_A G ad)) (F0 m 2 ls [])) (K12 : om_M × Int32 → Prop) (hK12 : ∀ (M : om_M) (x2 : Int32) (H : Heap) (locs : List Loc) (ls : Array Slot), K12 (M, x2) → ow_B G D cA ad (ow_A G ad) M s s.heap H locs → lv_has ls 6 [(0, .ref (ad o0)), (1, .int x1), (2, .int x2)] → W p l e rm_M_findPaths s m ([.ref (ad o0)] : List Value).toArray below meth c H locs 0 0 (MQ below (ow_Qv G D cA ad Q) ([.ref (ad o0)] : List Value).toArray s 0 0 (ow_A G ad)) (F0 m 12 ls [])) (M : om_M) (x2 : Int32) (t0 : Nat) (t1 : Int32) (kt0 : ow_kd G t0 = (0, 49)) (H : Heap) (locs : List Loc) (ls : Array Slot), wp_M_findPaths_58 F o0 Q x1 K2 K12 M x2 t0 t1 → ow_B G D cA ad (ow_A G ad) M s s.heap H locs → lv_has ls 6 [(0, .ref (ad o0)), (1, .int x1), (2, .int x2)] → W p l e rm_M_findPaths s m ([.ref (ad o0)] : List Value).toArray below meth c H locs 0 0 (MQ below (ow_Qv G D cA ad Q) ([.ref (ad o0)] : List Value).toArray s 0 0 (ow_A G ad)) (F0 m 58 ls [.int t1, .ref (ad t0)]) := by
    intro x1 K2 hK2 K12 hK12 M x2 t0 t1 kt0 H locs ls h hB hl
    refine lv_iconst (v := 0) hx hb dc_M_findPaths_58 rfl ?_
    exact L59 _ K2 hK2 K12 hK12 _ _ _ _ _ kt0 _ _ _ h hB (lv_sub hl [0, 1, 2] rfl)
  have B12 : ∀ (x1 : Int32) (K2 : om_M × Int32 → Prop) (hK2 : ∀ (M : om_M) (x1 : Int32) (H : Heap) (locs : List Loc) (ls : Array Slot), K2 (M, x1) → ow_B G D cA ad (ow_A G ad) M s s.heap H locs → lv_has ls 6 [(0, .ref (ad o0)), (1, .int x1)] → W p l e rm_M_findPaths s m ([.ref (ad o0)] : List Value).toArray below meth c H locs 0 0 (MQ below (ow_Qv G D cA ad Q) ([.ref (ad o0)] : List Value).toArray s 0 0 (ow_A G ad)) (F0 m 2 ls [])) (K12 : om_M × Int32 → Prop) (hK12 : ∀ (M : om_M) (x2 : Int32) (H : Heap) (locs : List Loc) (ls : Array Slot), K12 (M, x2) → ow_B G D cA ad (ow_A G ad) M s s.heap H locs → lv_has ls 6 [(0, .ref (ad o0)), (1, .int x1), (2, .int x2)] → W p l e rm_M_findPaths s m ([.ref (ad o0)] : List Value).toArray below meth c H locs 0 0 (MQ below (ow_Qv G D cA ad Q) ([.ref (ad o0)] : List Value).toArray s 0 0 (ow_A G ad)) (F0 m 12 ls [])) (M : om_M) (x2 : Int32) (H : Heap) (locs : List Loc) (ls : Array Slot), wp_M_findPaths_12b F o0 Q x1 K2 K12 M x2 → ow_B G D cA ad (ow_A G ad) M s s.heap H locs → lv_has ls 6 [(0, .ref (ad o0)), (1, .int x1), (2, .int x2)] → W p l e rm_M_findPaths s m ([.ref (ad o0)] : List Value).toArray below meth c H locs 0 0 (MQ below (ow_Qv G D cA ad Q) ([.ref (ad o0)] : List Value).toArray s 0 0 (ow_A G ad)) (F0 m 12 ls []) := by
    intro x1 K2 hK2 K12 hK12 M x2 H locs ls h hB hl
    refine lv_iload_n hx hb dc_M_findPaths_12 rfl (lv_at hl 2 rfl) ?_
    refine lv_aload_n hx hb dc_M_findPaths_13 rfl (lv_at hl 0 rfl) ?_
    refine ow_get hx hb hts iw_M hown hB k0 rfl 8 (by decide) mw_805 rfl dc_M_findPaths_14 ?_
    obtain ⟨h1, h2⟩ := h
    refine lv_icmp_ge hx hb dc_M_findPaths_17 rfl (fun hc => ?_) (fun hc => ?_)
    · have h := h1 hc
      exact L66 K2 hK2 _ _ _ _ _ h hB (lv_sub hl [0, 1] rfl)
    · have h := h2 hc
      refine lv_aload_n hx hb dc_M_findPaths_20 rfl (lv_at hl 0 rfl) ?_
      refine ow_get hx hb hts iw_M hown hB k0 rfl 16 (by decide) mw_813 rfl dc_M_findPaths_21 ?_
      refine lv_bipush (v := 7) hx hb dc_M_findPaths_24 rfl ?_
      refine lv_iload_n hx hb dc_M_findPaths_26 rfl (lv_at hl 1 rfl) ?_
      refine lv_imul hx hb dc_M_findPaths_27 ?_
      refine lv_iload_n hx hb dc_M_findPaths_28 rfl (lv_at hl 2 rfl) ?_
      refine lv_iadd hx hb dc_M_findPaths_29 ?_
      refine lv_iload_n hx hb dc_M_findPaths_30 rfl (lv_at hl 1 rfl) ?_
      refine lv_iload_n hx hb dc_M_findPaths_31 rfl (lv_at hl 2 rfl) ?_
      obtain ⟨h1, h2⟩ := h
      refine lv_icmp_eq hx hb dc_M_findPaths_32 rfl (fun hc => ?_) (fun hc => ?_)
      · have h := h1 hc
        exact L58 _ K2 hK2 K12 hK12 _ _ _ _ (ly_M_paths hG k0) _ _ _ h hB (lv_sub hl [0, 1, 2] rfl)
      · have h := h2 hc
        refine lv_aload_n hx hb dc_M_findPaths_35 rfl (lv_at hl 0 rfl) ?_
        refine lv_iload_n hx hb dc_M_findPaths_36 rfl (lv_at hl 1 rfl) ?_
        refine lv_iload_n hx hb dc_M_findPaths_37 rfl (lv_at hl 2 rfl) ?_
        refine ow_calli (va_runV (As := [.int x1, .int x2]) (rest := [.int (((7 : Int32) * x1) + x2), .ref (ad (o0 + 12))]) ⟨hx, hb, hml, hown, hts⟩ (ct_M_beats l G hG D cA ad F _ k0 _ _ _ _ h) ⟨ow_cb 2 hts mw_969 mw_12 mw_966 rfl rfl hd_M_beats ⟨Nat.le_of_ble_eq_true rfl, Nat.le_of_ble_eq_true rfl⟩, hts _ mw_968, hts _ ms_31⟩ (ow_preV hB k0 rfl) rfl rfl hl.1 rfl (lv_room (Nat.le_of_ble_eq_true rfl)) dc_M_findPaths_38 ⟨Nat.zero_le _, Nat.zero_le _⟩) hB (fun r6 M5 H locs h hB => ?_)
        obtain ⟨h1, h2⟩ := h
        refine lv_if_eq hx hb dc_M_findPaths_41 rfl (fun hc => ?_) (fun hc => ?_)
        · have h := h1 hc
          exact L58 _ K2 hK2 K12 hK12 _ _ _ _ (ly_M_paths hG k0) _ _ _ h hB (lv_sub hl [0, 1, 2] rfl)
        · have h := h2 hc
          refine lv_aload_n hx hb dc_M_findPaths_44 rfl (lv_at hl 0 rfl) ?_
          refine ow_get hx hb hts iw_M hown hB k0 rfl 15 (by decide) mw_812 rfl dc_M_findPaths_45 ?_
          refine lv_bipush (v := 7) hx hb dc_M_findPaths_48 rfl ?_
          refine lv_iload_n hx hb dc_M_findPaths_50 rfl (lv_at hl 1 rfl) ?_
          refine lv_imul hx hb dc_M_findPaths_51 ?_
          refine lv_iload_n hx hb dc_M_findPaths_52 rfl (lv_at hl 2 rfl) ?_
          refine lv_iadd hx hb dc_M_findPaths_53 ?_
          obtain ⟨hi7, h⟩ := h
          refine ow_iald hx hb hB (ly_M_pairs hG k0) hi7 dc_M_findPaths_54 ?_
          refine lv_goto hx hb dc_M_findPaths_55 rfl ?_
          exact L59 _ K2 hK2 K12 hK12 _ _ _ _ _ (ly_M_paths hG k0) _ _ _ h hB (lv_sub hl [0, 1, 2] rfl)
  have L12 : ∀ (x1 : Int32) (K2 : om_M × Int32 → Prop) (hK2 : ∀ (M : om_M) (x1 : Int32) (H : Heap) (locs : List Loc) (ls : Array Slot), K2 (M, x1) → ow_B G D cA ad (ow_A G ad) M s s.heap H locs → lv_has ls 6 [(0, .ref (ad o0)), (1, .int x1)] → W p l e rm_M_findPaths s m ([.ref (ad o0)] : List Value).toArray below meth c H locs 0 0 (MQ below (ow_Qv G D cA ad Q) ([.ref (ad o0)] : List Value).toArray s 0 0 (ow_A G ad)) (F0 m 2 ls [])) (M : om_M) (x2 : Int32) (H : Heap) (locs : List Loc) (ls : Array Slot), wp_M_findPaths_12 F o0 Q x1 K2 M x2 → ow_B G D cA ad (ow_A G ad) M s s.heap H locs → lv_has ls 6 [(0, .ref (ad o0)), (1, .int x1), (2, .int x2)] → W p l e rm_M_findPaths s m ([.ref (ad o0)] : List Value).toArray below meth c H locs 0 0 (MQ below (ow_Qv G D cA ad Q) ([.ref (ad o0)] : List Value).toArray s 0 0 (ow_A G ad)) (F0 m 12 ls []) := by
    intro x1 K2 hK2
    have step : ∀ (k : Nat) (M : om_M) (x2 : Int32) (H : Heap) (locs : List Loc) (ls : Array Slot), ow_lp (fun (z : om_M × Int32) K => wp_M_findPaths_12b F o0 Q x1 K2 K z.1 z.2) k (M, x2) → ow_B G D cA ad (ow_A G ad) M s s.heap H locs → lv_has ls 6 [(0, .ref (ad o0)), (1, .int x1), (2, .int x2)] → W p l e rm_M_findPaths s m ([.ref (ad o0)] : List Value).toArray below meth c H locs 0 0 (MQ below (ow_Qv G D cA ad Q) ([.ref (ad o0)] : List Value).toArray s 0 0 (ow_A G ad)) (F0 m 12 ls []) := by
      intro k
      induction k with
      | zero => intro M x2 H locs ls h hB hl; exact False.elim h
      | succ k ih => intro M x2 H locs ls h hB hl; exact B12 x1 K2 hK2 (ow_lp _ k) (fun M x2 H locs ls h hB  hl => ih M x2  H locs ls h hB hl) M x2 H locs ls h hB hl
    intro M x2 H locs ls h hB hl
    exact step F M x2 H locs ls h hB hl
  have B2 : ∀   (K2 : om_M × Int32 → Prop) (hK2 : ∀ (M : om_M) (x1 : Int32) (H : Heap) (locs : List Loc) (ls : Array Slot), K2 (M, x1) → ow_B G D cA ad (ow_A G ad) M s s.heap H locs → lv_has ls 6 [(0, .ref (ad o0)), (1, .int x1)] → W p l e rm_M_findPaths s m ([.ref (ad o0)] : List Value).toArray below meth c H locs 0 0 (MQ below (ow_Qv G D cA ad Q) ([.ref (ad o0)] : List Value).toArray s 0 0 (ow_A G ad)) (F0 m 2 ls [])) (M : om_M) (x1 : Int32) (H : Heap) (locs : List Loc) (ls : Array Slot), wp_M_findPaths_2b F o0 Q   K2 M x1 → ow_B G D cA ad (ow_A G ad) M s s.heap H locs → lv_has ls 6 [(0, .ref (ad o0)), (1, .int x1)] → W p l e rm_M_findPaths s m ([.ref (ad o0)] : List Value).toArray below meth c H locs 0 0 (MQ below (ow_Qv G D cA ad Q) ([.ref (ad o0)] : List Value).toArray s 0 0 (ow_A G ad)) (F0 m 2 ls []) := by
    intro   K2 hK2 M x1 H locs ls h hB hl
    refine lv_iload_n hx hb dc_M_findPaths_2 rfl (lv_at hl 1 rfl) ?_
    refine lv_aload_n hx hb dc_M_findPaths_3 rfl (lv_at hl 0 rfl) ?_
    refine ow_get hx hb hts iw_M hown hB k0 rfl 8 (by decide) mw_805 rfl dc_M_findPaths_4 ?_
    obtain ⟨h1, h2⟩ := h
    refine lv_icmp_ge hx hb dc_M_findPaths_7 rfl (fun hc => ?_) (fun hc => ?_)
    · have h := h1 hc
      exact L72 _ _ _ _ h hB (lv_sub hl [0] rfl)
    · have h := h2 hc
      refine lv_iconst (v := 0) hx hb dc_M_findPaths_10 rfl ?_
      refine lv_istore_n hx hb dc_M_findPaths_11 rfl hl (by decide) rfl (fun ls hl => ?_)
      exact L12 _ K2 hK2 _ _ _ _ _ h hB (lv_sub hl [1, 2, 0] rfl)
  have L2 : ∀   (M : om_M) (x1 : Int32) (H : Heap) (locs : List Loc) (ls : Array Slot), wp_M_findPaths_2 F o0 Q   M x1 → ow_B G D cA ad (ow_A G ad) M s s.heap H locs → lv_has ls 6 [(0, .ref (ad o0)), (1, .int x1)] → W p l e rm_M_findPaths s m ([.ref (ad o0)] : List Value).toArray below meth c H locs 0 0 (MQ below (ow_Qv G D cA ad Q) ([.ref (ad o0)] : List Value).toArray s 0 0 (ow_A G ad)) (F0 m 2 ls []) := by
    have step : ∀ (k : Nat) (M : om_M) (x1 : Int32) (H : Heap) (locs : List Loc) (ls : Array Slot), ow_lp (fun (z : om_M × Int32) K => wp_M_findPaths_2b F o0 Q   K z.1 z.2) k (M, x1) → ow_B G D cA ad (ow_A G ad) M s s.heap H locs → lv_has ls 6 [(0, .ref (ad o0)), (1, .int x1)] → W p l e rm_M_findPaths s m ([.ref (ad o0)] : List Value).toArray below meth c H locs 0 0 (MQ below (ow_Qv G D cA ad Q) ([.ref (ad o0)] : List Value).toArray s 0 0 (ow_A G ad)) (F0 m 2 ls []) := by
      intro k
      induction k with
      | zero => intro M x1 H locs ls h hB hl; exact False.elim h
      | succ k ih => intro M x1 H locs ls h hB hl; exact B2   (ow_lp _ k) (fun M x1 H locs ls h hB  hl => ih M x1  H locs ls h hB hl) M x1 H locs ls h hB hl
    intro M x1 H locs ls h hB hl
    exact step F M x1 H locs ls h hB hl
  have hl := lv_entry ([.ref (ad o0)]) (n := 6) (Nat.le_of_ble_eq_true rfl)
  rw [lg_entry_eq]
  generalize (lg_sl ([.ref (ad o0)]) ++ List.replicate (6 - (lg_sl ([.ref (ad o0)])).length) Slot.unset).toArray = ls at hl ⊢
  have hl : lv_has ls 6 [(0, .ref (ad o0))] := hl
  show W p l e rm_M_findPaths s m _ below meth c s.heap [] 0 0 _ _
  refine lv_iconst (v := 0) hx hb dc_M_findPaths_0 rfl ?_
  refine lv_istore_n hx hb dc_M_findPaths_1 rfl hl (by decide) rfl (fun ls hl => ?_)
  exact L2 _ _ _ _ _ h hB (lv_sub hl [1, 0] rfl)
abbrev rm_M_pathWinners : Room := { frames := 2, cells := 0, slots := 0, locals := 47 }
theorem hd_M_pathWinners : yn_M_pathWinners.cls ≠ "java/lang/invoke/MethodHandle" ∧ yn_M_pathWinners.cls ≠ "java/lang/invoke/VarHandle" ∧ (parseMethodDescriptor yn_M_pathWinners.desc).map (fun d => d.parameters.length) = some 0 := by decide +kernel
set_option maxHeartbeats 4000000 in
set_option maxRecDepth 100000 in
theorem ct_M_pathWinners (l : Launch) (G : List (Nat × Nat)) (hG : ow_lay G) (D : va_G) (cA : Nat → ClassId) (ad : Nat → Nat) (F : Nat) (o0 : Nat) (k0 : ow_kd G o0 = (3, 9)) (M : om_M) (Q : Int32 → om_M → Prop) (h : wp_M_pathWinners F o0 M Q) : Met l yn_M_pathWinners (ow_ws yn_M_pathWinners cb_M_pathWinners 5 (some .int)) rm_M_pathWinners (ow_Pc G D cA ad M [.ref (ad o0)]) (ow_Qi G D cA ad Q) 0 0 (ow_A G ad) := by
  refine Met.ofW (cc := cb_M_pathWinners) (maxL := 5) (ret := (some .int)) (by decide) rfl ?_
  intro p e s m args below meth c s₁ B hml hv
  obtain ⟨rfl, hB⟩ := hv
  have hx := B.exec
  have hb := B.bytes
  have hr := B.returns
  have hlocks := B.notSynchronized
  have hts : ∀ w ∈ lw_g, w.before ([.ref (ad o0)] : List Value).toArray s = true := fun w h => atoms_spec (ws := ow_ws yn_M_pathWinners cb_M_pathWinners 5 (some .int)) B.pre w (List.mem_cons_of_mem _ h)
  have hown : s.vm.findClass "BallotDeskModel" = some m.cls := findClass_of_methodNamed B.named
  clear B
  have L92 : ∀  (K8 : om_M × Int32 × Int32 → Prop) (hK8 : ∀ (M : om_M) (x1 : Int32) (x2 : Int32) (H : Heap) (locs : List Loc) (ls : Array Slot), K8 (M, x1, x2) → ow_B G D cA ad (ow_A G ad) M s s.heap H locs → lv_has ls 5 [(0, .ref (ad o0)), (1, .int x1), (2, .int x2)] → W p l e rm_M_pathWinners s m ([.ref (ad o0)] : List Value).toArray below meth c H locs 0 0 (MQ below (ow_Qi G D cA ad Q) ([.ref (ad o0)] : List Value).toArray s 0 0 (ow_A G ad)) (F0 m 8 ls [])) (M : om_M) (x2 : Int32) (t0 : Int32) (H : Heap) (locs : List Loc) (ls : Array Slot), wp_M_pathWinners_92 F o0 Q  K8 M x2 t0 → ow_B G D cA ad (ow_A G ad) M s s.heap H locs → lv_has ls 5 [(0, .ref (ad o0)), (2, .int x2)] → W p l e rm_M_pathWinners s m ([.ref (ad o0)] : List Value).toArray below meth c H locs 0 0 (MQ below (ow_Qi G D cA ad Q) ([.ref (ad o0)] : List Value).toArray s 0 0 (ow_A G ad)) (F0 m 92 ls [.int t0]) := by
    intro  K8 hK8 M x2 t0 H locs ls h hB hl
    refine lv_istore_n hx hb dc_M_pathWinners_92 rfl hl (by decide) rfl (fun ls hl => ?_)
    refine lv_iinc hx hb dc_M_pathWinners_93 hl (k := 2) rfl rfl (by decide) rfl (fun ls hl => ?_)
    refine lv_goto hx hb dc_M_pathWinners_96 rfl ?_
    exact hK8 _ _ _ _ _ _ h hB (lv_sub hl [2, 1, 0] rfl)
  have L79 : ∀  (K8 : om_M × Int32 × Int32 → Prop) (hK8 : ∀ (M : om_M) (x1 : Int32) (x2 : Int32) (H : Heap) (locs : List Loc) (ls : Array Slot), K8 (M, x1, x2) → ow_B G D cA ad (ow_A G ad) M s s.heap H locs → lv_has ls 5 [(0, .ref (ad o0)), (1, .int x1), (2, .int x2)] → W p l e rm_M_pathWinners s m ([.ref (ad o0)] : List Value).toArray below meth c H locs 0 0 (MQ below (ow_Qi G D cA ad Q) ([.ref (ad o0)] : List Value).toArray s 0 0 (ow_A G ad)) (F0 m 8 ls [])) (M : om_M) (x1 : Int32) (x2 : Int32) (x3 : Int32)  (H : Heap) (locs : List Loc) (ls : Array Slot), wp_M_pathWinners_79 F o0 Q  K8 M x1 x2 x3  → ow_B G D cA ad (ow_A G ad) M s s.heap H locs → lv_has ls 5 [(0, .ref (ad o0)), (1, .int x1), (2, .int x2), (3, .int x3)] → W p l e rm_M_pathWinners s m ([.ref (ad o0)] : List Value).toArray below meth c H locs 0 0 (MQ below (ow_Qi G D cA ad Q) ([.ref (ad o0)] : List Value).toArray s 0 0 (ow_A G ad)) (F0 m 79 ls []) := by
    intro  K8 hK8 M x1 x2 x3 H locs ls h hB hl
    refine lv_iload_n hx hb dc_M_pathWinners_79 rfl (lv_at hl 3 rfl) ?_
    obtain ⟨h1, h2⟩ := h
    refine lv_if_eq hx hb dc_M_pathWinners_80 rfl (fun hc => ?_) (fun hc => ?_)
    · have h := h1 hc
      refine lv_iload_n hx hb dc_M_pathWinners_91 rfl (lv_at hl 1 rfl) ?_
      exact L92 K8 hK8 _ _ _ _ _ _ h hB (lv_sub hl [0, 2] rfl)
    · have h := h2 hc
      refine lv_iload_n hx hb dc_M_pathWinners_83 rfl (lv_at hl 1 rfl) ?_
      refine lv_iconst (v := 1) hx hb dc_M_pathWinners_84 rfl ?_
      refine lv_iload_n hx hb dc_M_pathWinners_85 rfl (lv_at hl 2 rfl) ?_
      refine lv_ishl hx hb dc_M_pathWinners_86 ?_
      refine lv_ior hx hb dc_M_pathWinners_87 ?_
      refine lv_goto hx hb dc_M_pathWinners_88 rfl ?_
      exact L92 K8 hK8 _ _ _ _ _ _ h hB (lv_sub hl [0, 2] rfl)
  have L72 : ∀ (x1 : Int32) (x2 : Int32) (K8 : om_M × Int32 × Int32 → Prop) (hK8 : ∀ (M : om_M) (x1 : Int32) (x2 : Int32) (H : Heap) (locs : List Loc) (ls : Array Slot), K8 (M, x1, x2) → ow_B G D cA ad (ow_A G ad) M s s.heap H locs → lv_has ls 5 [(0, .ref (ad o0)), (1, .int x1), (2, .int x2)] → W p l e rm_M_pathWinners s m ([.ref (ad o0)] : List Value).toArray below meth c H locs 0 0 (MQ below (ow_Qi G D cA ad Q) ([.ref (ad o0)] : List Value).toArray s 0 0 (ow_A G ad)) (F0 m 8 ls [])) (K21 : om_M × Int32 × Int32 → Prop) (hK21 : ∀ (M : om_M) (x3 : Int32) (x4 : Int32) (H : Heap) (locs : List Loc) (ls : Array Slot), K21 (M, x3, x4) → ow_B G D cA ad (ow_A G ad) M s s.heap H locs → lv_has ls 5 [(0, .ref (ad o0)), (1, .int x1), (2, .int x2), (3, .int x3), (4, .int x4)] → W p l e rm_M_pathWinners s m ([.ref (ad o0)] : List Value).toArray below meth c H locs 0 0 (MQ below (ow_Qi G D cA ad Q) ([.ref (ad o0)] : List Value).toArray s 0 0 (ow_A G ad)) (F0 m 21 ls [])) (M : om_M) (x4 : Int32) (t0 : Int32) (H : Heap) (locs : List Loc) (ls : Array Slot), wp_M_pathWinners_72 F o0 Q x1 x2 K8 K21 M x4 t0 → ow_B G D cA ad (ow_A G ad) M s s.heap H locs → lv_has ls 5 [(0, .ref (ad o0)), (1, .int x1), (2, .int x2), (4, .int x4)] → W p l e rm_M_pathWinners s m ([.ref (ad o0)] : List Value).toArray below meth c H locs 0 0 (MQ below (ow_Qi G D cA ad Q) ([.ref (ad o0)] : List Value).toArray s 0 0 (ow_A G ad)) (F0 m 72 ls [.int t0]) := by
    intro x1 x2 K8 hK8 K21 hK21 M x4 t0 H locs ls h hB hl
    refine lv_istore_n hx hb dc_M_pathWinners_72 rfl hl (by decide) rfl (fun ls hl => ?_)
    refine lv_iinc hx hb dc_M_pathWinners_73 hl (k := 4) rfl rfl (by decide) rfl (fun ls hl => ?_)
    refine lv_goto hx hb dc_M_pathWinners_76 rfl ?_
    exact hK21 _ _ _ _ _ _ h hB (lv_sub hl [2, 3, 4, 1, 0] rfl)
  have L71 : ∀ (x1 : Int32) (x2 : Int32) (K8 : om_M × Int32 × Int32 → Prop) (hK8 : ∀ (M : om_M) (x1 : Int32) (x2 : Int32) (H : Heap) (locs : List Loc) (ls : Array Slot), K8 (M, x1, x2) → ow_B G D cA ad (ow_A G ad) M s s.heap H locs → lv_has ls 5 [(0, .ref (ad o0)), (1, .int x1), (2, .int x2)] → W p l e rm_M_pathWinners s m ([.ref (ad o0)] : List Value).toArray below meth c H locs 0 0 (MQ below (ow_Qi G D cA ad Q) ([.ref (ad o0)] : List Value).toArray s 0 0 (ow_A G ad)) (F0 m 8 ls [])) (K21 : om_M × Int32 × Int32 → Prop) (hK21 : ∀ (M : om_M) (x3 : Int32) (x4 : Int32) (H : Heap) (locs : List Loc) (ls : Array Slot), K21 (M, x3, x4) → ow_B G D cA ad (ow_A G ad) M s s.heap H locs → lv_has ls 5 [(0, .ref (ad o0)), (1, .int x1), (2, .int x2), (3, .int x3), (4, .int x4)] → W p l e rm_M_pathWinners s m ([.ref (ad o0)] : List Value).toArray below meth c H locs 0 0 (MQ below (ow_Qi G D cA ad Q) ([.ref (ad o0)] : List Value).toArray s 0 0 (ow_A G ad)) (F0 m 21 ls [])) (M : om_M) (x4 : Int32)  (H : Heap) (locs : List Loc) (ls : Array Slot), wp_M_pathWinners_71 F o0 Q x1 x2 K8 K21 M x4  → ow_B G D cA ad (ow_A G ad) M s s.heap H locs → lv_has ls 5 [(0, .ref (ad o0)), (1, .int x1), (2, .int x2), (4, .int x4)] → W p l e rm_M_pathWinners s m ([.ref (ad o0)] : List Value).toArray below meth c H locs 0 0 (MQ below (ow_Qi G D cA ad Q) ([.ref (ad o0)] : List Value).toArray s 0 0 (ow_A G ad)) (F0 m 71 ls []) := by
    intro x1 x2 K8 hK8 K21 hK21 M x4 H locs ls h hB hl
    refine lv_iconst (v := 0) hx hb dc_M_pathWinners_71 rfl ?_
    exact L72 _ _ K8 hK8 K21 hK21 _ _ _ _ _ _ h hB (lv_sub hl [0, 1, 2, 3] rfl)
  have L67 : ∀ (x1 : Int32) (x2 : Int32) (K8 : om_M × Int32 × Int32 → Prop) (hK8 : ∀ (M : om_M) (x1 : Int32) (x2 : Int32) (H : Heap) (locs : List Loc) (ls : Array Slot), K8 (M, x1, x2) → ow_B G D cA ad (ow_A G ad) M s s.heap H locs → lv_has ls 5 [(0, .ref (ad o0)), (1, .int x1), (2, .int x2)] → W p l e rm_M_pathWinners s m ([.ref (ad o0)] : List Value).toArray below meth c H locs 0 0 (MQ below (ow_Qi G D cA ad Q) ([.ref (ad o0)] : List Value).toArray s 0 0 (ow_A G ad)) (F0 m 8 ls [])) (K21 : om_M × Int32 × Int32 → Prop) (hK21 : ∀ (M : om_M) (x3 : Int32) (x4 : Int32) (H : Heap) (locs : List Loc) (ls : Array Slot), K21 (M, x3, x4) → ow_B G D cA ad (ow_A G ad) M s s.heap H locs → lv_has ls 5 [(0, .ref (ad o0)), (1, .int x1), (2, .int x2), (3, .int x3), (4, .int x4)] → W p l e rm_M_pathWinners s m ([.ref (ad o0)] : List Value).toArray below meth c H locs 0 0 (MQ below (ow_Qi G D cA ad Q) ([.ref (ad o0)] : List Value).toArray s 0 0 (ow_A G ad)) (F0 m 21 ls [])) (M : om_M) (x4 : Int32)  (H : Heap) (locs : List Loc) (ls : Array Slot), wp_M_pathWinners_67 F o0 Q x1 x2 K8 K21 M x4  → ow_B G D cA ad (ow_A G ad) M s s.heap H locs → lv_has ls 5 [(0, .ref (ad o0)), (1, .int x1), (2, .int x2), (4, .int x4)] → W p l e rm_M_pathWinners s m ([.ref (ad o0)] : List Value).toArray below meth c H locs 0 0 (MQ below (ow_Qi G D cA ad Q) ([.ref (ad o0)] : List Value).toArray s 0 0 (ow_A G ad)) (F0 m 67 ls []) := by
    intro x1 x2 K8 hK8 K21 hK21 M x4 H locs ls h hB hl
    refine lv_iconst (v := 1) hx hb dc_M_pathWinners_67 rfl ?_
    refine lv_goto hx hb dc_M_pathWinners_68 rfl ?_
    exact L72 _ _ K8 hK8 K21 hK21 _ _ _ _ _ _ h hB (lv_sub hl [0, 1, 2, 3] rfl)
  have B21 : ∀ (x1 : Int32) (x2 : Int32) (K8 : om_M × Int32 × Int32 → Prop) (hK8 : ∀ (M : om_M) (x1 : Int32) (x2 : Int32) (H : Heap) (locs : List Loc) (ls : Array Slot), K8 (M, x1, x2) → ow_B G D cA ad (ow_A G ad) M s s.heap H locs → lv_has ls 5 [(0, .ref (ad o0)), (1, .int x1), (2, .int x2)] → W p l e rm_M_pathWinners s m ([.ref (ad o0)] : List Value).toArray below meth c H locs 0 0 (MQ below (ow_Qi G D cA ad Q) ([.ref (ad o0)] : List Value).toArray s 0 0 (ow_A G ad)) (F0 m 8 ls [])) (K21 : om_M × Int32 × Int32 → Prop) (hK21 : ∀ (M : om_M) (x3 : Int32) (x4 : Int32) (H : Heap) (locs : List Loc) (ls : Array Slot), K21 (M, x3, x4) → ow_B G D cA ad (ow_A G ad) M s s.heap H locs → lv_has ls 5 [(0, .ref (ad o0)), (1, .int x1), (2, .int x2), (3, .int x3), (4, .int x4)] → W p l e rm_M_pathWinners s m ([.ref (ad o0)] : List Value).toArray below meth c H locs 0 0 (MQ below (ow_Qi G D cA ad Q) ([.ref (ad o0)] : List Value).toArray s 0 0 (ow_A G ad)) (F0 m 21 ls [])) (M : om_M) (x3 : Int32) (x4 : Int32) (H : Heap) (locs : List Loc) (ls : Array Slot), wp_M_pathWinners_21b F o0 Q x1 x2 K8 K21 M x3 x4 → ow_B G D cA ad (ow_A G ad) M s s.heap H locs → lv_has ls 5 [(0, .ref (ad o0)), (1, .int x1), (2, .int x2), (3, .int x3), (4, .int x4)] → W p l e rm_M_pathWinners s m ([.ref (ad o0)] : List Value).toArray below meth c H locs 0 0 (MQ below (ow_Qi G D cA ad Q) ([.ref (ad o0)] : List Value).toArray s 0 0 (ow_A G ad)) (F0 m 21 ls []) := by
    intro x1 x2 K8 hK8 K21 hK21 M x3 x4 H locs ls h hB hl
    refine lv_iload hx hb dc_M_pathWinners_21 (lv_at hl 4 rfl) ?_
    refine lv_aload_n hx hb dc_M_pathWinners_23 rfl (lv_at hl 0 rfl) ?_
    refine ow_get hx hb hts iw_M hown hB k0 rfl 8 (by decide) mw_805 rfl dc_M_pathWinners_24 ?_
    obtain ⟨h1, h2⟩ := h
    refine lv_icmp_ge hx hb dc_M_pathWinners_27 rfl (fun hc => ?_) (fun hc => ?_)
    · have h := h1 hc
      exact L79 K8 hK8 _ _ _ _ _ _ _ h hB (lv_sub hl [0, 1, 2, 3] rfl)
    · have h := h2 hc
      refine lv_iload_n hx hb dc_M_pathWinners_30 rfl (lv_at hl 3 rfl) ?_
      obtain ⟨h1, h2⟩ := h
      refine lv_if_eq hx hb dc_M_pathWinners_31 rfl (fun hc => ?_) (fun hc => ?_)
      · have h := h1 hc
        exact L71 _ _ K8 hK8 K21 hK21 _ _ _ _ _ h hB (lv_sub hl [0, 1, 2, 4] rfl)
      · have h := h2 hc
        refine lv_iload_n hx hb dc_M_pathWinners_34 rfl (lv_at hl 2 rfl) ?_
        refine lv_iload hx hb dc_M_pathWinners_35 (lv_at hl 4 rfl) ?_
        obtain ⟨h1, h2⟩ := h
        refine lv_icmp_eq hx hb dc_M_pathWinners_37 rfl (fun hc => ?_) (fun hc => ?_)
        · have h := h1 hc
          exact L67 _ _ K8 hK8 K21 hK21 _ _ _ _ _ h hB (lv_sub hl [0, 1, 2, 4] rfl)
        · have h := h2 hc
          refine lv_aload_n hx hb dc_M_pathWinners_40 rfl (lv_at hl 0 rfl) ?_
          refine ow_get hx hb hts iw_M hown hB k0 rfl 16 (by decide) mw_813 rfl dc_M_pathWinners_41 ?_
          refine lv_bipush (v := 7) hx hb dc_M_pathWinners_44 rfl ?_
          refine lv_iload_n hx hb dc_M_pathWinners_46 rfl (lv_at hl 2 rfl) ?_
          refine lv_imul hx hb dc_M_pathWinners_47 ?_
          refine lv_iload hx hb dc_M_pathWinners_48 (lv_at hl 4 rfl) ?_
          refine lv_iadd hx hb dc_M_pathWinners_50 ?_
          obtain ⟨hi1, h⟩ := h
          refine ow_iald hx hb hB (ly_M_paths hG k0) hi1 dc_M_pathWinners_51 ?_
          refine lv_aload_n hx hb dc_M_pathWinners_52 rfl (lv_at hl 0 rfl) ?_
          refine ow_get hx hb hts iw_M hown hB k0 rfl 16 (by decide) mw_813 rfl dc_M_pathWinners_53 ?_
          refine lv_bipush (v := 7) hx hb dc_M_pathWinners_56 rfl ?_
          refine lv_iload hx hb dc_M_pathWinners_58 (lv_at hl 4 rfl) ?_
          refine lv_imul hx hb dc_M_pathWinners_60 ?_
          refine lv_iload_n hx hb dc_M_pathWinners_61 rfl (lv_at hl 2 rfl) ?_
          refine lv_iadd hx hb dc_M_pathWinners_62 ?_
          obtain ⟨hi2, h⟩ := h
          refine ow_iald hx hb hB (ly_M_paths hG k0) hi2 dc_M_pathWinners_63 ?_
          obtain ⟨h1, h2⟩ := h
          refine lv_icmp_lt hx hb dc_M_pathWinners_64 rfl (fun hc => ?_) (fun hc => ?_)
          · have h := h1 hc
            exact L71 _ _ K8 hK8 K21 hK21 _ _ _ _ _ h hB (lv_sub hl [0, 1, 2, 4] rfl)
          · have h := h2 hc
            exact L67 _ _ K8 hK8 K21 hK21 _ _ _ _ _ h hB (lv_sub hl [0, 1, 2, 4] rfl)
  have L21 : ∀ (x1 : Int32) (x2 : Int32) (K8 : om_M × Int32 × Int32 → Prop) (hK8 : ∀ (M : om_M) (x1 : Int32) (x2 : Int32) (H : Heap) (locs : List Loc) (ls : Array Slot), K8 (M, x1, x2) → ow_B G D cA ad (ow_A G ad) M s s.heap H locs → lv_has ls 5 [(0, .ref (ad o0)), (1, .int x1), (2, .int x2)] → W p l e rm_M_pathWinners s m ([.ref (ad o0)] : List Value).toArray below meth c H locs 0 0 (MQ below (ow_Qi G D cA ad Q) ([.ref (ad o0)] : List Value).toArray s 0 0 (ow_A G ad)) (F0 m 8 ls [])) (M : om_M) (x3 : Int32) (x4 : Int32) (H : Heap) (locs : List Loc) (ls : Array Slot), wp_M_pathWinners_21 F o0 Q x1 x2 K8 M x3 x4 → ow_B G D cA ad (ow_A G ad) M s s.heap H locs → lv_has ls 5 [(0, .ref (ad o0)), (1, .int x1), (2, .int x2), (3, .int x3), (4, .int x4)] → W p l e rm_M_pathWinners s m ([.ref (ad o0)] : List Value).toArray below meth c H locs 0 0 (MQ below (ow_Qi G D cA ad Q) ([.ref (ad o0)] : List Value).toArray s 0 0 (ow_A G ad)) (F0 m 21 ls []) := by
    intro x1 x2 K8 hK8
    have step : ∀ (k : Nat) (M : om_M) (x3 : Int32) (x4 : Int32) (H : Heap) (locs : List Loc) (ls : Array Slot), ow_lp (fun (z : om_M × Int32 × Int32) K => wp_M_pathWinners_21b F o0 Q x1 x2 K8 K z.1 z.2.1 z.2.2) k (M, x3, x4) → ow_B G D cA ad (ow_A G ad) M s s.heap H locs → lv_has ls 5 [(0, .ref (ad o0)), (1, .int x1), (2, .int x2), (3, .int x3), (4, .int x4)] → W p l e rm_M_pathWinners s m ([.ref (ad o0)] : List Value).toArray below meth c H locs 0 0 (MQ below (ow_Qi G D cA ad Q) ([.ref (ad o0)] : List Value).toArray s 0 0 (ow_A G ad)) (F0 m 21 ls []) := by
      intro k
      induction k with
      | zero => intro M x3 x4 H locs ls h hB hl; exact False.elim h
      | succ k ih => intro M x3 x4 H locs ls h hB hl; exact B21 x1 x2 K8 hK8 (ow_lp _ k) (fun M x3 x4 H locs ls h hB  hl => ih M x3 x4  H locs ls h hB hl) M x3 x4 H locs ls h hB hl
    intro M x3 x4 H locs ls h hB hl
    exact step F M x3 x4 H locs ls h hB hl
  have B8 : ∀   (K8 : om_M × Int32 × Int32 → Prop) (hK8 : ∀ (M : om_M) (x1 : Int32) (x2 : Int32) (H : Heap) (locs : List Loc) (ls : Array Slot), K8 (M, x1, x2) → ow_B G D cA ad (ow_A G ad) M s s.heap H locs → lv_has ls 5 [(0, .ref (ad o0)), (1, .int x1), (2, .int x2)] → W p l e rm_M_pathWinners s m ([.ref (ad o0)] : List Value).toArray below meth c H locs 0 0 (MQ below (ow_Qi G D cA ad Q) ([.ref (ad o0)] : List Value).toArray s 0 0 (ow_A G ad)) (F0 m 8 ls [])) (M : om_M) (x1 : Int32) (x2 : Int32) (H : Heap) (locs : List Loc) (ls : Array Slot), wp_M_pathWinners_8b F o0 Q   K8 M x1 x2 → ow_B G D cA ad (ow_A G ad) M s s.heap H locs → lv_has ls 5 [(0, .ref (ad o0)), (1, .int x1), (2, .int x2)] → W p l e rm_M_pathWinners s m ([.ref (ad o0)] : List Value).toArray below meth c H locs 0 0 (MQ below (ow_Qi G D cA ad Q) ([.ref (ad o0)] : List Value).toArray s 0 0 (ow_A G ad)) (F0 m 8 ls []) := by
    intro   K8 hK8 M x1 x2 H locs ls h hB hl
    refine lv_iload_n hx hb dc_M_pathWinners_8 rfl (lv_at hl 2 rfl) ?_
    refine lv_aload_n hx hb dc_M_pathWinners_9 rfl (lv_at hl 0 rfl) ?_
    refine ow_get hx hb hts iw_M hown hB k0 rfl 8 (by decide) mw_805 rfl dc_M_pathWinners_10 ?_
    obtain ⟨h1, h2⟩ := h
    refine lv_icmp_ge hx hb dc_M_pathWinners_13 rfl (fun hc => ?_) (fun hc => ?_)
    · have h := h1 hc
      refine lv_iload_n hx hb dc_M_pathWinners_99 rfl (lv_at hl 1 rfl) ?_
      exact ow_iret hx hb hr hlocks hB h dc_M_pathWinners_100
    · have h := h2 hc
      refine lv_iconst (v := 1) hx hb dc_M_pathWinners_16 rfl ?_
      refine lv_istore_n hx hb dc_M_pathWinners_17 rfl hl (by decide) rfl (fun ls hl => ?_)
      refine lv_iconst (v := 0) hx hb dc_M_pathWinners_18 rfl ?_
      refine lv_istore hx hb dc_M_pathWinners_19 hl (by decide) rfl (fun ls hl => ?_)
      exact L21 _ _ K8 hK8 _ _ _ _ _ _ h hB (lv_sub hl [2, 3, 4, 1, 0] rfl)
  have L8 : ∀   (M : om_M) (x1 : Int32) (x2 : Int32) (H : Heap) (locs : List Loc) (ls : Array Slot), wp_M_pathWinners_8 F o0 Q   M x1 x2 → ow_B G D cA ad (ow_A G ad) M s s.heap H locs → lv_has ls 5 [(0, .ref (ad o0)), (1, .int x1), (2, .int x2)] → W p l e rm_M_pathWinners s m ([.ref (ad o0)] : List Value).toArray below meth c H locs 0 0 (MQ below (ow_Qi G D cA ad Q) ([.ref (ad o0)] : List Value).toArray s 0 0 (ow_A G ad)) (F0 m 8 ls []) := by
    have step : ∀ (k : Nat) (M : om_M) (x1 : Int32) (x2 : Int32) (H : Heap) (locs : List Loc) (ls : Array Slot), ow_lp (fun (z : om_M × Int32 × Int32) K => wp_M_pathWinners_8b F o0 Q   K z.1 z.2.1 z.2.2) k (M, x1, x2) → ow_B G D cA ad (ow_A G ad) M s s.heap H locs → lv_has ls 5 [(0, .ref (ad o0)), (1, .int x1), (2, .int x2)] → W p l e rm_M_pathWinners s m ([.ref (ad o0)] : List Value).toArray below meth c H locs 0 0 (MQ below (ow_Qi G D cA ad Q) ([.ref (ad o0)] : List Value).toArray s 0 0 (ow_A G ad)) (F0 m 8 ls []) := by
      intro k
      induction k with
      | zero => intro M x1 x2 H locs ls h hB hl; exact False.elim h
      | succ k ih => intro M x1 x2 H locs ls h hB hl; exact B8   (ow_lp _ k) (fun M x1 x2 H locs ls h hB  hl => ih M x1 x2  H locs ls h hB hl) M x1 x2 H locs ls h hB hl
    intro M x1 x2 H locs ls h hB hl
    exact step F M x1 x2 H locs ls h hB hl
  have hl := lv_entry ([.ref (ad o0)]) (n := 5) (Nat.le_of_ble_eq_true rfl)
  rw [lg_entry_eq]
  generalize (lg_sl ([.ref (ad o0)]) ++ List.replicate (5 - (lg_sl ([.ref (ad o0)])).length) Slot.unset).toArray = ls at hl ⊢
  have hl : lv_has ls 5 [(0, .ref (ad o0))] := hl
  show W p l e rm_M_pathWinners s m _ below meth c s.heap [] 0 0 _ _
  refine lv_aload_n hx hb dc_M_pathWinners_0 rfl (lv_at hl 0 rfl) ?_
  refine ow_callv (va_runV (As := []) (rest := []) ⟨hx, hb, hml, hown, hts⟩ (ct_M_findPaths l G hG D cA ad F _ k0 _ _ h) ⟨ow_cb 0 hts mw_993 mw_12 mw_990 rfl rfl hd_M_findPaths ⟨Nat.le_of_ble_eq_true rfl, Nat.le_of_ble_eq_true rfl⟩, hts _ mw_992, hts _ ms_36⟩ (ow_preV hB k0 rfl) rfl rfl hl.1 rfl (lv_room (Nat.le_of_ble_eq_true rfl)) dc_M_pathWinners_1 ⟨Nat.zero_le _, Nat.zero_le _⟩) hB (fun M3 H locs h hB => ?_)
  refine lv_iconst (v := 0) hx hb dc_M_pathWinners_4 rfl ?_
  refine lv_istore_n hx hb dc_M_pathWinners_5 rfl hl (by decide) rfl (fun ls hl => ?_)
  refine lv_iconst (v := 0) hx hb dc_M_pathWinners_6 rfl ?_
  refine lv_istore_n hx hb dc_M_pathWinners_7 rfl hl (by decide) rfl (fun ls hl => ?_)
  exact L8 _ _ _ _ _ _ h hB (lv_sub hl [2, 1, 0] rfl)
abbrev rm_M_leads : Room := { frames := 0, cells := 0, slots := 0, locals := 0 }
theorem hd_M_leads : yn_M_leads.cls ≠ "java/lang/invoke/MethodHandle" ∧ yn_M_leads.cls ≠ "java/lang/invoke/VarHandle" ∧ (parseMethodDescriptor yn_M_leads.desc).map (fun d => d.parameters.length) = some 2 := by decide +kernel
set_option maxHeartbeats 4000000 in
set_option maxRecDepth 100000 in
theorem ct_M_leads (l : Launch) (G : List (Nat × Nat)) (hG : ow_lay G) (D : va_G) (cA : Nat → ClassId) (ad : Nat → Nat) (F : Nat) (o0 : Nat) (k0 : ow_kd G o0 = (3, 9)) (x1 : Int32) (x2 : Int32) (M : om_M) (Q : Int32 → om_M → Prop) (h : wp_M_leads F o0 x1 x2 M Q) : Met l yn_M_leads (ow_ws yn_M_leads cb_M_leads 7 (some .boolean)) rm_M_leads (ow_Pc G D cA ad M [.ref (ad o0), .int x1, .int x2]) (ow_Qi G D cA ad Q) 0 0 (ow_A G ad) := by
  refine Met.ofW (cc := cb_M_leads) (maxL := 7) (ret := (some .boolean)) (by decide) rfl ?_
  intro p e s m args below meth c s₁ B hml hv
  obtain ⟨rfl, hB⟩ := hv
  have hx := B.exec
  have hb := B.bytes
  have hr := B.returns
  have hlocks := B.notSynchronized
  have hts : ∀ w ∈ lw_g, w.before ([.ref (ad o0), .int x1, .int x2] : List Value).toArray s = true := fun w h => atoms_spec (ws := ow_ws yn_M_leads cb_M_leads 7 (some .boolean)) B.pre w (List.mem_cons_of_mem _ h)
  have hown : s.vm.findClass "BallotDeskModel" = some m.cls := findClass_of_methodNamed B.named
  clear B
  have L95 : ∀   (M : om_M) (x3 : Int32)  (H : Heap) (locs : List Loc) (ls : Array Slot), wp_M_leads_95 F o0 x1 x2 Q   M x3  → ow_B G D cA ad (ow_A G ad) M s s.heap H locs → lv_has ls 7 [(2, .int x2), (3, .int x3)] → W p l e rm_M_leads s m ([.ref (ad o0), .int x1, .int x2] : List Value).toArray below meth c H locs 0 0 (MQ below (ow_Qi G D cA ad Q) ([.ref (ad o0), .int x1, .int x2] : List Value).toArray s 0 0 (ow_A G ad)) (F0 m 95 ls []) := by
    intro   M x3 H locs ls h hB hl
    refine lv_iload_n hx hb dc_M_leads_95 rfl (lv_at hl 1 rfl) ?_
    refine lv_iload_n hx hb dc_M_leads_96 rfl (lv_at hl 0 rfl) ?_
    refine lv_ishr hx hb dc_M_leads_97 ?_
    refine lv_iconst (v := 1) hx hb dc_M_leads_98 rfl ?_
    refine lv_iand hx hb dc_M_leads_99 ?_
    refine lv_iconst (v := 1) hx hb dc_M_leads_100 rfl ?_
    obtain ⟨h1, h2⟩ := h
    refine lv_icmp_ne hx hb dc_M_leads_101 rfl (fun hc => ?_) (fun hc => ?_)
    · have h := h2 hc
      refine lv_iconst (v := 0) hx hb dc_M_leads_108 rfl ?_
      exact ow_zret hx hb hr hlocks (by decide) hB h dc_M_leads_109
    · have h := h1 hc
      refine lv_iconst (v := 1) hx hb dc_M_leads_104 rfl ?_
      refine lv_goto hx hb dc_M_leads_105 rfl ?_
      exact ow_zret hx hb hr hlocks (by decide) hB h dc_M_leads_109
  have L89 : ∀  (K7 : om_M × Int32 × Int32 → Prop) (hK7 : ∀ (M : om_M) (x3 : Int32) (x4 : Int32) (H : Heap) (locs : List Loc) (ls : Array Slot), K7 (M, x3, x4) → ow_B G D cA ad (ow_A G ad) M s s.heap H locs → lv_has ls 7 [(0, .ref (ad o0)), (2, .int x2), (3, .int x3), (4, .int x4)] → W p l e rm_M_leads s m ([.ref (ad o0), .int x1, .int x2] : List Value).toArray below meth c H locs 0 0 (MQ below (ow_Qi G D cA ad Q) ([.ref (ad o0), .int x1, .int x2] : List Value).toArray s 0 0 (ow_A G ad)) (F0 m 7 ls [])) (M : om_M) (x3 : Int32) (x4 : Int32)  (H : Heap) (locs : List Loc) (ls : Array Slot), wp_M_leads_89 F o0 x1 x2 Q  K7 M x3 x4  → ow_B G D cA ad (ow_A G ad) M s s.heap H locs → lv_has ls 7 [(0, .ref (ad o0)), (2, .int x2), (3, .int x3), (4, .int x4)] → W p l e rm_M_leads s m ([.ref (ad o0), .int x1, .int x2] : List Value).toArray below meth c H locs 0 0 (MQ below (ow_Qi G D cA ad Q) ([.ref (ad o0), .int x1, .int x2] : List Value).toArray s 0 0 (ow_A G ad)) (F0 m 89 ls []) := by
    intro  K7 hK7 M x3 x4 H locs ls h hB hl
    refine lv_iinc hx hb dc_M_leads_89 hl (k := 3) rfl rfl (by decide) rfl (fun ls hl => ?_)
    refine lv_goto hx hb dc_M_leads_92 rfl ?_
    exact hK7 _ _ _ _ _ _ h hB (lv_sub hl [1, 2, 3, 0] rfl)
  have L83 : ∀ (x4 : Int32) (K7 : om_M × Int32 × Int32 → Prop) (hK7 : ∀ (M : om_M) (x3 : Int32) (x4 : Int32) (H : Heap) (locs : List Loc) (ls : Array Slot), K7 (M, x3, x4) → ow_B G D cA ad (ow_A G ad) M s s.heap H locs → lv_has ls 7 [(0, .ref (ad o0)), (2, .int x2), (3, .int x3), (4, .int x4)] → W p l e rm_M_leads s m ([.ref (ad o0), .int x1, .int x2] : List Value).toArray below meth c H locs 0 0 (MQ below (ow_Qi G D cA ad Q) ([.ref (ad o0), .int x1, .int x2] : List Value).toArray s 0 0 (ow_A G ad)) (F0 m 7 ls [])) (K19 : om_M × Int32 × Int32 → Prop) (hK19 : ∀ (M : om_M) (x3 : Int32) (x5 : Int32) (H : Heap) (locs : List Loc) (ls : Array Slot), K19 (M, x3, x5) → ow_B G D cA ad (ow_A G ad) M s s.heap H locs → lv_has ls 7 [(0, .ref (ad o0)), (2, .int x2), (3, .int x3), (4, .int x4), (5, .int x5)] → W p l e rm_M_leads s m ([.ref (ad o0), .int x1, .int x2] : List Value).toArray below meth c H locs 0 0 (MQ below (ow_Qi G D cA ad Q) ([.ref (ad o0), .int x1, .int x2] : List Value).toArray s 0 0 (ow_A G ad)) (F0 m 19 ls [])) (M : om_M) (x3 : Int32) (x5 : Int32)  (H : Heap) (locs : List Loc) (ls : Array Slot), wp_M_leads_83 F o0 x1 x2 Q x4 K7 K19 M x3 x5  → ow_B G D cA ad (ow_A G ad) M s s.heap H locs → lv_has ls 7 [(0, .ref (ad o0)), (2, .int x2), (3, .int x3), (4, .int x4), (5, .int x5)] → W p l e rm_M_leads s m ([.ref (ad o0), .int x1, .int x2] : List Value).toArray below meth c H locs 0 0 (MQ below (ow_Qi G D cA ad Q) ([.ref (ad o0), .int x1, .int x2] : List Value).toArray s 0 0 (ow_A G ad)) (F0 m 83 ls []) := by
    intro x4 K7 hK7 K19 hK19 M x3 x5 H locs ls h hB hl
    refine lv_iinc hx hb dc_M_leads_83 hl (k := 4) rfl rfl (by decide) rfl (fun ls hl => ?_)
    refine lv_goto hx hb dc_M_leads_86 rfl ?_
    exact hK19 _ _ _ _ _ _ h hB (lv_sub hl [1, 2, 3, 4, 0] rfl)
  have L76 : ∀ (x4 : Int32) (x5 : Int32) (K7 : om_M × Int32 × Int32 → Prop) (hK7 : ∀ (M : om_M) (x3 : Int32) (x4 : Int32) (H : Heap) (locs : List Loc) (ls : Array Slot), K7 (M, x3, x4) → ow_B G D cA ad (ow_A G ad) M s s.heap H locs → lv_has ls 7 [(0, .ref (ad o0)), (2, .int x2), (3, .int x3), (4, .int x4)] → W p l e rm_M_leads s m ([.ref (ad o0), .int x1, .int x2] : List Value).toArray below meth c H locs 0 0 (MQ below (ow_Qi G D cA ad Q) ([.ref (ad o0), .int x1, .int x2] : List Value).toArray s 0 0 (ow_A G ad)) (F0 m 7 ls [])) (K19 : om_M × Int32 × Int32 → Prop) (hK19 : ∀ (M : om_M) (x3 : Int32) (x5 : Int32) (H : Heap) (locs : List Loc) (ls : Array Slot), K19 (M, x3, x5) → ow_B G D cA ad (ow_A G ad) M s s.heap H locs → lv_has ls 7 [(0, .ref (ad o0)), (2, .int x2), (3, .int x3), (4, .int x4), (5, .int x5)] → W p l e rm_M_leads s m ([.ref (ad o0), .int x1, .int x2] : List Value).toArray below meth c H locs 0 0 (MQ below (ow_Qi G D cA ad Q) ([.ref (ad o0), .int x1, .int x2] : List Value).toArray s 0 0 (ow_A G ad)) (F0 m 19 ls [])) (K31 : om_M × Int32 × Int32 → Prop) (hK31 : ∀ (M : om_M) (x3 : Int32) (x6 : Int32) (H : Heap) (locs : List Loc) (ls : Array Slot), K31 (M, x3, x6) → ow_B G D cA ad (ow_A G ad) M s s.heap H locs → lv_has ls 7 [(0, .ref (ad o0)), (2, .int x2), (3, .int x3), (4, .int x4), (5, .int x5), (6, .int x6)] → W p l e rm_M_leads s m ([.ref (ad o0), .int x1, .int x2] : List Value).toArray below meth c H locs 0 0 (MQ below (ow_Qi G D cA ad Q) ([.ref (ad o0), .int x1, .int x2] : List Value).toArray s 0 0 (ow_A G ad)) (F0 m 31 ls [])) (M : om_M) (x6 : Int32) (t0 : Int32) (H : Heap) (locs : List Loc) (ls : Array Slot), wp_M_leads_76 F o0 x1 x2 Q x4 x5 K7 K19 K31 M x6 t0 → ow_B G D cA ad (ow_A G ad) M s s.heap H locs → lv_has ls 7 [(0, .ref (ad o0)), (2, .int x2), (4, .int x4), (5, .int x5), (6, .int x6)] → W p l e rm_M_leads s m ([.ref (ad o0), .int x1, .int x2] : List Value).toArray below meth c H locs 0 0 (MQ below (ow_Qi G D cA ad Q) ([.ref (ad o0), .int x1, .int x2] : List Value).toArray s 0 0 (ow_A G ad)) (F0 m 76 ls [.int t0]) := by
    intro x4 x5 K7 hK7 K19 hK19 K31 hK31 M x6 t0 H locs ls h hB hl
    refine lv_istore_n hx hb dc_M_leads_76 rfl hl (by decide) rfl (fun ls hl => ?_)
    refine lv_iinc hx hb dc_M_leads_77 hl (k := 5) rfl rfl (by decide) rfl (fun ls hl => ?_)
    refine lv_goto hx hb dc_M_leads_80 rfl ?_
    exact hK31 _ _ _ _ _ _ h hB (lv_sub hl [2, 3, 1, 4, 5, 0] rfl)
  have L75 : ∀ (x4 : Int32) (x5 : Int32) (K7 : om_M × Int32 × Int32 → Prop) (hK7 : ∀ (M : om_M) (x3 : Int32) (x4 : Int32) (H : Heap) (locs : List Loc) (ls : Array Slot), K7 (M, x3, x4) → ow_B G D cA ad (ow_A G ad) M s s.heap H locs → lv_has ls 7 [(0, .ref (ad o0)), (2, .int x2), (3, .int x3), (4, .int x4)] → W p l e rm_M_leads s m ([.ref (ad o0), .int x1, .int x2] : List Value).toArray below meth c H locs 0 0 (MQ below (ow_Qi G D cA ad Q) ([.ref (ad o0), .int x1, .int x2] : List Value).toArray s 0 0 (ow_A G ad)) (F0 m 7 ls [])) (K19 : om_M × Int32 × Int32 → Prop) (hK19 : ∀ (M : om_M) (x3 : Int32) (x5 : Int32) (H : Heap) (locs : List Loc) (ls : Array Slot), K19 (M, x3, x5) → ow_B G D cA ad (ow_A G ad) M s s.heap H locs → lv_has ls 7 [(0, .ref (ad o0)), (2, .int x2), (3, .int x3), (4, .int x4), (5, .int x5)] → W p l e rm_M_leads s m ([.ref (ad o0), .int x1, .int x2] : List Value).toArray below meth c H locs 0 0 (MQ below (ow_Qi G D cA ad Q) ([.ref (ad o0), .int x1, .int x2] : List Value).toArray s 0 0 (ow_A G ad)) (F0 m 19 ls [])) (K31 : om_M × Int32 × Int32 → Prop) (hK31 : ∀ (M : om_M) (x3 : Int32) (x6 : Int32) (H : Heap) (locs : List Loc) (ls : Array Slot), K31 (M, x3, x6) → ow_B G D cA ad (ow_A G ad) M s s.heap H locs → lv_has ls 7 [(0, .ref (ad o0)), (2, .int x2), (3, .int x3), (4, .int x4), (5, .int x5), (6, .int x6)] → W p l e rm_M_leads s m ([.ref (ad o0), .int x1, .int x2] : List Value).toArray below meth c H locs 0 0 (MQ below (ow_Qi G D cA ad Q) ([.ref (ad o0), .int x1, .int x2] : List Value).toArray s 0 0 (ow_A G ad)) (F0 m 31 ls [])) (M : om_M) (x3 : Int32) (x6 : Int32)  (H : Heap) (locs : List Loc) (ls : Array Slot), wp_M_leads_75 F o0 x1 x2 Q x4 x5 K7 K19 K31 M x3 x6  → ow_B G D cA ad (ow_A G ad) M s s.heap H locs → lv_has ls 7 [(0, .ref (ad o0)), (2, .int x2), (3, .int x3), (4, .int x4), (5, .int x5), (6, .int x6)] → W p l e rm_M_leads s m ([.ref (ad o0), .int x1, .int x2] : List Value).toArray below meth c H locs 0 0 (MQ below (ow_Qi G D cA ad Q) ([.ref (ad o0), .int x1, .int x2] : List Value).toArray s 0 0 (ow_A G ad)) (F0 m 75 ls []) := by
    intro x4 x5 K7 hK7 K19 hK19 K31 hK31 M x3 x6 H locs ls h hB hl
    refine lv_iload_n hx hb dc_M_leads_75 rfl (lv_at hl 2 rfl) ?_
    exact L76 _ _ K7 hK7 K19 hK19 K31 hK31 _ _ _ _ _ _ h hB (lv_sub hl [0, 1, 3, 4, 5] rfl)
  have B31 : ∀ (x4 : Int32) (x5 : Int32) (K7 : om_M × Int32 × Int32 → Prop) (hK7 : ∀ (M : om_M) (x3 : Int32) (x4 : Int32) (H : Heap) (locs : List Loc) (ls : Array Slot), K7 (M, x3, x4) → ow_B G D cA ad (ow_A G ad) M s s.heap H locs → lv_has ls 7 [(0, .ref (ad o0)), (2, .int x2), (3, .int x3), (4, .int x4)] → W p l e rm_M_leads s m ([.ref (ad o0), .int x1, .int x2] : List Value).toArray below meth c H locs 0 0 (MQ below (ow_Qi G D cA ad Q) ([.ref (ad o0), .int x1, .int x2] : List Value).toArray s 0 0 (ow_A G ad)) (F0 m 7 ls [])) (K19 : om_M × Int32 × Int32 → Prop) (hK19 : ∀ (M : om_M) (x3 : Int32) (x5 : Int32) (H : Heap) (locs : List Loc) (ls : Array Slot), K19 (M, x3, x5) → ow_B G D cA ad (ow_A G ad) M s s.heap H locs → lv_has ls 7 [(0, .ref (ad o0)), (2, .int x2), (3, .int x3), (4, .int x4), (5, .int x5)] → W p l e rm_M_leads s m ([.ref (ad o0), .int x1, .int x2] : List Value).toArray below meth c H locs 0 0 (MQ below (ow_Qi G D cA ad Q) ([.ref (ad o0), .int x1, .int x2] : List Value).toArray s 0 0 (ow_A G ad)) (F0 m 19 ls [])) (K31 : om_M × Int32 × Int32 → Prop) (hK31 : ∀ (M : om_M) (x3 : Int32) (x6 : Int32) (H : Heap) (locs : List Loc) (ls : Array Slot), K31 (M, x3, x6) → ow_B G D cA ad (ow_A G ad) M s s.heap H locs → lv_has ls 7 [(0, .ref (ad o0)), (2, .int x2), (3, .int x3), (4, .int x4), (5, .int x5), (6, .int x6)] → W p l e rm_M_leads s m ([.ref (ad o0), .int x1, .int x2] : List Value).toArray below meth c H locs 0 0 (MQ below (ow_Qi G D cA ad Q) ([.ref (ad o0), .int x1, .int x2] : List Value).toArray s 0 0 (ow_A G ad)) (F0 m 31 ls [])) (M : om_M) (x3 : Int32) (x6 : Int32) (H : Heap) (locs : List Loc) (ls : Array Slot), wp_M_leads_31b F o0 x1 x2 Q x4 x5 K7 K19 K31 M x3 x6 → ow_B G D cA ad (ow_A G ad) M s s.heap H locs → lv_has ls 7 [(0, .ref (ad o0)), (2, .int x2), (3, .int x3), (4, .int x4), (5, .int x5), (6, .int x6)] → W p l e rm_M_leads s m ([.ref (ad o0), .int x1, .int x2] : List Value).toArray below meth c H locs 0 0 (MQ below (ow_Qi G D cA ad Q) ([.ref (ad o0), .int x1, .int x2] : List Value).toArray s 0 0 (ow_A G ad)) (F0 m 31 ls []) := by
    intro x4 x5 K7 hK7 K19 hK19 K31 hK31 M x3 x6 H locs ls h hB hl
    refine lv_iload hx hb dc_M_leads_31 (lv_at hl 5 rfl) ?_
    refine lv_aload_n hx hb dc_M_leads_33 rfl (lv_at hl 0 rfl) ?_
    refine ow_get hx hb hts iw_M hown hB k0 rfl 8 (by decide) mw_805 rfl dc_M_leads_34 ?_
    obtain ⟨h1, h2⟩ := h
    refine lv_icmp_ge hx hb dc_M_leads_37 rfl (fun hc => ?_) (fun hc => ?_)
    · have h := h1 hc
      exact L83 _ K7 hK7 K19 hK19 _ _ _ _ _ _ h hB (lv_sub hl [0, 1, 2, 3, 4] rfl)
    · have h := h2 hc
      refine lv_iload_n hx hb dc_M_leads_40 rfl (lv_at hl 2 rfl) ?_
      refine lv_iload hx hb dc_M_leads_41 (lv_at hl 4 rfl) ?_
      refine lv_ishr hx hb dc_M_leads_43 ?_
      refine lv_iconst (v := 1) hx hb dc_M_leads_44 rfl ?_
      refine lv_iand hx hb dc_M_leads_45 ?_
      refine lv_iconst (v := 1) hx hb dc_M_leads_46 rfl ?_
      obtain ⟨h1, h2⟩ := h
      refine lv_icmp_ne hx hb dc_M_leads_47 rfl (fun hc => ?_) (fun hc => ?_)
      · have h := h2 hc
        exact L75 _ _ K7 hK7 K19 hK19 K31 hK31 _ _ _ _ _ _ h hB (lv_sub hl [0, 1, 2, 3, 4, 5] rfl)
      · have h := h1 hc
        refine lv_aload_n hx hb dc_M_leads_50 rfl (lv_at hl 0 rfl) ?_
        refine ow_get hx hb hts iw_M hown hB k0 rfl 17 (by decide) mw_814 rfl dc_M_leads_51 ?_
        refine lv_bipush (v := 7) hx hb dc_M_leads_54 rfl ?_
        refine lv_iload hx hb dc_M_leads_56 (lv_at hl 4 rfl) ?_
        refine lv_imul hx hb dc_M_leads_58 ?_
        refine lv_iload hx hb dc_M_leads_59 (lv_at hl 5 rfl) ?_
        refine lv_iadd hx hb dc_M_leads_61 ?_
        obtain ⟨hi1, h⟩ := h
        refine ow_zald hx hb hB (ly_M_locked hG k0) hi1 dc_M_leads_62 ?_
        obtain ⟨h1, h2⟩ := h
        refine lv_if_eq hx hb dc_M_leads_63 rfl (fun hc => ?_) (fun hc => ?_)
        · have h := h1 hc
          exact L75 _ _ K7 hK7 K19 hK19 K31 hK31 _ _ _ _ _ _ h hB (lv_sub hl [0, 1, 2, 3, 4, 5] rfl)
        · have h := h2 hc
          refine lv_iload_n hx hb dc_M_leads_66 rfl (lv_at hl 2 rfl) ?_
          refine lv_iconst (v := 1) hx hb dc_M_leads_67 rfl ?_
          refine lv_iload hx hb dc_M_leads_68 (lv_at hl 5 rfl) ?_
          refine lv_ishl hx hb dc_M_leads_70 ?_
          refine lv_ior hx hb dc_M_leads_71 ?_
          refine lv_goto hx hb dc_M_leads_72 rfl ?_
          exact L76 _ _ K7 hK7 K19 hK19 K31 hK31 _ _ _ _ _ _ h hB (lv_sub hl [0, 1, 3, 4, 5] rfl)
  have L31 : ∀ (x4 : Int32) (x5 : Int32) (K7 : om_M × Int32 × Int32 → Prop) (hK7 : ∀ (M : om_M) (x3 : Int32) (x4 : Int32) (H : Heap) (locs : List Loc) (ls : Array Slot), K7 (M, x3, x4) → ow_B G D cA ad (ow_A G ad) M s s.heap H locs → lv_has ls 7 [(0, .ref (ad o0)), (2, .int x2), (3, .int x3), (4, .int x4)] → W p l e rm_M_leads s m ([.ref (ad o0), .int x1, .int x2] : List Value).toArray below meth c H locs 0 0 (MQ below (ow_Qi G D cA ad Q) ([.ref (ad o0), .int x1, .int x2] : List Value).toArray s 0 0 (ow_A G ad)) (F0 m 7 ls [])) (K19 : om_M × Int32 × Int32 → Prop) (hK19 : ∀ (M : om_M) (x3 : Int32) (x5 : Int32) (H : Heap) (locs : List Loc) (ls : Array Slot), K19 (M, x3, x5) → ow_B G D cA ad (ow_A G ad) M s s.heap H locs → lv_has ls 7 [(0, .ref (ad o0)), (2, .int x2), (3, .int x3), (4, .int x4), (5, .int x5)] → W p l e rm_M_leads s m ([.ref (ad o0), .int x1, .int x2] : List Value).toArray below meth c H locs 0 0 (MQ below (ow_Qi G D cA ad Q) ([.ref (ad o0), .int x1, .int x2] : List Value).toArray s 0 0 (ow_A G ad)) (F0 m 19 ls [])) (M : om_M) (x3 : Int32) (x6 : Int32) (H : Heap) (locs : List Loc) (ls : Array Slot), wp_M_leads_31 F o0 x1 x2 Q x4 x5 K7 K19 M x3 x6 → ow_B G D cA ad (ow_A G ad) M s s.heap H locs → lv_has ls 7 [(0, .ref (ad o0)), (2, .int x2), (3, .int x3), (4, .int x4), (5, .int x5), (6, .int x6)] → W p l e rm_M_leads s m ([.ref (ad o0), .int x1, .int x2] : List Value).toArray below meth c H locs 0 0 (MQ below (ow_Qi G D cA ad Q) ([.ref (ad o0), .int x1, .int x2] : List Value).toArray s 0 0 (ow_A G ad)) (F0 m 31 ls []) := by
    intro x4 x5 K7 hK7 K19 hK19
    have step : ∀ (k : Nat) (M : om_M) (x3 : Int32) (x6 : Int32) (H : Heap) (locs : List Loc) (ls : Array Slot), ow_lp (fun (z : om_M × Int32 × Int32) K => wp_M_leads_31b F o0 x1 x2 Q x4 x5 K7 K19 K z.1 z.2.1 z.2.2) k (M, x3, x6) → ow_B G D cA ad (ow_A G ad) M s s.heap H locs → lv_has ls 7 [(0, .ref (ad o0)), (2, .int x2), (3, .int x3), (4, .int x4), (5, .int x5), (6, .int x6)] → W p l e rm_M_leads s m ([.ref (ad o0), .int x1, .int x2] : List Value).toArray below meth c H locs 0 0 (MQ below (ow_Qi G D cA ad Q) ([.ref (ad o0), .int x1, .int x2] : List Value).toArray s 0 0 (ow_A G ad)) (F0 m 31 ls []) := by
      intro k
      induction k with
      | zero => intro M x3 x6 H locs ls h hB hl; exact False.elim h
      | succ k ih => intro M x3 x6 H locs ls h hB hl; exact B31 x4 x5 K7 hK7 K19 hK19 (ow_lp _ k) (fun M x3 x6 H locs ls h hB  hl => ih M x3 x6  H locs ls h hB hl) M x3 x6 H locs ls h hB hl
    intro M x3 x6 H locs ls h hB hl
    exact step F M x3 x6 H locs ls h hB hl
  have B19 : ∀ (x4 : Int32) (K7 : om_M × Int32 × Int32 → Prop) (hK7 : ∀ (M : om_M) (x3 : Int32) (x4 : Int32) (H : Heap) (locs : List Loc) (ls : Array Slot), K7 (M, x3, x4) → ow_B G D cA ad (ow_A G ad) M s s.heap H locs → lv_has ls 7 [(0, .ref (ad o0)), (2, .int x2), (3, .int x3), (4, .int x4)] → W p l e rm_M_leads s m ([.ref (ad o0), .int x1, .int x2] : List Value).toArray below meth c H locs 0 0 (MQ below (ow_Qi G D cA ad Q) ([.ref (ad o0), .int x1, .int x2] : List Value).toArray s 0 0 (ow_A G ad)) (F0 m 7 ls [])) (K19 : om_M × Int32 × Int32 → Prop) (hK19 : ∀ (M : om_M) (x3 : Int32) (x5 : Int32) (H : Heap) (locs : List Loc) (ls : Array Slot), K19 (M, x3, x5) → ow_B G D cA ad (ow_A G ad) M s s.heap H locs → lv_has ls 7 [(0, .ref (ad o0)), (2, .int x2), (3, .int x3), (4, .int x4), (5, .int x5)] → W p l e rm_M_leads s m ([.ref (ad o0), .int x1, .int x2] : List Value).toArray below meth c H locs 0 0 (MQ below (ow_Qi G D cA ad Q) ([.ref (ad o0), .int x1, .int x2] : List Value).toArray s 0 0 (ow_A G ad)) (F0 m 19 ls [])) (M : om_M) (x3 : Int32) (x5 : Int32) (H : Heap) (locs : List Loc) (ls : Array Slot), wp_M_leads_19b F o0 x1 x2 Q x4 K7 K19 M x3 x5 → ow_B G D cA ad (ow_A G ad) M s s.heap H locs → lv_has ls 7 [(0, .ref (ad o0)), (2, .int x2), (3, .int x3), (4, .int x4), (5, .int x5)] → W p l e rm_M_leads s m ([.ref (ad o0), .int x1, .int x2] : List Value).toArray below meth c H locs 0 0 (MQ below (ow_Qi G D cA ad Q) ([.ref (ad o0), .int x1, .int x2] : List Value).toArray s 0 0 (ow_A G ad)) (F0 m 19 ls []) := by
    intro x4 K7 hK7 K19 hK19 M x3 x5 H locs ls h hB hl
    refine lv_iload hx hb dc_M_leads_19 (lv_at hl 4 rfl) ?_
    refine lv_aload_n hx hb dc_M_leads_21 rfl (lv_at hl 0 rfl) ?_
    refine ow_get hx hb hts iw_M hown hB k0 rfl 8 (by decide) mw_805 rfl dc_M_leads_22 ?_
    obtain ⟨h1, h2⟩ := h
    refine lv_icmp_ge hx hb dc_M_leads_25 rfl (fun hc => ?_) (fun hc => ?_)
    · have h := h1 hc
      exact L89 K7 hK7 _ _ _ _ _ _ h hB (lv_sub hl [0, 1, 2, 3] rfl)
    · have h := h2 hc
      refine lv_iconst (v := 0) hx hb dc_M_leads_28 rfl ?_
      refine lv_istore hx hb dc_M_leads_29 hl (by decide) rfl (fun ls hl => ?_)
      exact L31 _ _ K7 hK7 K19 hK19 _ _ _ _ _ _ h hB (lv_sub hl [1, 2, 3, 4, 5, 0] rfl)
  have L19 : ∀ (x4 : Int32) (K7 : om_M × Int32 × Int32 → Prop) (hK7 : ∀ (M : om_M) (x3 : Int32) (x4 : Int32) (H : Heap) (locs : List Loc) (ls : Array Slot), K7 (M, x3, x4) → ow_B G D cA ad (ow_A G ad) M s s.heap H locs → lv_has ls 7 [(0, .ref (ad o0)), (2, .int x2), (3, .int x3), (4, .int x4)] → W p l e rm_M_leads s m ([.ref (ad o0), .int x1, .int x2] : List Value).toArray below meth c H locs 0 0 (MQ below (ow_Qi G D cA ad Q) ([.ref (ad o0), .int x1, .int x2] : List Value).toArray s 0 0 (ow_A G ad)) (F0 m 7 ls [])) (M : om_M) (x3 : Int32) (x5 : Int32) (H : Heap) (locs : List Loc) (ls : Array Slot), wp_M_leads_19 F o0 x1 x2 Q x4 K7 M x3 x5 → ow_B G D cA ad (ow_A G ad) M s s.heap H locs → lv_has ls 7 [(0, .ref (ad o0)), (2, .int x2), (3, .int x3), (4, .int x4), (5, .int x5)] → W p l e rm_M_leads s m ([.ref (ad o0), .int x1, .int x2] : List Value).toArray below meth c H locs 0 0 (MQ below (ow_Qi G D cA ad Q) ([.ref (ad o0), .int x1, .int x2] : List Value).toArray s 0 0 (ow_A G ad)) (F0 m 19 ls []) := by
    intro x4 K7 hK7
    have step : ∀ (k : Nat) (M : om_M) (x3 : Int32) (x5 : Int32) (H : Heap) (locs : List Loc) (ls : Array Slot), ow_lp (fun (z : om_M × Int32 × Int32) K => wp_M_leads_19b F o0 x1 x2 Q x4 K7 K z.1 z.2.1 z.2.2) k (M, x3, x5) → ow_B G D cA ad (ow_A G ad) M s s.heap H locs → lv_has ls 7 [(0, .ref (ad o0)), (2, .int x2), (3, .int x3), (4, .int x4), (5, .int x5)] → W p l e rm_M_leads s m ([.ref (ad o0), .int x1, .int x2] : List Value).toArray below meth c H locs 0 0 (MQ below (ow_Qi G D cA ad Q) ([.ref (ad o0), .int x1, .int x2] : List Value).toArray s 0 0 (ow_A G ad)) (F0 m 19 ls []) := by
      intro k
      induction k with
      | zero => intro M x3 x5 H locs ls h hB hl; exact False.elim h
      | succ k ih => intro M x3 x5 H locs ls h hB hl; exact B19 x4 K7 hK7 (ow_lp _ k) (fun M x3 x5 H locs ls h hB  hl => ih M x3 x5  H locs ls h hB hl) M x3 x5 H locs ls h hB hl
    intro M x3 x5 H locs ls h hB hl
    exact step F M x3 x5 H locs ls h hB hl
  have B7 : ∀   (K7 : om_M × Int32 × Int32 → Prop) (hK7 : ∀ (M : om_M) (x3 : Int32) (x4 : Int32) (H : Heap) (locs : List Loc) (ls : Array Slot), K7 (M, x3, x4) → ow_B G D cA ad (ow_A G ad) M s s.heap H locs → lv_has ls 7 [(0, .ref (ad o0)), (2, .int x2), (3, .int x3), (4, .int x4)] → W p l e rm_M_leads s m ([.ref (ad o0), .int x1, .int x2] : List Value).toArray below meth c H locs 0 0 (MQ below (ow_Qi G D cA ad Q) ([.ref (ad o0), .int x1, .int x2] : List Value).toArray s 0 0 (ow_A G ad)) (F0 m 7 ls [])) (M : om_M) (x3 : Int32) (x4 : Int32) (H : Heap) (locs : List Loc) (ls : Array Slot), wp_M_leads_7b F o0 x1 x2 Q   K7 M x3 x4 → ow_B G D cA ad (ow_A G ad) M s s.heap H locs → lv_has ls 7 [(0, .ref (ad o0)), (2, .int x2), (3, .int x3), (4, .int x4)] → W p l e rm_M_leads s m ([.ref (ad o0), .int x1, .int x2] : List Value).toArray below meth c H locs 0 0 (MQ below (ow_Qi G D cA ad Q) ([.ref (ad o0), .int x1, .int x2] : List Value).toArray s 0 0 (ow_A G ad)) (F0 m 7 ls []) := by
    intro   K7 hK7 M x3 x4 H locs ls h hB hl
    refine lv_iload hx hb dc_M_leads_7 (lv_at hl 3 rfl) ?_
    refine lv_aload_n hx hb dc_M_leads_9 rfl (lv_at hl 0 rfl) ?_
    refine ow_get hx hb hts iw_M hown hB k0 rfl 8 (by decide) mw_805 rfl dc_M_leads_10 ?_
    obtain ⟨h1, h2⟩ := h
    refine lv_icmp_ge hx hb dc_M_leads_13 rfl (fun hc => ?_) (fun hc => ?_)
    · have h := h1 hc
      exact L95 _ _ _ _ _ h hB (lv_sub hl [1, 2] rfl)
    · have h := h2 hc
      refine lv_iconst (v := 0) hx hb dc_M_leads_16 rfl ?_
      refine lv_istore hx hb dc_M_leads_17 hl (by decide) rfl (fun ls hl => ?_)
      exact L19 _ K7 hK7 _ _ _ _ _ _ h hB (lv_sub hl [1, 2, 3, 4, 0] rfl)
  have L7 : ∀   (M : om_M) (x3 : Int32) (x4 : Int32) (H : Heap) (locs : List Loc) (ls : Array Slot), wp_M_leads_7 F o0 x1 x2 Q   M x3 x4 → ow_B G D cA ad (ow_A G ad) M s s.heap H locs → lv_has ls 7 [(0, .ref (ad o0)), (2, .int x2), (3, .int x3), (4, .int x4)] → W p l e rm_M_leads s m ([.ref (ad o0), .int x1, .int x2] : List Value).toArray below meth c H locs 0 0 (MQ below (ow_Qi G D cA ad Q) ([.ref (ad o0), .int x1, .int x2] : List Value).toArray s 0 0 (ow_A G ad)) (F0 m 7 ls []) := by
    have step : ∀ (k : Nat) (M : om_M) (x3 : Int32) (x4 : Int32) (H : Heap) (locs : List Loc) (ls : Array Slot), ow_lp (fun (z : om_M × Int32 × Int32) K => wp_M_leads_7b F o0 x1 x2 Q   K z.1 z.2.1 z.2.2) k (M, x3, x4) → ow_B G D cA ad (ow_A G ad) M s s.heap H locs → lv_has ls 7 [(0, .ref (ad o0)), (2, .int x2), (3, .int x3), (4, .int x4)] → W p l e rm_M_leads s m ([.ref (ad o0), .int x1, .int x2] : List Value).toArray below meth c H locs 0 0 (MQ below (ow_Qi G D cA ad Q) ([.ref (ad o0), .int x1, .int x2] : List Value).toArray s 0 0 (ow_A G ad)) (F0 m 7 ls []) := by
      intro k
      induction k with
      | zero => intro M x3 x4 H locs ls h hB hl; exact False.elim h
      | succ k ih => intro M x3 x4 H locs ls h hB hl; exact B7   (ow_lp _ k) (fun M x3 x4 H locs ls h hB  hl => ih M x3 x4  H locs ls h hB hl) M x3 x4 H locs ls h hB hl
    intro M x3 x4 H locs ls h hB hl
    exact step F M x3 x4 H locs ls h hB hl
  have hl := lv_entry ([.ref (ad o0), .int x1, .int x2]) (n := 7) (Nat.le_of_ble_eq_true rfl)
  rw [lg_entry_eq]
  generalize (lg_sl ([.ref (ad o0), .int x1, .int x2]) ++ List.replicate (7 - (lg_sl ([.ref (ad o0), .int x1, .int x2])).length) Slot.unset).toArray = ls at hl ⊢
  have hl : lv_has ls 7 [(0, .ref (ad o0)), (1, .int x1), (2, .int x2)] := hl
  show W p l e rm_M_leads s m _ below meth c s.heap [] 0 0 _ _
  refine lv_iconst (v := 1) hx hb dc_M_leads_0 rfl ?_
  refine lv_iload_n hx hb dc_M_leads_1 rfl (lv_at hl 1 rfl) ?_
  refine lv_ishl hx hb dc_M_leads_2 ?_
  refine lv_istore_n hx hb dc_M_leads_3 rfl hl (by decide) rfl (fun ls hl => ?_)
  refine lv_iconst (v := 0) hx hb dc_M_leads_4 rfl ?_
  refine lv_istore hx hb dc_M_leads_5 hl (by decide) rfl (fun ls hl => ?_)
  exact L7 _ _ _ _ _ _ h hB (lv_sub hl [2, 4, 1, 0] rfl)
abbrev rm_M_sooner : Room := { frames := 1, cells := 0, slots := 0, locals := 22 }
theorem hd_M_sooner : yn_M_sooner.cls ≠ "java/lang/invoke/MethodHandle" ∧ yn_M_sooner.cls ≠ "java/lang/invoke/VarHandle" ∧ (parseMethodDescriptor yn_M_sooner.desc).map (fun d => d.parameters.length) = some 4 := by decide +kernel
set_option maxHeartbeats 4000000 in
set_option maxRecDepth 100000 in
theorem ct_M_sooner (l : Launch) (G : List (Nat × Nat)) (hG : ow_lay G) (D : va_G) (cA : Nat → ClassId) (ad : Nat → Nat) (F : Nat) (o0 : Nat) (k0 : ow_kd G o0 = (3, 9)) (x1 : Int32) (x2 : Int32) (x3 : Int32) (x4 : Int32) (M : om_M) (Q : Int32 → om_M → Prop) (h : wp_M_sooner F o0 x1 x2 x3 x4 M Q) : Met l yn_M_sooner (ow_ws yn_M_sooner cb_M_sooner 7 (some .boolean)) rm_M_sooner (ow_Pc G D cA ad M [.ref (ad o0), .int x1, .int x2, .int x3, .int x4]) (ow_Qi G D cA ad Q) 0 0 (ow_A G ad) := by
  refine Met.ofW (cc := cb_M_sooner) (maxL := 7) (ret := (some .boolean)) (by decide) rfl ?_
  intro p e s m args below meth c s₁ B hml hv
  obtain ⟨rfl, hB⟩ := hv
  have hx := B.exec
  have hb := B.bytes
  have hr := B.returns
  have hlocks := B.notSynchronized
  have hts : ∀ w ∈ lw_g, w.before ([.ref (ad o0), .int x1, .int x2, .int x3, .int x4] : List Value).toArray s = true := fun w h => atoms_spec (ws := ow_ws yn_M_sooner cb_M_sooner 7 (some .boolean)) B.pre w (List.mem_cons_of_mem _ h)
  have hown : s.vm.findClass "BallotDeskModel" = some m.cls := findClass_of_methodNamed B.named
  clear B
  have hl := lv_entry ([.ref (ad o0), .int x1, .int x2, .int x3, .int x4]) (n := 7) (Nat.le_of_ble_eq_true rfl)
  rw [lg_entry_eq]
  generalize (lg_sl ([.ref (ad o0), .int x1, .int x2, .int x3, .int x4]) ++ List.replicate (7 - (lg_sl ([.ref (ad o0), .int x1, .int x2, .int x3, .int x4])).length) Slot.unset).toArray = ls at hl ⊢
  have hl : lv_has ls 7 [(0, .ref (ad o0)), (1, .int x1), (2, .int x2), (3, .int x3), (4, .int x4)] := hl
  show W p l e rm_M_sooner s m _ below meth c s.heap [] 0 0 _ _
  refine lv_aload_n hx hb dc_M_sooner_0 rfl (lv_at hl 0 rfl) ?_
  refine ow_get hx hb hts iw_M hown hB k0 rfl 15 (by decide) mw_812 rfl dc_M_sooner_1 ?_
  refine lv_bipush (v := 7) hx hb dc_M_sooner_4 rfl ?_
  refine lv_iload_n hx hb dc_M_sooner_6 rfl (lv_at hl 1 rfl) ?_
  refine lv_imul hx hb dc_M_sooner_7 ?_
  refine lv_iload_n hx hb dc_M_sooner_8 rfl (lv_at hl 2 rfl) ?_
  refine lv_iadd hx hb dc_M_sooner_9 ?_
  obtain ⟨hi1, h⟩ := h
  refine ow_iald hx hb hB (ly_M_pairs hG k0) hi1 dc_M_sooner_10 ?_
  refine lv_istore hx hb dc_M_sooner_11 hl (by decide) rfl (fun ls hl => ?_)
  refine lv_aload_n hx hb dc_M_sooner_13 rfl (lv_at hl 1 rfl) ?_
  refine ow_get hx hb hts iw_M hown hB k0 rfl 15 (by decide) mw_812 rfl dc_M_sooner_14 ?_
  refine lv_bipush (v := 7) hx hb dc_M_sooner_17 rfl ?_
  refine lv_iload_n hx hb dc_M_sooner_19 rfl (lv_at hl 4 rfl) ?_
  refine lv_imul hx hb dc_M_sooner_20 ?_
  refine lv_iload hx hb dc_M_sooner_21 (lv_at hl 5 rfl) ?_
  refine lv_iadd hx hb dc_M_sooner_23 ?_
  obtain ⟨hi2, h⟩ := h
  refine ow_iald hx hb hB (ly_M_pairs hG k0) hi2 dc_M_sooner_24 ?_
  refine lv_istore hx hb dc_M_sooner_25 hl (by decide) rfl (fun ls hl => ?_)
  refine lv_iload hx hb dc_M_sooner_27 (lv_at hl 1 rfl) ?_
  refine lv_iload hx hb dc_M_sooner_29 (lv_at hl 0 rfl) ?_
  obtain ⟨h1, h2⟩ := h
  refine lv_icmp_eq hx hb dc_M_sooner_31 rfl (fun hc => ?_) (fun hc => ?_)
  · have h := h1 hc
    refine lv_iload_n hx hb dc_M_sooner_49 rfl (lv_at hl 3 rfl) ?_
    refine lv_iload_n hx hb dc_M_sooner_50 rfl (lv_at hl 5 rfl) ?_
    obtain ⟨h1, h2⟩ := h
    refine lv_icmp_eq hx hb dc_M_sooner_51 rfl (fun hc => ?_) (fun hc => ?_)
    · have h := h1 hc
      refine lv_aload_n hx hb dc_M_sooner_75 rfl (lv_at hl 2 rfl) ?_
      refine lv_iload_n hx hb dc_M_sooner_76 rfl (lv_at hl 4 rfl) ?_
      refine ow_calli (va_runV (As := [.int x2]) (rest := []) ⟨hx, hb, hml, hown, hts⟩ (ct_M_tiePlace l G hG D cA ad F _ k0 _ _ _ h) ⟨ow_cb 1 hts mw_1005 mw_12 mw_1002 rfl rfl hd_M_tiePlace ⟨Nat.le_of_ble_eq_true rfl, Nat.le_of_ble_eq_true rfl⟩, hts _ mw_1004, hts _ ms_39⟩ (ow_preV hB k0 rfl) rfl rfl hl.1 rfl (lv_room (Nat.le_of_ble_eq_true rfl)) dc_M_sooner_77 ⟨Nat.zero_le _, Nat.zero_le _⟩) hB (fun r4 M3 H locs h hB => ?_)
      refine lv_aload_n hx hb dc_M_sooner_80 rfl (lv_at hl 2 rfl) ?_
      refine lv_iload hx hb dc_M_sooner_81 (lv_at hl 6 rfl) ?_
      refine ow_calli (va_runV (As := [.int x4]) (rest := [.int r4]) ⟨hx, hb, hml, hown, hts⟩ (ct_M_tiePlace l G hG D cA ad F _ k0 _ _ _ h) ⟨ow_cb 1 hts mw_1005 mw_12 mw_1002 rfl rfl hd_M_tiePlace ⟨Nat.le_of_ble_eq_true rfl, Nat.le_of_ble_eq_true rfl⟩, hts _ mw_1004, hts _ ms_39⟩ (ow_preV hB k0 rfl) rfl rfl hl.1 rfl (lv_room (Nat.le_of_ble_eq_true rfl)) dc_M_sooner_83 ⟨Nat.zero_le _, Nat.zero_le _⟩) hB (fun r6 M5 H locs h hB => ?_)
      obtain ⟨h1, h2⟩ := h
      refine lv_icmp_ge hx hb dc_M_sooner_86 rfl (fun hc => ?_) (fun hc => ?_)
      · have h := h1 hc
        refine lv_iconst (v := 0) hx hb dc_M_sooner_93 rfl ?_
        exact ow_zret hx hb hr hlocks (by decide) hB h dc_M_sooner_94
      · have h := h2 hc
        refine lv_iconst (v := 1) hx hb dc_M_sooner_89 rfl ?_
        refine lv_goto hx hb dc_M_sooner_90 rfl ?_
        exact ow_zret hx hb hr hlocks (by decide) hB h dc_M_sooner_94
    · have h := h2 hc
      refine lv_aload_n hx hb dc_M_sooner_54 rfl (lv_at hl 2 rfl) ?_
      refine lv_iload_n hx hb dc_M_sooner_55 rfl (lv_at hl 3 rfl) ?_
      refine ow_calli (va_runV (As := [.int x1]) (rest := []) ⟨hx, hb, hml, hown, hts⟩ (ct_M_tiePlace l G hG D cA ad F _ k0 _ _ _ h) ⟨ow_cb 1 hts mw_1005 mw_12 mw_1002 rfl rfl hd_M_tiePlace ⟨Nat.le_of_ble_eq_true rfl, Nat.le_of_ble_eq_true rfl⟩, hts _ mw_1004, hts _ ms_39⟩ (ow_preV hB k0 rfl) rfl rfl hl.1 rfl (lv_room (Nat.le_of_ble_eq_true rfl)) dc_M_sooner_56 ⟨Nat.zero_le _, Nat.zero_le _⟩) hB (fun r8 M7 H locs h hB => ?_)
      refine lv_aload_n hx hb dc_M_sooner_59 rfl (lv_at hl 2 rfl) ?_
      refine lv_iload_n hx hb dc_M_sooner_60 rfl (lv_at hl 5 rfl) ?_
      refine ow_calli (va_runV (As := [.int x3]) (rest := [.int r8]) ⟨hx, hb, hml, hown, hts⟩ (ct_M_tiePlace l G hG D cA ad F _ k0 _ _ _ h) ⟨ow_cb 1 hts mw_1005 mw_12 mw_1002 rfl rfl hd_M_tiePlace ⟨Nat.le_of_ble_eq_true rfl, Nat.le_of_ble_eq_true rfl⟩, hts _ mw_1004, hts _ ms_39⟩ (ow_preV hB k0 rfl) rfl rfl hl.1 rfl (lv_room (Nat.le_of_ble_eq_true rfl)) dc_M_sooner_61 ⟨Nat.zero_le _, Nat.zero_le _⟩) hB (fun r10 M9 H locs h hB => ?_)
      obtain ⟨h1, h2⟩ := h
      refine lv_icmp_ge hx hb dc_M_sooner_64 rfl (fun hc => ?_) (fun hc => ?_)
      · have h := h1 hc
        refine lv_iconst (v := 0) hx hb dc_M_sooner_71 rfl ?_
        refine lv_goto hx hb dc_M_sooner_72 rfl ?_
        exact ow_zret hx hb hr hlocks (by decide) hB h dc_M_sooner_94
      · have h := h2 hc
        refine lv_iconst (v := 1) hx hb dc_M_sooner_67 rfl ?_
        refine lv_goto hx hb dc_M_sooner_68 rfl ?_
        exact ow_zret hx hb hr hlocks (by decide) hB h dc_M_sooner_94
  · have h := h2 hc
    refine lv_iload hx hb dc_M_sooner_34 (lv_at hl 1 rfl) ?_
    refine lv_iload hx hb dc_M_sooner_36 (lv_at hl 0 rfl) ?_
    obtain ⟨h1, h2⟩ := h
    refine lv_icmp_le hx hb dc_M_sooner_38 rfl (fun hc => ?_) (fun hc => ?_)
    · have h := h1 hc
      refine lv_iconst (v := 0) hx hb dc_M_sooner_45 rfl ?_
      refine lv_goto hx hb dc_M_sooner_46 rfl ?_
      exact ow_zret hx hb hr hlocks (by decide) hB h dc_M_sooner_94
    · have h := h2 hc
      refine lv_iconst (v := 1) hx hb dc_M_sooner_41 rfl ?_
      refine lv_goto hx hb dc_M_sooner_42 rfl ?_
      exact ow_zret hx hb hr hlocks (by decide) hB h dc_M_sooner_94
