def wp_C_areKeptBy_25 (F : Nat) (x0 : Int32) (Q : Int32 → om_M → Prop)   (M : om_M)   : Prop := Q 1 M
def wp_C_areKeptBy (F : Nat) (x0 : Int32) (M : om_M) (Q : Int32 → om_M → Prop) : Prop := ((x0 = 0 → wp_C_areKeptBy_25 F x0 Q M) ∧ (¬ x0 = 0 → ((x0 = 1 → wp_C_areKeptBy_25 F x0 Q M) ∧ (¬ x0 = 1 → ((x0 = 2 → wp_C_areKeptBy_25 F x0 Q M) ∧ (¬ x0 = 2 → ((x0 = 5 → wp_C_areKeptBy_25 F x0 Q M) ∧ (¬ x0 = 5 → ((x0 = 6 → wp_C_areKeptBy_25 F x0 Q M) ∧ (¬ x0 = 6 → Q 0 M))))))))))
def wp_C_points_5b (F : Nat) (o0 : Nat) (x1 : Int32) (Q : Int64 → om_M → Prop)   (K5 : om_M × Int64 × Int32 → Prop) (M : om_M) (j2 : Int64) (x4 : Int32) : Prop := (((M.1 o0 5) ≤ x4 → Q j2 M) ∧ (¬ (M.1 o0 5) ≤ x4 → vp_in x4 7 ∧ vp_in x1 7 ∧ K5 (M, j2 + (((M.1 (o0 + 3) x4.toNatClampNeg : Int32).toInt64) * ((M.1 (o0 + 4 + 1 + x1.toNatClampNeg) x4.toNatClampNeg : Int32).toInt64)), x4 + 1)))
def wp_C_points_5 (F : Nat) (o0 : Nat) (x1 : Int32) (Q : Int64 → om_M → Prop)   (M : om_M) (j2 : Int64) (x4 : Int32) : Prop := ow_lp (fun (z : om_M × Int64 × Int32) K => wp_C_points_5b F o0 x1 Q   K z.1 z.2.1 z.2.2) F (M, j2, x4)
def wp_C_points (F : Nat) (o0 : Nat) (x1 : Int32) (M : om_M) (Q : Int64 → om_M → Prop) : Prop := wp_C_points_5 F o0 x1 Q M 0 0
def wp_C_greatestDefeat_34 (F : Nat) (o0 : Nat) (x1 : Int32) (Q : Int64 → om_M → Prop)  (K4 : om_M × Int32 × Int32 → Prop) (M : om_M) (x2 : Int32) (x3 : Int32)  : Prop := K4 (M, x2, x3 + 1)
def wp_C_greatestDefeat_4b (F : Nat) (o0 : Nat) (x1 : Int32) (Q : Int64 → om_M → Prop)   (K4 : om_M × Int32 × Int32 → Prop) (M : om_M) (x2 : Int32) (x3 : Int32) : Prop := (((M.1 o0 5) ≤ x3 → Q ((x2 : Int32).toInt64) M) ∧ (¬ (M.1 o0 5) ≤ x3 → wp_P_beats F o0 x3 x1 M (fun r2 M1 => ((r2 = 0 → wp_C_greatestDefeat_34 F o0 x1 Q K4 M1 x2 x3) ∧ (¬ r2 = 0 → vp_in x3 7 ∧ vp_in x1 7 ∧ wp_C_greatestDefeat_34 F o0 x1 Q K4 M1 (if x2 < (M1.1 (o0 + 12 + 1 + x3.toNatClampNeg) x1.toNatClampNeg) then M1.1 (o0 + 12 + 1 + x3.toNatClampNeg) x1.toNatClampNeg else x2) x3)))))
def wp_C_greatestDefeat_4 (F : Nat) (o0 : Nat) (x1 : Int32) (Q : Int64 → om_M → Prop)   (M : om_M) (x2 : Int32) (x3 : Int32) : Prop := ow_lp (fun (z : om_M × Int32 × Int32) K => wp_C_greatestDefeat_4b F o0 x1 Q   K z.1 z.2.1 z.2.2) F (M, x2, x3)
def wp_C_greatestDefeat (F : Nat) (o0 : Nat) (x1 : Int32) (M : om_M) (Q : Int64 → om_M → Prop) : Prop := wp_C_greatestDefeat_4 F o0 x1 Q M 0 0
def wp_C_wins_43 (F : Nat) (o0 : Nat) (x1 : Int32) (Q : Int64 → om_M → Prop)  (K4 : om_M × Int32 × Int32 → Prop) (M : om_M) (x2 : Int32) (x3 : Int32)  : Prop := K4 (M, x2, x3 + 1)
def wp_C_wins_41 (F : Nat) (o0 : Nat) (x1 : Int32) (Q : Int64 → om_M → Prop)  (K4 : om_M × Int32 × Int32 → Prop) (M : om_M) (x3 : Int32) (t0 : Int32) (t1 : Int32) : Prop := wp_C_wins_43 F o0 x1 Q K4 M (t0 + t1) x3
def wp_C_wins_4b (F : Nat) (o0 : Nat) (x1 : Int32) (Q : Int64 → om_M → Prop)   (K4 : om_M × Int32 × Int32 → Prop) (M : om_M) (x2 : Int32) (x3 : Int32) : Prop := (((M.1 o0 5) ≤ x3 → Q ((x2 : Int32).toInt64) M) ∧ (¬ (M.1 o0 5) ≤ x3 → ((x3 = x1 → wp_C_wins_43 F o0 x1 Q K4 M x2 x3) ∧ (¬ x3 = x1 → wp_P_beats F o0 x3 x1 M (fun r2 M1 => ((r2 = 0 → wp_P_beats F o0 x1 x3 M1 (fun r4 M3 => ((r4 = 0 → wp_C_wins_41 F o0 x1 Q K4 M3 x3 x2 1) ∧ (¬ r4 = 0 → wp_C_wins_41 F o0 x1 Q K4 M3 x3 x2 2)))) ∧ (¬ r2 = 0 → wp_C_wins_43 F o0 x1 Q K4 M1 x2 x3)))))))
def wp_C_wins_4 (F : Nat) (o0 : Nat) (x1 : Int32) (Q : Int64 → om_M → Prop)   (M : om_M) (x2 : Int32) (x3 : Int32) : Prop := ow_lp (fun (z : om_M × Int32 × Int32) K => wp_C_wins_4b F o0 x1 Q   K z.1 z.2.1 z.2.2) F (M, x2, x3)
def wp_C_wins (F : Nat) (o0 : Nat) (x1 : Int32) (M : om_M) (Q : Int64 → om_M → Prop) : Prop := wp_C_wins_4 F o0 x1 Q M 0 0
def wp_C_of (F : Nat) (o0 : Nat) (x1 : Int32) (x2 : Int32) (M : om_M) (Q : Int64 → om_M → Prop) : Prop := ((x1 = 0 → vp_in x2 7 ∧ vp_in 0 7 ∧ Q ((M.1 (o0 + 4 + 1 + x2.toNatClampNeg) (0 : Int32).toNatClampNeg : Int32).toInt64) M) ∧ (¬ x1 = 0 → ((x1 = 1 → vp_in x2 7 ∧ vp_in ((M.1 o0 5) - 1) 7 ∧ Q ((M.1 (o0 + 4 + 1 + x2.toNatClampNeg) ((M.1 o0 5) - 1).toNatClampNeg : Int32).toInt64) M) ∧ (¬ x1 = 1 → ((x1 = 2 → wp_C_points F o0 x2 M (fun r10 M9 => Q r10 M9)) ∧ (¬ x1 = 2 → ((x1 = 3 → wp_C_wins F o0 x2 M (fun r8 M7 => Q r8 M7)) ∧ (¬ x1 = 3 → ((x1 = 4 → wp_C_wins F o0 x2 M (fun r6 M5 => Q r6 M5)) ∧ (¬ x1 = 4 → ((x1 = 5 → wp_C_greatestDefeat F o0 x2 M (fun r4 M3 => Q r4 M3)) ∧ (¬ x1 = 5 → wp_C_wins F o0 x2 M (fun r2 M1 => Q r2 M1)))))))))))))
def wp_C_winnerSet_96 (F : Nat) (o0 : Nat) (x1 : Int32) (Q : Int32 → om_M → Prop) (x2 : Int32) (K24 : om_M × Int32 × Int64 × Int32 → Prop) (M : om_M) (x3 : Int32) (j4 : Int64) (x6 : Int32)  : Prop := K24 (M, x3, j4, x6 + 1)
def wp_C_winnerSet_81 (F : Nat) (o0 : Nat) (x1 : Int32) (Q : Int32 → om_M → Prop) (x2 : Int32) (K24 : om_M × Int32 × Int64 × Int32 → Prop) (M : om_M) (x3 : Int32) (j4 : Int64) (x6 : Int32) (j7 : Int64)  : Prop := ((j7 = j4 → wp_C_winnerSet_96 F o0 x1 Q x2 K24 M (x3 ||| ((1 : Int32) <<< (x6 &&& 31))) j4 x6) ∧ (¬ j7 = j4 → wp_C_winnerSet_96 F o0 x1 Q x2 K24 M x3 j4 x6))
def wp_C_winnerSet_69 (F : Nat) (o0 : Nat) (x1 : Int32) (Q : Int32 → om_M → Prop) (x2 : Int32) (K24 : om_M × Int32 × Int64 × Int32 → Prop) (M : om_M) (x6 : Int32) (j7 : Int64)  : Prop := wp_C_winnerSet_96 F o0 x1 Q x2 K24 M ((1 : Int32) <<< (x6 &&& 31)) j7 x6
def wp_C_winnerSet_24b (F : Nat) (o0 : Nat) (x1 : Int32) (Q : Int32 → om_M → Prop) (x2 : Int32)  (K24 : om_M × Int32 × Int64 × Int32 → Prop) (M : om_M) (x3 : Int32) (j4 : Int64) (x6 : Int32) : Prop := (((M.1 o0 5) ≤ x6 → Q x3 M) ∧ (¬ (M.1 o0 5) ≤ x6 → wp_C_of F o0 x1 x6 M (fun r2 M1 => ((x3 = 0 → wp_C_winnerSet_69 F o0 x1 Q x2 K24 M1 x6 r2) ∧ (¬ x3 = 0 → ((x2 = 0 → ((j4 < r2 → wp_C_winnerSet_69 F o0 x1 Q x2 K24 M1 x6 r2) ∧ (¬ j4 < r2 → wp_C_winnerSet_81 F o0 x1 Q x2 K24 M1 x3 j4 x6 r2))) ∧ (¬ x2 = 0 → ((r2 < j4 → wp_C_winnerSet_69 F o0 x1 Q x2 K24 M1 x6 r2) ∧ (¬ r2 < j4 → wp_C_winnerSet_81 F o0 x1 Q x2 K24 M1 x3 j4 x6 r2)))))))))
def wp_C_winnerSet_24 (F : Nat) (o0 : Nat) (x1 : Int32) (Q : Int32 → om_M → Prop) (x2 : Int32)  (M : om_M) (x3 : Int32) (j4 : Int64) (x6 : Int32) : Prop := ow_lp (fun (z : om_M × Int32 × Int64 × Int32) K => wp_C_winnerSet_24b F o0 x1 Q x2  K z.1 z.2.1 z.2.2.1 z.2.2.2) F (M, x3, j4, x6)
def wp_C_winnerSet_15 (F : Nat) (o0 : Nat) (x1 : Int32) (Q : Int32 → om_M → Prop)   (M : om_M)  (t0 : Int32) : Prop := wp_C_winnerSet_24 F o0 x1 Q t0 M 0 0 0
def wp_C_winnerSet_10 (F : Nat) (o0 : Nat) (x1 : Int32) (Q : Int32 → om_M → Prop)   (M : om_M)   : Prop := wp_C_winnerSet_15 F o0 x1 Q M 1
def wp_C_winnerSet (F : Nat) (o0 : Nat) (x1 : Int32) (M : om_M) (Q : Int32 → om_M → Prop) : Prop := ((x1 = 1 → wp_C_winnerSet_10 F o0 x1 Q M) ∧ (¬ x1 = 1 → ((x1 = 5 → wp_C_winnerSet_10 F o0 x1 Q M) ∧ (¬ x1 = 5 → wp_C_winnerSet_15 F o0 x1 Q M 0))))
abbrev rm_C_areKeptBy : Room := { frames := 0, cells := 0, slots := 0, locals := 0 }
theorem hd_C_areKeptBy : yn_C_areKeptBy.cls ≠ "java/lang/invoke/MethodHandle" ∧ yn_C_areKeptBy.cls ≠ "java/lang/invoke/VarHandle" ∧ (parseMethodDescriptor yn_C_areKeptBy.desc).map (fun d => d.parameters.length) = some 1 := by decide +kernel
set_option maxHeartbeats 4000000 in
set_option maxRecDepth 100000 in
theorem ct_C_areKeptBy (l : Launch) (G : List (Nat × Nat)) (hG : ow_lay G) (D : va_G) (cA : Nat → ClassId) (ad : Nat → Nat) (F : Nat) (x0 : Int32) (M : om_M) (Q : Int32 → om_M → Prop) (h : wp_C_areKeptBy F x0 M Q) : Met l yn_C_areKeptBy (ow_ws yn_C_areKeptBy cb_C_areKeptBy 1 (some .boolean)) rm_C_areKeptBy (ow_Pc G D cA ad M [.int x0]) (ow_Qi G D cA ad Q) 0 0 (ow_A G ad) := by
  refine Met.ofW (cc := cb_C_areKeptBy) (maxL := 1) (ret := (some .boolean)) (by decide) rfl ?_
  intro p e s m args below meth c s₁ B hml hv
  obtain ⟨rfl, hB⟩ := hv
  have hx := B.exec
  have hb := B.bytes
  have hr := B.returns
  have hlocks := B.notSynchronized
  have hts : ∀ w ∈ lw_g, w.before ([.int x0] : List Value).toArray s = true := fun w h => atoms_spec (ws := ow_ws yn_C_areKeptBy cb_C_areKeptBy 1 (some .boolean)) B.pre w (List.mem_cons_of_mem _ h)
  have hown : s.vm.findClass "BallotDesk$Scores" = some m.cls := findClass_of_methodNamed B.named
  clear B
  have L25 : ∀   (M : om_M)   (H : Heap) (locs : List Loc) (ls : Array Slot), wp_C_areKeptBy_25 F x0 Q   M   → ow_B G D cA ad (ow_A G ad) M s s.heap H locs → lv_has ls 1 [] → W p l e rm_C_areKeptBy s m ([.int x0] : List Value).toArray below meth c H locs 0 0 (MQ below (ow_Qi G D cA ad Q) ([.int x0] : List Value).toArray s 0 0 (ow_A G ad)) (F0 m 25 ls []) := by
    intro   M H locs ls h hB hl
    refine lv_iconst (v := 1) hx hb dc_C_areKeptBy_25 rfl ?_
    refine lv_goto hx hb dc_C_areKeptBy_26 rfl ?_
    exact ow_zret hx hb hr hlocks (by decide) hB h dc_C_areKeptBy_30
  have hl := lv_entry ([.int x0]) (n := 1) (Nat.le_of_ble_eq_true rfl)
  rw [lg_entry_eq]
  generalize (lg_sl ([.int x0]) ++ List.replicate (1 - (lg_sl ([.int x0])).length) Slot.unset).toArray = ls at hl ⊢
  have hl : lv_has ls 1 [(0, .int x0)] := hl
  show W p l e rm_C_areKeptBy s m _ below meth c s.heap [] 0 0 _ _
  refine lv_iload_n hx hb dc_C_areKeptBy_0 rfl (lv_at hl 0 rfl) ?_
  obtain ⟨h1, h2⟩ := h
  refine lv_if_eq hx hb dc_C_areKeptBy_1 rfl (fun hc => ?_) (fun hc => ?_)
  · have h := h1 hc
    exact L25 _ _ _ _ h hB (lv_sub hl [] rfl)
  · have h := h2 hc
    refine lv_iload_n hx hb dc_C_areKeptBy_4 rfl (lv_at hl 0 rfl) ?_
    refine lv_iconst (v := 1) hx hb dc_C_areKeptBy_5 rfl ?_
    obtain ⟨h1, h2⟩ := h
    refine lv_icmp_eq hx hb dc_C_areKeptBy_6 rfl (fun hc => ?_) (fun hc => ?_)
    · have h := h1 hc
      exact L25 _ _ _ _ h hB (lv_sub hl [] rfl)
    · have h := h2 hc
      refine lv_iload_n hx hb dc_C_areKeptBy_9 rfl (lv_at hl 0 rfl) ?_
      refine lv_iconst (v := 2) hx hb dc_C_areKeptBy_10 rfl ?_
      obtain ⟨h1, h2⟩ := h
      refine lv_icmp_eq hx hb dc_C_areKeptBy_11 rfl (fun hc => ?_) (fun hc => ?_)
      · have h := h1 hc
        exact L25 _ _ _ _ h hB (lv_sub hl [] rfl)
      · have h := h2 hc
        refine lv_iload_n hx hb dc_C_areKeptBy_14 rfl (lv_at hl 0 rfl) ?_
        refine lv_iconst (v := 5) hx hb dc_C_areKeptBy_15 rfl ?_
        obtain ⟨h1, h2⟩ := h
        refine lv_icmp_eq hx hb dc_C_areKeptBy_16 rfl (fun hc => ?_) (fun hc => ?_)
        · have h := h1 hc
          exact L25 _ _ _ _ h hB (lv_sub hl [] rfl)
        · have h := h2 hc
          refine lv_iload_n hx hb dc_C_areKeptBy_19 rfl (lv_at hl 0 rfl) ?_
          refine lv_bipush (v := 6) hx hb dc_C_areKeptBy_20 rfl ?_
          obtain ⟨h1, h2⟩ := h
          refine lv_icmp_ne hx hb dc_C_areKeptBy_22 rfl (fun hc => ?_) (fun hc => ?_)
          · have h := h2 hc
            refine lv_iconst (v := 0) hx hb dc_C_areKeptBy_29 rfl ?_
            exact ow_zret hx hb hr hlocks (by decide) hB h dc_C_areKeptBy_30
          · have h := h1 hc
            exact L25 _ _ _ _ h hB (lv_sub hl [] rfl)
abbrev rm_C_points : Room := { frames := 0, cells := 0, slots := 0, locals := 0 }
theorem hd_C_points : yn_C_points.cls ≠ "java/lang/invoke/MethodHandle" ∧ yn_C_points.cls ≠ "java/lang/invoke/VarHandle" ∧ (parseMethodDescriptor yn_C_points.desc).map (fun d => d.parameters.length) = some 2 := by decide +kernel
set_option maxHeartbeats 4000000 in
set_option maxRecDepth 100000 in
theorem ct_C_points (l : Launch) (G : List (Nat × Nat)) (hG : ow_lay G) (D : va_G) (cA : Nat → ClassId) (ad : Nat → Nat) (F : Nat) (o0 : Nat) (k0 : ow_kd G o0 = (3, 1)) (x1 : Int32) (M : om_M) (Q : Int64 → om_M → Prop) (h : wp_C_points F o0 x1 M Q) : Met l yn_C_points (ow_ws yn_C_points cb_C_points 5 (some .long)) rm_C_points (ow_Pc G D cA ad M [.ref (ad o0), .int x1]) (ow_Ql G D cA ad Q) 0 0 (ow_A G ad) := by
  refine Met.ofW (cc := cb_C_points) (maxL := 5) (ret := (some .long)) (by decide) rfl ?_
  intro p e s m args below meth c s₁ B hml hv
  obtain ⟨rfl, hB⟩ := hv
  have hx := B.exec
  have hb := B.bytes
  have hr := B.returns
  have hlocks := B.notSynchronized
  have hts : ∀ w ∈ lw_g, w.before ([.ref (ad o0), .int x1] : List Value).toArray s = true := fun w h => atoms_spec (ws := ow_ws yn_C_points cb_C_points 5 (some .long)) B.pre w (List.mem_cons_of_mem _ h)
  have hown : s.vm.findClass "BallotDesk$Scores" = some m.cls := findClass_of_methodNamed B.named
  clear B
  have B5 : ∀   (K5 : om_M × Int64 × Int32 → Prop) (hK5 : ∀ (M : om_M) (j2 : Int64) (x4 : Int32) (H : Heap) (locs : List Loc) (ls : Array Slot), K5 (M, j2, x4) → ow_B G D cA ad (ow_A G ad) M s s.heap H locs → lv_has ls 5 [(0, .ref (ad o0)), (1, .int x1), (2, .long j2), (4, .int x4)] → W p l e rm_C_points s m ([.ref (ad o0), .int x1] : List Value).toArray below meth c H locs 0 0 (MQ below (ow_Ql G D cA ad Q) ([.ref (ad o0), .int x1] : List Value).toArray s 0 0 (ow_A G ad)) (F0 m 5 ls [])) (M : om_M) (j2 : Int64) (x4 : Int32) (H : Heap) (locs : List Loc) (ls : Array Slot), wp_C_points_5b F o0 x1 Q   K5 M j2 x4 → ow_B G D cA ad (ow_A G ad) M s s.heap H locs → lv_has ls 5 [(0, .ref (ad o0)), (1, .int x1), (2, .long j2), (4, .int x4)] → W p l e rm_C_points s m ([.ref (ad o0), .int x1] : List Value).toArray below meth c H locs 0 0 (MQ below (ow_Ql G D cA ad Q) ([.ref (ad o0), .int x1] : List Value).toArray s 0 0 (ow_A G ad)) (F0 m 5 ls []) := by
    intro   K5 hK5 M j2 x4 H locs ls h hB hl
    refine lv_iload hx hb dc_C_points_5 (lv_at hl 3 rfl) ?_
    refine lv_aload_n hx hb dc_C_points_7 rfl (lv_at hl 0 rfl) ?_
    refine ow_get hx hb hts iw_P hown hB k0 rfl 5 (by decide) mw_66 rfl dc_C_points_8 ?_
    obtain ⟨h1, h2⟩ := h
    refine lv_icmp_ge hx hb dc_C_points_11 rfl (fun hc => ?_) (fun hc => ?_)
    · have h := h1 hc
      refine lv_lload_n hx hb dc_C_points_42 rfl (lv_at hl 2 rfl) ?_
      exact ow_lret hx hb hr hlocks hB h dc_C_points_43
    · have h := h2 hc
      refine lv_lload_n hx hb dc_C_points_14 rfl (lv_at hl 2 rfl) ?_
      refine lv_aload_n hx hb dc_C_points_15 rfl (lv_at hl 0 rfl) ?_
      refine ow_get hx hb hts iw_P hown hB k0 rfl 2 (by decide) mw_48 rfl dc_C_points_16 ?_
      refine lv_iload hx hb dc_C_points_19 (lv_at hl 3 rfl) ?_
      obtain ⟨hi1, h⟩ := h
      refine ow_iald hx hb hB (ly_P_weights hG k0) hi1 dc_C_points_21 ?_
      refine lv_i2l hx hb dc_C_points_22 rfl ?_
      refine lv_aload_n hx hb dc_C_points_23 rfl (lv_at hl 0 rfl) ?_
      refine ow_get hx hb hts iw_P hown hB k0 rfl 3 (by decide) mw_51 rfl dc_C_points_24 ?_
      refine lv_iload_n hx hb dc_C_points_27 rfl (lv_at hl 1 rfl) ?_
      obtain ⟨hi2, h⟩ := h
      refine ow_aald hx hb hB (ly_P_placed hG k0) (by decide) hi2 dc_C_points_28 ?_
      refine lv_iload hx hb dc_C_points_29 (lv_at hl 3 rfl) ?_
      refine ow_iald hx hb hB (ly_row2 hG (ly_P_placed hG k0) hi2) hi1 dc_C_points_31 ?_
      refine lv_i2l hx hb dc_C_points_32 rfl ?_
      refine lv_lmul hx hb dc_C_points_33 ?_
      refine lv_ladd hx hb dc_C_points_34 ?_
      refine lv_lstore_n hx hb dc_C_points_35 rfl hl (by decide) rfl (fun ls hl => ?_)
      refine lv_iinc hx hb dc_C_points_36 hl (k := 3) rfl rfl (by decide) rfl (fun ls hl => ?_)
      refine lv_goto hx hb dc_C_points_39 rfl ?_
      exact hK5 _ _ _ _ _ _ h hB (lv_sub hl [2, 3, 1, 0] rfl)
  have L5 : ∀   (M : om_M) (j2 : Int64) (x4 : Int32) (H : Heap) (locs : List Loc) (ls : Array Slot), wp_C_points_5 F o0 x1 Q   M j2 x4 → ow_B G D cA ad (ow_A G ad) M s s.heap H locs → lv_has ls 5 [(0, .ref (ad o0)), (1, .int x1), (2, .long j2), (4, .int x4)] → W p l e rm_C_points s m ([.ref (ad o0), .int x1] : List Value).toArray below meth c H locs 0 0 (MQ below (ow_Ql G D cA ad Q) ([.ref (ad o0), .int x1] : List Value).toArray s 0 0 (ow_A G ad)) (F0 m 5 ls []) := by
    have step : ∀ (k : Nat) (M : om_M) (j2 : Int64) (x4 : Int32) (H : Heap) (locs : List Loc) (ls : Array Slot), ow_lp (fun (z : om_M × Int64 × Int32) K => wp_C_points_5b F o0 x1 Q   K z.1 z.2.1 z.2.2) k (M, j2, x4) → ow_B G D cA ad (ow_A G ad) M s s.heap H locs → lv_has ls 5 [(0, .ref (ad o0)), (1, .int x1), (2, .long j2), (4, .int x4)] → W p l e rm_C_points s m ([.ref (ad o0), .int x1] : List Value).toArray below meth c H locs 0 0 (MQ below (ow_Ql G D cA ad Q) ([.ref (ad o0), .int x1] : List Value).toArray s 0 0 (ow_A G ad)) (F0 m 5 ls []) := by
      intro k
      induction k with
      | zero => intro M j2 x4 H locs ls h hB hl; exact False.elim h
      | succ k ih => intro M j2 x4 H locs ls h hB hl; exact B5   (ow_lp _ k) (fun M j2 x4 H locs ls h hB  hl => ih M j2 x4  H locs ls h hB hl) M j2 x4 H locs ls h hB hl
    intro M j2 x4 H locs ls h hB hl
    exact step F M j2 x4 H locs ls h hB hl
  have hl := lv_entry ([.ref (ad o0), .int x1]) (n := 5) (Nat.le_of_ble_eq_true rfl)
  rw [lg_entry_eq]
  generalize (lg_sl ([.ref (ad o0), .int x1]) ++ List.replicate (5 - (lg_sl ([.ref (ad o0), .int x1])).length) Slot.unset).toArray = ls at hl ⊢
  have hl : lv_has ls 5 [(0, .ref (ad o0)), (1, .int x1)] := hl
  show W p l e rm_C_points s m _ below meth c s.heap [] 0 0 _ _
  refine lv_lconst (v := 0) hx hb dc_C_points_0 rfl ?_
  refine lv_lstore_n hx hb dc_C_points_1 rfl hl (by decide) rfl (fun ls hl => ?_)
  refine lv_iconst (v := 0) hx hb dc_C_points_2 rfl ?_
  refine lv_istore hx hb dc_C_points_3 hl (by decide) rfl (fun ls hl => ?_)
  exact L5 _ _ _ _ _ _ h hB (lv_sub hl [2, 3, 1, 0] rfl)
abbrev rm_C_greatestDefeat : Room := { frames := 1, cells := 0, slots := 0, locals := 22 }
theorem hd_C_greatestDefeat : yn_C_greatestDefeat.cls ≠ "java/lang/invoke/MethodHandle" ∧ yn_C_greatestDefeat.cls ≠ "java/lang/invoke/VarHandle" ∧ (parseMethodDescriptor yn_C_greatestDefeat.desc).map (fun d => d.parameters.length) = some 2 := by decide +kernel
set_option maxHeartbeats 4000000 in
set_option maxRecDepth 100000 in
theorem ct_C_greatestDefeat (l : Launch) (G : List (Nat × Nat)) (hG : ow_lay G) (D : va_G) (cA : Nat → ClassId) (ad : Nat → Nat) (F : Nat) (o0 : Nat) (k0 : ow_kd G o0 = (3, 1)) (x1 : Int32) (M : om_M) (Q : Int64 → om_M → Prop) (h : wp_C_greatestDefeat F o0 x1 M Q) : Met l yn_C_greatestDefeat (ow_ws yn_C_greatestDefeat cb_C_greatestDefeat 4 (some .long)) rm_C_greatestDefeat (ow_Pc G D cA ad M [.ref (ad o0), .int x1]) (ow_Ql G D cA ad Q) 0 0 (ow_A G ad) := by
  refine Met.ofW (cc := cb_C_greatestDefeat) (maxL := 4) (ret := (some .long)) (by decide) rfl ?_
  intro p e s m args below meth c s₁ B hml hv
  obtain ⟨rfl, hB⟩ := hv
  have hx := B.exec
  have hb := B.bytes
  have hr := B.returns
  have hlocks := B.notSynchronized
  have hts : ∀ w ∈ lw_g, w.before ([.ref (ad o0), .int x1] : List Value).toArray s = true := fun w h => atoms_spec (ws := ow_ws yn_C_greatestDefeat cb_C_greatestDefeat 4 (some .long)) B.pre w (List.mem_cons_of_mem _ h)
  have hown : s.vm.findClass "BallotDesk$Scores" = some m.cls := findClass_of_methodNamed B.named
  clear B
  have L34 : ∀  (K4 : om_M × Int32 × Int32 → Prop) (hK4 : ∀ (M : om_M) (x2 : Int32) (x3 : Int32) (H : Heap) (locs : List Loc) (ls : Array Slot), K4 (M, x2, x3) → ow_B G D cA ad (ow_A G ad) M s s.heap H locs → lv_has ls 4 [(0, .ref (ad o0)), (1, .int x1), (2, .int x2), (3, .int x3)] → W p l e rm_C_greatestDefeat s m ([.ref (ad o0), .int x1] : List Value).toArray below meth c H locs 0 0 (MQ below (ow_Ql G D cA ad Q) ([.ref (ad o0), .int x1] : List Value).toArray s 0 0 (ow_A G ad)) (F0 m 4 ls [])) (M : om_M) (x2 : Int32) (x3 : Int32)  (H : Heap) (locs : List Loc) (ls : Array Slot), wp_C_greatestDefeat_34 F o0 x1 Q  K4 M x2 x3  → ow_B G D cA ad (ow_A G ad) M s s.heap H locs → lv_has ls 4 [(0, .ref (ad o0)), (1, .int x1), (2, .int x2), (3, .int x3)] → W p l e rm_C_greatestDefeat s m ([.ref (ad o0), .int x1] : List Value).toArray below meth c H locs 0 0 (MQ below (ow_Ql G D cA ad Q) ([.ref (ad o0), .int x1] : List Value).toArray s 0 0 (ow_A G ad)) (F0 m 34 ls []) := by
    intro  K4 hK4 M x2 x3 H locs ls h hB hl
    refine lv_iinc hx hb dc_C_greatestDefeat_34 hl (k := 3) rfl rfl (by decide) rfl (fun ls hl => ?_)
    refine lv_goto hx hb dc_C_greatestDefeat_37 rfl ?_
    exact hK4 _ _ _ _ _ _ h hB (lv_sub hl [1, 2, 3, 0] rfl)
  have B4 : ∀   (K4 : om_M × Int32 × Int32 → Prop) (hK4 : ∀ (M : om_M) (x2 : Int32) (x3 : Int32) (H : Heap) (locs : List Loc) (ls : Array Slot), K4 (M, x2, x3) → ow_B G D cA ad (ow_A G ad) M s s.heap H locs → lv_has ls 4 [(0, .ref (ad o0)), (1, .int x1), (2, .int x2), (3, .int x3)] → W p l e rm_C_greatestDefeat s m ([.ref (ad o0), .int x1] : List Value).toArray below meth c H locs 0 0 (MQ below (ow_Ql G D cA ad Q) ([.ref (ad o0), .int x1] : List Value).toArray s 0 0 (ow_A G ad)) (F0 m 4 ls [])) (M : om_M) (x2 : Int32) (x3 : Int32) (H : Heap) (locs : List Loc) (ls : Array Slot), wp_C_greatestDefeat_4b F o0 x1 Q   K4 M x2 x3 → ow_B G D cA ad (ow_A G ad) M s s.heap H locs → lv_has ls 4 [(0, .ref (ad o0)), (1, .int x1), (2, .int x2), (3, .int x3)] → W p l e rm_C_greatestDefeat s m ([.ref (ad o0), .int x1] : List Value).toArray below meth c H locs 0 0 (MQ below (ow_Ql G D cA ad Q) ([.ref (ad o0), .int x1] : List Value).toArray s 0 0 (ow_A G ad)) (F0 m 4 ls []) := by
    intro   K4 hK4 M x2 x3 H locs ls h hB hl
    refine lv_iload_n hx hb dc_C_greatestDefeat_4 rfl (lv_at hl 3 rfl) ?_
    refine lv_aload_n hx hb dc_C_greatestDefeat_5 rfl (lv_at hl 0 rfl) ?_
    refine ow_get hx hb hts iw_P hown hB k0 rfl 5 (by decide) mw_66 rfl dc_C_greatestDefeat_6 ?_
    obtain ⟨h1, h2⟩ := h
    refine lv_icmp_ge hx hb dc_C_greatestDefeat_9 rfl (fun hc => ?_) (fun hc => ?_)
    · have h := h1 hc
      refine lv_iload_n hx hb dc_C_greatestDefeat_40 rfl (lv_at hl 2 rfl) ?_
      refine lv_i2l hx hb dc_C_greatestDefeat_41 rfl ?_
      exact ow_lret hx hb hr hlocks hB h dc_C_greatestDefeat_42
    · have h := h2 hc
      refine lv_aload_n hx hb dc_C_greatestDefeat_12 rfl (lv_at hl 0 rfl) ?_
      refine lv_iload_n hx hb dc_C_greatestDefeat_13 rfl (lv_at hl 3 rfl) ?_
      refine lv_iload_n hx hb dc_C_greatestDefeat_14 rfl (lv_at hl 1 rfl) ?_
      refine ow_calli (va_runV (As := [.int x3, .int x1]) (rest := []) ⟨hx, hb, hml, hown, hts⟩ (ct_P_beats l G hG D cA ad F _ k0 _ _ _ _ h) ⟨ow_cb 2 hts mw_526 mw_2 mw_600 rfl rfl hd_P_beats ⟨Nat.le_of_ble_eq_true rfl, Nat.le_of_ble_eq_true rfl⟩, hts _ mw_524, hts _ mw_525⟩ (ow_preV hB k0 rfl) rfl rfl hl.1 rfl (lv_room (Nat.le_of_ble_eq_true rfl)) dc_C_greatestDefeat_15 ⟨Nat.zero_le _, Nat.zero_le _⟩) hB (fun r2 M1 H locs h hB => ?_)
      obtain ⟨h1, h2⟩ := h
      refine lv_if_eq hx hb dc_C_greatestDefeat_18 rfl (fun hc => ?_) (fun hc => ?_)
      · have h := h1 hc
        exact L34 K4 hK4 _ _ _ _ _ _ h hB (lv_sub hl [0, 1, 2, 3] rfl)
      · have h := h2 hc
        refine lv_iload_n hx hb dc_C_greatestDefeat_21 rfl (lv_at hl 2 rfl) ?_
        refine lv_aload_n hx hb dc_C_greatestDefeat_22 rfl (lv_at hl 0 rfl) ?_
        refine ow_get hx hb hts iw_P hown hB k0 rfl 4 (by decide) mw_56 rfl dc_C_greatestDefeat_23 ?_
        refine lv_iload_n hx hb dc_C_greatestDefeat_26 rfl (lv_at hl 3 rfl) ?_
        obtain ⟨hi3, h⟩ := h
        refine ow_aald hx hb hB (ly_P_ahead hG k0) (by decide) hi3 dc_C_greatestDefeat_27 ?_
        refine lv_iload_n hx hb dc_C_greatestDefeat_28 rfl (lv_at hl 1 rfl) ?_
        obtain ⟨hi4, h⟩ := h
        refine ow_iald hx hb hB (ly_row2 hG (ly_P_ahead hG k0) hi3) hi4 dc_C_greatestDefeat_29 ?_
        refine va_mmax hx hb (hml.trans hl.1.symm) hown (hts _ mw_601) (hts _ mw_546) (hts _ mw_19) (hts _ mw_547) (Nat.le_of_ble_eq_true rfl) (Nat.le_of_ble_eq_true rfl) (Nat.zero_le _) (Nat.zero_le _) dc_C_greatestDefeat_30 ?_
        refine lv_istore_n hx hb dc_C_greatestDefeat_33 rfl hl (by decide) rfl (fun ls hl => ?_)
        exact L34 K4 hK4 _ _ _ _ _ _ h hB (lv_sub hl [1, 2, 0, 3] rfl)
  have L4 : ∀   (M : om_M) (x2 : Int32) (x3 : Int32) (H : Heap) (locs : List Loc) (ls : Array Slot), wp_C_greatestDefeat_4 F o0 x1 Q   M x2 x3 → ow_B G D cA ad (ow_A G ad) M s s.heap H locs → lv_has ls 4 [(0, .ref (ad o0)), (1, .int x1), (2, .int x2), (3, .int x3)] → W p l e rm_C_greatestDefeat s m ([.ref (ad o0), .int x1] : List Value).toArray below meth c H locs 0 0 (MQ below (ow_Ql G D cA ad Q) ([.ref (ad o0), .int x1] : List Value).toArray s 0 0 (ow_A G ad)) (F0 m 4 ls []) := by
    have step : ∀ (k : Nat) (M : om_M) (x2 : Int32) (x3 : Int32) (H : Heap) (locs : List Loc) (ls : Array Slot), ow_lp (fun (z : om_M × Int32 × Int32) K => wp_C_greatestDefeat_4b F o0 x1 Q   K z.1 z.2.1 z.2.2) k (M, x2, x3) → ow_B G D cA ad (ow_A G ad) M s s.heap H locs → lv_has ls 4 [(0, .ref (ad o0)), (1, .int x1), (2, .int x2), (3, .int x3)] → W p l e rm_C_greatestDefeat s m ([.ref (ad o0), .int x1] : List Value).toArray below meth c H locs 0 0 (MQ below (ow_Ql G D cA ad Q) ([.ref (ad o0), .int x1] : List Value).toArray s 0 0 (ow_A G ad)) (F0 m 4 ls []) := by
      intro k
      induction k with
      | zero => intro M x2 x3 H locs ls h hB hl; exact False.elim h
      | succ k ih => intro M x2 x3 H locs ls h hB hl; exact B4   (ow_lp _ k) (fun M x2 x3 H locs ls h hB  hl => ih M x2 x3  H locs ls h hB hl) M x2 x3 H locs ls h hB hl
    intro M x2 x3 H locs ls h hB hl
    exact step F M x2 x3 H locs ls h hB hl
  have hl := lv_entry ([.ref (ad o0), .int x1]) (n := 4) (Nat.le_of_ble_eq_true rfl)
  rw [lg_entry_eq]
  generalize (lg_sl ([.ref (ad o0), .int x1]) ++ List.replicate (4 - (lg_sl ([.ref (ad o0), .int x1])).length) Slot.unset).toArray = ls at hl ⊢
  have hl : lv_has ls 4 [(0, .ref (ad o0)), (1, .int x1)] := hl
  show W p l e rm_C_greatestDefeat s m _ below meth c s.heap [] 0 0 _ _
  refine lv_iconst (v := 0) hx hb dc_C_greatestDefeat_0 rfl ?_
  refine lv_istore_n hx hb dc_C_greatestDefeat_1 rfl hl (by decide) rfl (fun ls hl => ?_)
  refine lv_iconst (v := 0) hx hb dc_C_greatestDefeat_2 rfl ?_
  refine lv_istore_n hx hb dc_C_greatestDefeat_3 rfl hl (by decide) rfl (fun ls hl => ?_)
  exact L4 _ _ _ _ _ _ h hB (lv_sub hl [2, 3, 1, 0] rfl)
abbrev rm_C_wins : Room := { frames := 1, cells := 0, slots := 0, locals := 22 }
theorem hd_C_wins : yn_C_wins.cls ≠ "java/lang/invoke/MethodHandle" ∧ yn_C_wins.cls ≠ "java/lang/invoke/VarHandle" ∧ (parseMethodDescriptor yn_C_wins.desc).map (fun d => d.parameters.length) = some 2 := by decide +kernel
set_option maxHeartbeats 4000000 in
set_option maxRecDepth 100000 in
theorem ct_C_wins (l : Launch) (G : List (Nat × Nat)) (hG : ow_lay G) (D : va_G) (cA : Nat → ClassId) (ad : Nat → Nat) (F : Nat) (o0 : Nat) (k0 : ow_kd G o0 = (3, 1)) (x1 : Int32) (M : om_M) (Q : Int64 → om_M → Prop) (h : wp_C_wins F o0 x1 M Q) : Met l yn_C_wins (ow_ws yn_C_wins cb_C_wins 4 (some .long)) rm_C_wins (ow_Pc G D cA ad M [.ref (ad o0), .int x1]) (ow_Ql G D cA ad Q) 0 0 (ow_A G ad) := by
  refine Met.ofW (cc := cb_C_wins) (maxL := 4) (ret := (some .long)) (by decide) rfl ?_
  intro p e s m args below meth c s₁ B hml hv
  obtain ⟨rfl, hB⟩ := hv
  have hx := B.exec
  have hb := B.bytes
  have hr := B.returns
  have hlocks := B.notSynchronized
  have hts : ∀ w ∈ lw_g, w.before ([.ref (ad o0), .int x1] : List Value).toArray s = true := fun w h => atoms_spec (ws := ow_ws yn_C_wins cb_C_wins 4 (some .long)) B.pre w (List.mem_cons_of_mem _ h)
  have hown : s.vm.findClass "BallotDesk$Scores" = some m.cls := findClass_of_methodNamed B.named
  clear B
  have L43 : ∀  (K4 : om_M × Int32 × Int32 → Prop) (hK4 : ∀ (M : om_M) (x2 : Int32) (x3 : Int32) (H : Heap) (locs : List Loc) (ls : Array Slot), K4 (M, x2, x3) → ow_B G D cA ad (ow_A G ad) M s s.heap H locs → lv_has ls 4 [(0, .ref (ad o0)), (1, .int x1), (2, .int x2), (3, .int x3)] → W p l e rm_C_wins s m ([.ref (ad o0), .int x1] : List Value).toArray below meth c H locs 0 0 (MQ below (ow_Ql G D cA ad Q) ([.ref (ad o0), .int x1] : List Value).toArray s 0 0 (ow_A G ad)) (F0 m 4 ls [])) (M : om_M) (x2 : Int32) (x3 : Int32)  (H : Heap) (locs : List Loc) (ls : Array Slot), wp_C_wins_43 F o0 x1 Q  K4 M x2 x3  → ow_B G D cA ad (ow_A G ad) M s s.heap H locs → lv_has ls 4 [(0, .ref (ad o0)), (1, .int x1), (2, .int x2), (3, .int x3)] → W p l e rm_C_wins s m ([.ref (ad o0), .int x1] : List Value).toArray below meth c H locs 0 0 (MQ below (ow_Ql G D cA ad Q) ([.ref (ad o0), .int x1] : List Value).toArray s 0 0 (ow_A G ad)) (F0 m 43 ls []) := by
    intro  K4 hK4 M x2 x3 H locs ls h hB hl
    refine lv_iinc hx hb dc_C_wins_43 hl (k := 3) rfl rfl (by decide) rfl (fun ls hl => ?_)
    refine lv_goto hx hb dc_C_wins_46 rfl ?_
    exact hK4 _ _ _ _ _ _ h hB (lv_sub hl [1, 2, 3, 0] rfl)
  have L41 : ∀  (K4 : om_M × Int32 × Int32 → Prop) (hK4 : ∀ (M : om_M) (x2 : Int32) (x3 : Int32) (H : Heap) (locs : List Loc) (ls : Array Slot), K4 (M, x2, x3) → ow_B G D cA ad (ow_A G ad) M s s.heap H locs → lv_has ls 4 [(0, .ref (ad o0)), (1, .int x1), (2, .int x2), (3, .int x3)] → W p l e rm_C_wins s m ([.ref (ad o0), .int x1] : List Value).toArray below meth c H locs 0 0 (MQ below (ow_Ql G D cA ad Q) ([.ref (ad o0), .int x1] : List Value).toArray s 0 0 (ow_A G ad)) (F0 m 4 ls [])) (M : om_M) (x3 : Int32) (t0 : Int32) (t1 : Int32) (H : Heap) (locs : List Loc) (ls : Array Slot), wp_C_wins_41 F o0 x1 Q  K4 M x3 t0 t1 → ow_B G D cA ad (ow_A G ad) M s s.heap H locs → lv_has ls 4 [(0, .ref (ad o0)), (1, .int x1), (3, .int x3)] → W p l e rm_C_wins s m ([.ref (ad o0), .int x1] : List Value).toArray below meth c H locs 0 0 (MQ below (ow_Ql G D cA ad Q) ([.ref (ad o0), .int x1] : List Value).toArray s 0 0 (ow_A G ad)) (F0 m 41 ls [.int t1, .int t0]) := by
    intro  K4 hK4 M x3 t0 t1 H locs ls h hB hl
    refine lv_iadd hx hb dc_C_wins_41 ?_
    refine lv_istore_n hx hb dc_C_wins_42 rfl hl (by decide) rfl (fun ls hl => ?_)
    exact L43 K4 hK4 _ _ _ _ _ _ h hB (lv_sub hl [1, 2, 0, 3] rfl)
  have B4 : ∀   (K4 : om_M × Int32 × Int32 → Prop) (hK4 : ∀ (M : om_M) (x2 : Int32) (x3 : Int32) (H : Heap) (locs : List Loc) (ls : Array Slot), K4 (M, x2, x3) → ow_B G D cA ad (ow_A G ad) M s s.heap H locs → lv_has ls 4 [(0, .ref (ad o0)), (1, .int x1), (2, .int x2), (3, .int x3)] → W p l e rm_C_wins s m ([.ref (ad o0), .int x1] : List Value).toArray below meth c H locs 0 0 (MQ below (ow_Ql G D cA ad Q) ([.ref (ad o0), .int x1] : List Value).toArray s 0 0 (ow_A G ad)) (F0 m 4 ls [])) (M : om_M) (x2 : Int32) (x3 : Int32) (H : Heap) (locs : List Loc) (ls : Array Slot), wp_C_wins_4b F o0 x1 Q   K4 M x2 x3 → ow_B G D cA ad (ow_A G ad) M s s.heap H locs → lv_has ls 4 [(0, .ref (ad o0)), (1, .int x1), (2, .int x2), (3, .int x3)] → W p l e rm_C_wins s m ([.ref (ad o0), .int x1] : List Value).toArray below meth c H locs 0 0 (MQ below (ow_Ql G D cA ad Q) ([.ref (ad o0), .int x1] : List Value).toArray s 0 0 (ow_A G ad)) (F0 m 4 ls []) := by
    intro   K4 hK4 M x2 x3 H locs ls h hB hl
    refine lv_iload_n hx hb dc_C_wins_4 rfl (lv_at hl 3 rfl) ?_
    refine lv_aload_n hx hb dc_C_wins_5 rfl (lv_at hl 0 rfl) ?_
    refine ow_get hx hb hts iw_P hown hB k0 rfl 5 (by decide) mw_66 rfl dc_C_wins_6 ?_
    obtain ⟨h1, h2⟩ := h
    refine lv_icmp_ge hx hb dc_C_wins_9 rfl (fun hc => ?_) (fun hc => ?_)
    · have h := h1 hc
      refine lv_iload_n hx hb dc_C_wins_49 rfl (lv_at hl 2 rfl) ?_
      refine lv_i2l hx hb dc_C_wins_50 rfl ?_
      exact ow_lret hx hb hr hlocks hB h dc_C_wins_51
    · have h := h2 hc
      refine lv_iload_n hx hb dc_C_wins_12 rfl (lv_at hl 3 rfl) ?_
      refine lv_iload_n hx hb dc_C_wins_13 rfl (lv_at hl 1 rfl) ?_
      obtain ⟨h1, h2⟩ := h
      refine lv_icmp_eq hx hb dc_C_wins_14 rfl (fun hc => ?_) (fun hc => ?_)
      · have h := h1 hc
        exact L43 K4 hK4 _ _ _ _ _ _ h hB (lv_sub hl [0, 1, 2, 3] rfl)
      · have h := h2 hc
        refine lv_aload_n hx hb dc_C_wins_17 rfl (lv_at hl 0 rfl) ?_
        refine lv_iload_n hx hb dc_C_wins_18 rfl (lv_at hl 3 rfl) ?_
        refine lv_iload_n hx hb dc_C_wins_19 rfl (lv_at hl 1 rfl) ?_
        refine ow_calli (va_runV (As := [.int x3, .int x1]) (rest := []) ⟨hx, hb, hml, hown, hts⟩ (ct_P_beats l G hG D cA ad F _ k0 _ _ _ _ h) ⟨ow_cb 2 hts mw_526 mw_2 mw_600 rfl rfl hd_P_beats ⟨Nat.le_of_ble_eq_true rfl, Nat.le_of_ble_eq_true rfl⟩, hts _ mw_524, hts _ mw_525⟩ (ow_preV hB k0 rfl) rfl rfl hl.1 rfl (lv_room (Nat.le_of_ble_eq_true rfl)) dc_C_wins_20 ⟨Nat.zero_le _, Nat.zero_le _⟩) hB (fun r2 M1 H locs h hB => ?_)
        obtain ⟨h1, h2⟩ := h
        refine lv_if_ne hx hb dc_C_wins_23 rfl (fun hc => ?_) (fun hc => ?_)
        · have h := h2 hc
          exact L43 K4 hK4 _ _ _ _ _ _ h hB (lv_sub hl [0, 1, 2, 3] rfl)
        · have h := h1 hc
          refine lv_iload_n hx hb dc_C_wins_26 rfl (lv_at hl 2 rfl) ?_
          refine lv_aload_n hx hb dc_C_wins_27 rfl (lv_at hl 0 rfl) ?_
          refine lv_iload_n hx hb dc_C_wins_28 rfl (lv_at hl 1 rfl) ?_
          refine lv_iload_n hx hb dc_C_wins_29 rfl (lv_at hl 3 rfl) ?_
          refine ow_calli (va_runV (As := [.int x1, .int x3]) (rest := [.int x2]) ⟨hx, hb, hml, hown, hts⟩ (ct_P_beats l G hG D cA ad F _ k0 _ _ _ _ h) ⟨ow_cb 2 hts mw_526 mw_2 mw_600 rfl rfl hd_P_beats ⟨Nat.le_of_ble_eq_true rfl, Nat.le_of_ble_eq_true rfl⟩, hts _ mw_524, hts _ mw_525⟩ (ow_preV hB k0 rfl) rfl rfl hl.1 rfl (lv_room (Nat.le_of_ble_eq_true rfl)) dc_C_wins_30 ⟨Nat.zero_le _, Nat.zero_le _⟩) hB (fun r4 M3 H locs h hB => ?_)
          obtain ⟨h1, h2⟩ := h
          refine lv_if_eq hx hb dc_C_wins_33 rfl (fun hc => ?_) (fun hc => ?_)
          · have h := h1 hc
            refine lv_iconst (v := 1) hx hb dc_C_wins_40 rfl ?_
            exact L41 K4 hK4 _ _ _ _ _ _ _ h hB (lv_sub hl [0, 1, 3] rfl)
          · have h := h2 hc
            refine lv_iconst (v := 2) hx hb dc_C_wins_36 rfl ?_
            refine lv_goto hx hb dc_C_wins_37 rfl ?_
            exact L41 K4 hK4 _ _ _ _ _ _ _ h hB (lv_sub hl [0, 1, 3] rfl)
  have L4 : ∀   (M : om_M) (x2 : Int32) (x3 : Int32) (H : Heap) (locs : List Loc) (ls : Array Slot), wp_C_wins_4 F o0 x1 Q   M x2 x3 → ow_B G D cA ad (ow_A G ad) M s s.heap H locs → lv_has ls 4 [(0, .ref (ad o0)), (1, .int x1), (2, .int x2), (3, .int x3)] → W p l e rm_C_wins s m ([.ref (ad o0), .int x1] : List Value).toArray below meth c H locs 0 0 (MQ below (ow_Ql G D cA ad Q) ([.ref (ad o0), .int x1] : List Value).toArray s 0 0 (ow_A G ad)) (F0 m 4 ls []) := by
    have step : ∀ (k : Nat) (M : om_M) (x2 : Int32) (x3 : Int32) (H : Heap) (locs : List Loc) (ls : Array Slot), ow_lp (fun (z : om_M × Int32 × Int32) K => wp_C_wins_4b F o0 x1 Q   K z.1 z.2.1 z.2.2) k (M, x2, x3) → ow_B G D cA ad (ow_A G ad) M s s.heap H locs → lv_has ls 4 [(0, .ref (ad o0)), (1, .int x1), (2, .int x2), (3, .int x3)] → W p l e rm_C_wins s m ([.ref (ad o0), .int x1] : List Value).toArray below meth c H locs 0 0 (MQ below (ow_Ql G D cA ad Q) ([.ref (ad o0), .int x1] : List Value).toArray s 0 0 (ow_A G ad)) (F0 m 4 ls []) := by
      intro k
      induction k with
      | zero => intro M x2 x3 H locs ls h hB hl; exact False.elim h
      | succ k ih => intro M x2 x3 H locs ls h hB hl; exact B4   (ow_lp _ k) (fun M x2 x3 H locs ls h hB  hl => ih M x2 x3  H locs ls h hB hl) M x2 x3 H locs ls h hB hl
    intro M x2 x3 H locs ls h hB hl
    exact step F M x2 x3 H locs ls h hB hl
  have hl := lv_entry ([.ref (ad o0), .int x1]) (n := 4) (Nat.le_of_ble_eq_true rfl)
  rw [lg_entry_eq]
  generalize (lg_sl ([.ref (ad o0), .int x1]) ++ List.replicate (4 - (lg_sl ([.ref (ad o0), .int x1])).length) Slot.unset).toArray = ls at hl ⊢
  have hl : lv_has ls 4 [(0, .ref (ad o0)), (1, .int x1)] := hl
  show W p l e rm_C_wins s m _ below meth c s.heap [] 0 0 _ _
  refine lv_iconst (v := 0) hx hb dc_C_wins_0 rfl ?_
  refine lv_istore_n hx hb dc_C_wins_1 rfl hl (by decide) rfl (fun ls hl => ?_)
  refine lv_iconst (v := 0) hx hb dc_C_wins_2 rfl ?_
  refine lv_istore_n hx hb dc_C_wins_3 rfl hl (by decide) rfl (fun ls hl => ?_)
  exact L4 _ _ _ _ _ _ h hB (lv_sub hl [2, 3, 1, 0] rfl)
abbrev rm_C_of : Room := { frames := 2, cells := 0, slots := 0, locals := 45 }
theorem hd_C_of : yn_C_of.cls ≠ "java/lang/invoke/MethodHandle" ∧ yn_C_of.cls ≠ "java/lang/invoke/VarHandle" ∧ (parseMethodDescriptor yn_C_of.desc).map (fun d => d.parameters.length) = some 3 := by decide +kernel
set_option maxHeartbeats 4000000 in
set_option maxRecDepth 100000 in
theorem ct_C_of (l : Launch) (G : List (Nat × Nat)) (hG : ow_lay G) (D : va_G) (cA : Nat → ClassId) (ad : Nat → Nat) (F : Nat) (o0 : Nat) (k0 : ow_kd G o0 = (3, 1)) (x1 : Int32) (x2 : Int32) (M : om_M) (Q : Int64 → om_M → Prop) (h : wp_C_of F o0 x1 x2 M Q) : Met l yn_C_of (ow_ws yn_C_of cb_C_of 3 (some .long)) rm_C_of (ow_Pc G D cA ad M [.ref (ad o0), .int x1, .int x2]) (ow_Ql G D cA ad Q) 0 0 (ow_A G ad) := by
  refine Met.ofW (cc := cb_C_of) (maxL := 3) (ret := (some .long)) (by decide) rfl ?_
  intro p e s m args below meth c s₁ B hml hv
  obtain ⟨rfl, hB⟩ := hv
  have hx := B.exec
  have hb := B.bytes
  have hr := B.returns
  have hlocks := B.notSynchronized
  have hts : ∀ w ∈ lw_g, w.before ([.ref (ad o0), .int x1, .int x2] : List Value).toArray s = true := fun w h => atoms_spec (ws := ow_ws yn_C_of cb_C_of 3 (some .long)) B.pre w (List.mem_cons_of_mem _ h)
  have hown : s.vm.findClass "BallotDesk$Scores" = some m.cls := findClass_of_methodNamed B.named
  clear B
  have hl := lv_entry ([.ref (ad o0), .int x1, .int x2]) (n := 3) (Nat.le_of_ble_eq_true rfl)
  rw [lg_entry_eq]
  generalize (lg_sl ([.ref (ad o0), .int x1, .int x2]) ++ List.replicate (3 - (lg_sl ([.ref (ad o0), .int x1, .int x2])).length) Slot.unset).toArray = ls at hl ⊢
  have hl : lv_has ls 3 [(0, .ref (ad o0)), (1, .int x1), (2, .int x2)] := hl
  show W p l e rm_C_of s m _ below meth c s.heap [] 0 0 _ _
  refine lv_iload_n hx hb dc_C_of_0 rfl (lv_at hl 1 rfl) ?_
  obtain ⟨h1, h2⟩ := h
  by_cases hc0 : x1 = 0
  · have h := h1 hc0
    refine lv_tableIn hx hb dc_C_of_1 (by rw [hc0]; decide) (by rw [hc0]; decide) (by rw [hc0]; rfl) rfl ?_
    refine lv_aload_n hx hb dc_C_of_40 rfl (lv_at hl 0 rfl) ?_
    refine ow_get hx hb hts iw_P hown hB k0 rfl 3 (by decide) mw_51 rfl dc_C_of_41 ?_
    refine lv_iload_n hx hb dc_C_of_44 rfl (lv_at hl 2 rfl) ?_
    obtain ⟨hi13, h⟩ := h
    refine ow_aald hx hb hB (ly_P_placed hG k0) (by decide) hi13 dc_C_of_45 ?_
    refine lv_iconst (v := 0) hx hb dc_C_of_46 rfl ?_
    obtain ⟨hi14, h⟩ := h
    refine ow_iald hx hb hB (ly_row2 hG (ly_P_placed hG k0) hi13) hi14 dc_C_of_47 ?_
    refine lv_i2l hx hb dc_C_of_48 rfl ?_
    exact ow_lret hx hb hr hlocks hB h dc_C_of_49
  · have h := h2 hc0
    obtain ⟨h1, h2⟩ := h
    by_cases hc1 : x1 = 1
    · have h := h1 hc1
      refine lv_tableIn hx hb dc_C_of_1 (by rw [hc1]; decide) (by rw [hc1]; decide) (by rw [hc1]; rfl) rfl ?_
      refine lv_aload_n hx hb dc_C_of_50 rfl (lv_at hl 0 rfl) ?_
      refine ow_get hx hb hts iw_P hown hB k0 rfl 3 (by decide) mw_51 rfl dc_C_of_51 ?_
      refine lv_iload_n hx hb dc_C_of_54 rfl (lv_at hl 2 rfl) ?_
      obtain ⟨hi11, h⟩ := h
      refine ow_aald hx hb hB (ly_P_placed hG k0) (by decide) hi11 dc_C_of_55 ?_
      refine lv_aload_n hx hb dc_C_of_56 rfl (lv_at hl 0 rfl) ?_
      refine ow_get hx hb hts iw_P hown hB k0 rfl 5 (by decide) mw_66 rfl dc_C_of_57 ?_
      refine lv_iconst (v := 1) hx hb dc_C_of_60 rfl ?_
      refine lv_isub hx hb dc_C_of_61 ?_
      obtain ⟨hi12, h⟩ := h
      refine ow_iald hx hb hB (ly_row2 hG (ly_P_placed hG k0) hi11) hi12 dc_C_of_62 ?_
      refine lv_i2l hx hb dc_C_of_63 rfl ?_
      exact ow_lret hx hb hr hlocks hB h dc_C_of_64
    · have h := h2 hc1
      obtain ⟨h1, h2⟩ := h
      by_cases hc2 : x1 = 2
      · have h := h1 hc2
        refine lv_tableIn hx hb dc_C_of_1 (by rw [hc2]; decide) (by rw [hc2]; decide) (by rw [hc2]; rfl) rfl ?_
        refine lv_aload_n hx hb dc_C_of_65 rfl (lv_at hl 0 rfl) ?_
        refine lv_iload_n hx hb dc_C_of_66 rfl (lv_at hl 2 rfl) ?_
        refine ow_calll (va_runS (As := [.ref (ad o0), .int x2]) (rest := []) ⟨hx, hb, hml, hown, hts⟩ (ct_C_points l G hG D cA ad F _ k0 _ _ _ h) ⟨ow_cb 2 hts mw_596 mw_21 mw_594 rfl rfl hd_C_points ⟨Nat.le_of_ble_eq_true rfl, Nat.le_of_ble_eq_true rfl⟩, hts _ mw_595⟩ (ow_preS hB) rfl rfl hl.1 rfl (lv_room (Nat.le_of_ble_eq_true rfl)) dc_C_of_67 ⟨Nat.zero_le _, Nat.zero_le _⟩) hB (fun r10 M9 H locs h hB => ?_)
        exact ow_lret hx hb hr hlocks hB h dc_C_of_70
      · have h := h2 hc2
        obtain ⟨h1, h2⟩ := h
        by_cases hc3 : x1 = 3
        · have h := h1 hc3
          refine lv_tableIn hx hb dc_C_of_1 (by rw [hc3]; decide) (by rw [hc3]; decide) (by rw [hc3]; rfl) rfl ?_
          refine lv_aload_n hx hb dc_C_of_77 rfl (lv_at hl 0 rfl) ?_
          refine lv_iload_n hx hb dc_C_of_78 rfl (lv_at hl 2 rfl) ?_
          refine ow_calll (va_runS (As := [.ref (ad o0), .int x2]) (rest := []) ⟨hx, hb, hml, hown, hts⟩ (ct_C_wins l G hG D cA ad F _ k0 _ _ _ h) ⟨ow_cb 2 hts mw_604 mw_21 mw_602 rfl rfl hd_C_wins ⟨Nat.le_of_ble_eq_true rfl, Nat.le_of_ble_eq_true rfl⟩, hts _ mw_603⟩ (ow_preS hB) rfl rfl hl.1 rfl (lv_room (Nat.le_of_ble_eq_true rfl)) dc_C_of_79 ⟨Nat.zero_le _, Nat.zero_le _⟩) hB (fun r8 M7 H locs h hB => ?_)
          exact ow_lret hx hb hr hlocks hB h dc_C_of_82
        · have h := h2 hc3
          obtain ⟨h1, h2⟩ := h
          by_cases hc4 : x1 = 4
          · have h := h1 hc4
            refine lv_tableIn hx hb dc_C_of_1 (by rw [hc4]; decide) (by rw [hc4]; decide) (by rw [hc4]; rfl) rfl ?_
            refine lv_aload_n hx hb dc_C_of_77 rfl (lv_at hl 0 rfl) ?_
            refine lv_iload_n hx hb dc_C_of_78 rfl (lv_at hl 2 rfl) ?_
            refine ow_calll (va_runS (As := [.ref (ad o0), .int x2]) (rest := []) ⟨hx, hb, hml, hown, hts⟩ (ct_C_wins l G hG D cA ad F _ k0 _ _ _ h) ⟨ow_cb 2 hts mw_604 mw_21 mw_602 rfl rfl hd_C_wins ⟨Nat.le_of_ble_eq_true rfl, Nat.le_of_ble_eq_true rfl⟩, hts _ mw_603⟩ (ow_preS hB) rfl rfl hl.1 rfl (lv_room (Nat.le_of_ble_eq_true rfl)) dc_C_of_79 ⟨Nat.zero_le _, Nat.zero_le _⟩) hB (fun r6 M5 H locs h hB => ?_)
            exact ow_lret hx hb hr hlocks hB h dc_C_of_82
          · have h := h2 hc4
            obtain ⟨h1, h2⟩ := h
            by_cases hc5 : x1 = 5
            · have h := h1 hc5
              refine lv_tableIn hx hb dc_C_of_1 (by rw [hc5]; decide) (by rw [hc5]; decide) (by rw [hc5]; rfl) rfl ?_
              refine lv_aload_n hx hb dc_C_of_71 rfl (lv_at hl 0 rfl) ?_
              refine lv_iload_n hx hb dc_C_of_72 rfl (lv_at hl 2 rfl) ?_
              refine ow_calll (va_runS (As := [.ref (ad o0), .int x2]) (rest := []) ⟨hx, hb, hml, hown, hts⟩ (ct_C_greatestDefeat l G hG D cA ad F _ k0 _ _ _ h) ⟨ow_cb 2 hts mw_599 mw_21 mw_597 rfl rfl hd_C_greatestDefeat ⟨Nat.le_of_ble_eq_true rfl, Nat.le_of_ble_eq_true rfl⟩, hts _ mw_598⟩ (ow_preS hB) rfl rfl hl.1 rfl (lv_room (Nat.le_of_ble_eq_true rfl)) dc_C_of_73 ⟨Nat.zero_le _, Nat.zero_le _⟩) hB (fun r4 M3 H locs h hB => ?_)
              exact ow_lret hx hb hr hlocks hB h dc_C_of_76
            · have h := h2 hc5
              refine lv_tableOut hx hb dc_C_of_1 (by have a0 := lv_neT hc0 (a := 0) rfl; have a1 := lv_neT hc1 (a := 1) rfl; have a2 := lv_neT hc2 (a := 2) rfl; have a3 := lv_neT hc3 (a := 3) rfl; have a4 := lv_neT hc4 (a := 4) rfl; have a5 := lv_neT hc5 (a := 5) rfl; omega) rfl ?_
              refine lv_aload_n hx hb dc_C_of_77 rfl (lv_at hl 0 rfl) ?_
              refine lv_iload_n hx hb dc_C_of_78 rfl (lv_at hl 2 rfl) ?_
              refine ow_calll (va_runS (As := [.ref (ad o0), .int x2]) (rest := []) ⟨hx, hb, hml, hown, hts⟩ (ct_C_wins l G hG D cA ad F _ k0 _ _ _ h) ⟨ow_cb 2 hts mw_604 mw_21 mw_602 rfl rfl hd_C_wins ⟨Nat.le_of_ble_eq_true rfl, Nat.le_of_ble_eq_true rfl⟩, hts _ mw_603⟩ (ow_preS hB) rfl rfl hl.1 rfl (lv_room (Nat.le_of_ble_eq_true rfl)) dc_C_of_79 ⟨Nat.zero_le _, Nat.zero_le _⟩) hB (fun r2 M1 H locs h hB => ?_)
              exact ow_lret hx hb hr hlocks hB h dc_C_of_82
abbrev rm_C_winnerSet : Room := { frames := 3, cells := 0, slots := 0, locals := 67 }
theorem hd_C_winnerSet : yn_C_winnerSet.cls ≠ "java/lang/invoke/MethodHandle" ∧ yn_C_winnerSet.cls ≠ "java/lang/invoke/VarHandle" ∧ (parseMethodDescriptor yn_C_winnerSet.desc).map (fun d => d.parameters.length) = some 2 := by decide +kernel
set_option maxHeartbeats 4000000 in
set_option maxRecDepth 100000 in
theorem ct_C_winnerSet (l : Launch) (G : List (Nat × Nat)) (hG : ow_lay G) (D : va_G) (cA : Nat → ClassId) (ad : Nat → Nat) (F : Nat) (o0 : Nat) (k0 : ow_kd G o0 = (3, 1)) (x1 : Int32) (M : om_M) (Q : Int32 → om_M → Prop) (h : wp_C_winnerSet F o0 x1 M Q) : Met l yn_C_winnerSet (ow_ws yn_C_winnerSet cb_C_winnerSet 9 (some .int)) rm_C_winnerSet (ow_Pc G D cA ad M [.ref (ad o0), .int x1]) (ow_Qi G D cA ad Q) 0 0 (ow_A G ad) := by
  refine Met.ofW (cc := cb_C_winnerSet) (maxL := 9) (ret := (some .int)) (by decide) rfl ?_
  intro p e s m args below meth c s₁ B hml hv
  obtain ⟨rfl, hB⟩ := hv
  have hx := B.exec
  have hb := B.bytes
  have hr := B.returns
  have hlocks := B.notSynchronized
  have hts : ∀ w ∈ lw_g, w.before ([.ref (ad o0), .int x1] : List Value).toArray s = true := fun w h => atoms_spec (ws := ow_ws yn_C_winnerSet cb_C_winnerSet 9 (some .int)) B.pre w (List.mem_cons_of_mem _ h)
  have hown : s.vm.findClass "BallotDesk$Scores" = some m.cls := findClass_of_methodNamed B.named
  clear B
  have L96 : ∀ (x2 : Int32) (K24 : om_M × Int32 × Int64 × Int32 → Prop) (hK24 : ∀ (M : om_M) (x3 : Int32) (j4 : Int64) (x6 : Int32) (H : Heap) (locs : List Loc) (ls : Array Slot), K24 (M, x3, j4, x6) → ow_B G D cA ad (ow_A G ad) M s s.heap H locs → lv_has ls 9 [(0, .ref (ad o0)), (1, .int x1), (2, .int x2), (3, .int x3), (4, .long j4), (6, .int x6)] → W p l e rm_C_winnerSet s m ([.ref (ad o0), .int x1] : List Value).toArray below meth c H locs 0 0 (MQ below (ow_Qi G D cA ad Q) ([.ref (ad o0), .int x1] : List Value).toArray s 0 0 (ow_A G ad)) (F0 m 24 ls [])) (M : om_M) (x3 : Int32) (j4 : Int64) (x6 : Int32)  (H : Heap) (locs : List Loc) (ls : Array Slot), wp_C_winnerSet_96 F o0 x1 Q x2 K24 M x3 j4 x6  → ow_B G D cA ad (ow_A G ad) M s s.heap H locs → lv_has ls 9 [(0, .ref (ad o0)), (1, .int x1), (2, .int x2), (3, .int x3), (4, .long j4), (6, .int x6)] → W p l e rm_C_winnerSet s m ([.ref (ad o0), .int x1] : List Value).toArray below meth c H locs 0 0 (MQ below (ow_Qi G D cA ad Q) ([.ref (ad o0), .int x1] : List Value).toArray s 0 0 (ow_A G ad)) (F0 m 96 ls []) := by
    intro x2 K24 hK24 M x3 j4 x6 H locs ls h hB hl
    refine lv_iinc hx hb dc_C_winnerSet_96 hl (k := 5) rfl rfl (by decide) rfl (fun ls hl => ?_)
    refine lv_goto hx hb dc_C_winnerSet_99 rfl ?_
    exact hK24 _ _ _ _ _ _ _ h hB (lv_sub hl [1, 2, 3, 4, 5, 0] rfl)
  have L81 : ∀ (x2 : Int32) (K24 : om_M × Int32 × Int64 × Int32 → Prop) (hK24 : ∀ (M : om_M) (x3 : Int32) (j4 : Int64) (x6 : Int32) (H : Heap) (locs : List Loc) (ls : Array Slot), K24 (M, x3, j4, x6) → ow_B G D cA ad (ow_A G ad) M s s.heap H locs → lv_has ls 9 [(0, .ref (ad o0)), (1, .int x1), (2, .int x2), (3, .int x3), (4, .long j4), (6, .int x6)] → W p l e rm_C_winnerSet s m ([.ref (ad o0), .int x1] : List Value).toArray below meth c H locs 0 0 (MQ below (ow_Qi G D cA ad Q) ([.ref (ad o0), .int x1] : List Value).toArray s 0 0 (ow_A G ad)) (F0 m 24 ls [])) (M : om_M) (x3 : Int32) (j4 : Int64) (x6 : Int32) (j7 : Int64)  (H : Heap) (locs : List Loc) (ls : Array Slot), wp_C_winnerSet_81 F o0 x1 Q x2 K24 M x3 j4 x6 j7  → ow_B G D cA ad (ow_A G ad) M s s.heap H locs → lv_has ls 9 [(0, .ref (ad o0)), (1, .int x1), (2, .int x2), (3, .int x3), (4, .long j4), (6, .int x6), (7, .long j7)] → W p l e rm_C_winnerSet s m ([.ref (ad o0), .int x1] : List Value).toArray below meth c H locs 0 0 (MQ below (ow_Qi G D cA ad Q) ([.ref (ad o0), .int x1] : List Value).toArray s 0 0 (ow_A G ad)) (F0 m 81 ls []) := by
    intro x2 K24 hK24 M x3 j4 x6 j7 H locs ls h hB hl
    refine lv_lload hx hb dc_C_winnerSet_81 (lv_at hl 6 rfl) ?_
    refine lv_lload hx hb dc_C_winnerSet_83 (lv_at hl 4 rfl) ?_
    obtain ⟨h1, h2⟩ := h
    refine ow_lcmp_ne hx hb dc_C_winnerSet_85 dc_C_winnerSet_86 rfl (fun hc => ?_) (fun hc => ?_)
    · have h := h2 hc
      exact L96 _ K24 hK24 _ _ _ _ _ _ _ h hB (lv_sub hl [0, 1, 2, 3, 4, 5] rfl)
    · have h := h1 hc
      refine lv_iload_n hx hb dc_C_winnerSet_89 rfl (lv_at hl 3 rfl) ?_
      refine lv_iconst (v := 1) hx hb dc_C_winnerSet_90 rfl ?_
      refine lv_iload hx hb dc_C_winnerSet_91 (lv_at hl 5 rfl) ?_
      refine lv_ishl hx hb dc_C_winnerSet_93 ?_
      refine lv_ior hx hb dc_C_winnerSet_94 ?_
      refine lv_istore_n hx hb dc_C_winnerSet_95 rfl hl (by decide) rfl (fun ls hl => ?_)
      exact L96 _ K24 hK24 _ _ _ _ _ _ _ h hB (lv_sub hl [1, 2, 3, 0, 4, 5] rfl)
  have L69 : ∀ (x2 : Int32) (K24 : om_M × Int32 × Int64 × Int32 → Prop) (hK24 : ∀ (M : om_M) (x3 : Int32) (j4 : Int64) (x6 : Int32) (H : Heap) (locs : List Loc) (ls : Array Slot), K24 (M, x3, j4, x6) → ow_B G D cA ad (ow_A G ad) M s s.heap H locs → lv_has ls 9 [(0, .ref (ad o0)), (1, .int x1), (2, .int x2), (3, .int x3), (4, .long j4), (6, .int x6)] → W p l e rm_C_winnerSet s m ([.ref (ad o0), .int x1] : List Value).toArray below meth c H locs 0 0 (MQ below (ow_Qi G D cA ad Q) ([.ref (ad o0), .int x1] : List Value).toArray s 0 0 (ow_A G ad)) (F0 m 24 ls [])) (M : om_M) (x6 : Int32) (j7 : Int64)  (H : Heap) (locs : List Loc) (ls : Array Slot), wp_C_winnerSet_69 F o0 x1 Q x2 K24 M x6 j7  → ow_B G D cA ad (ow_A G ad) M s s.heap H locs → lv_has ls 9 [(0, .ref (ad o0)), (1, .int x1), (2, .int x2), (6, .int x6), (7, .long j7)] → W p l e rm_C_winnerSet s m ([.ref (ad o0), .int x1] : List Value).toArray below meth c H locs 0 0 (MQ below (ow_Qi G D cA ad Q) ([.ref (ad o0), .int x1] : List Value).toArray s 0 0 (ow_A G ad)) (F0 m 69 ls []) := by
    intro x2 K24 hK24 M x6 j7 H locs ls h hB hl
    refine lv_lload hx hb dc_C_winnerSet_69 (lv_at hl 4 rfl) ?_
    refine lv_lstore hx hb dc_C_winnerSet_71 hl (by decide) rfl (fun ls hl => ?_)
    refine lv_iconst (v := 1) hx hb dc_C_winnerSet_73 rfl ?_
    refine lv_iload hx hb dc_C_winnerSet_74 (lv_at hl 4 rfl) ?_
    refine lv_ishl hx hb dc_C_winnerSet_76 ?_
    refine lv_istore_n hx hb dc_C_winnerSet_77 rfl hl (by decide) rfl (fun ls hl => ?_)
    refine lv_goto hx hb dc_C_winnerSet_78 rfl ?_
    exact L96 _ K24 hK24 _ _ _ _ _ _ _ h hB (lv_sub hl [2, 3, 4, 0, 1, 5] rfl)
  have B24 : ∀ (x2 : Int32)  (K24 : om_M × Int32 × Int64 × Int32 → Prop) (hK24 : ∀ (M : om_M) (x3 : Int32) (j4 : Int64) (x6 : Int32) (H : Heap) (locs : List Loc) (ls : Array Slot), K24 (M, x3, j4, x6) → ow_B G D cA ad (ow_A G ad) M s s.heap H locs → lv_has ls 9 [(0, .ref (ad o0)), (1, .int x1), (2, .int x2), (3, .int x3), (4, .long j4), (6, .int x6)] → W p l e rm_C_winnerSet s m ([.ref (ad o0), .int x1] : List Value).toArray below meth c H locs 0 0 (MQ below (ow_Qi G D cA ad Q) ([.ref (ad o0), .int x1] : List Value).toArray s 0 0 (ow_A G ad)) (F0 m 24 ls [])) (M : om_M) (x3 : Int32) (j4 : Int64) (x6 : Int32) (H : Heap) (locs : List Loc) (ls : Array Slot), wp_C_winnerSet_24b F o0 x1 Q x2  K24 M x3 j4 x6 → ow_B G D cA ad (ow_A G ad) M s s.heap H locs → lv_has ls 9 [(0, .ref (ad o0)), (1, .int x1), (2, .int x2), (3, .int x3), (4, .long j4), (6, .int x6)] → W p l e rm_C_winnerSet s m ([.ref (ad o0), .int x1] : List Value).toArray below meth c H locs 0 0 (MQ below (ow_Qi G D cA ad Q) ([.ref (ad o0), .int x1] : List Value).toArray s 0 0 (ow_A G ad)) (F0 m 24 ls []) := by
    intro x2  K24 hK24 M x3 j4 x6 H locs ls h hB hl
    refine lv_iload hx hb dc_C_winnerSet_24 (lv_at hl 5 rfl) ?_
    refine lv_aload_n hx hb dc_C_winnerSet_26 rfl (lv_at hl 0 rfl) ?_
    refine ow_get hx hb hts iw_P hown hB k0 rfl 5 (by decide) mw_66 rfl dc_C_winnerSet_27 ?_
    obtain ⟨h1, h2⟩ := h
    refine lv_icmp_ge hx hb dc_C_winnerSet_30 rfl (fun hc => ?_) (fun hc => ?_)
    · have h := h1 hc
      refine lv_iload_n hx hb dc_C_winnerSet_102 rfl (lv_at hl 3 rfl) ?_
      exact ow_iret hx hb hr hlocks hB h dc_C_winnerSet_103
    · have h := h2 hc
      refine lv_aload_n hx hb dc_C_winnerSet_33 rfl (lv_at hl 0 rfl) ?_
      refine lv_iload_n hx hb dc_C_winnerSet_34 rfl (lv_at hl 1 rfl) ?_
      refine lv_iload hx hb dc_C_winnerSet_35 (lv_at hl 5 rfl) ?_
      refine ow_calll (va_runS (As := [.ref (ad o0), .int x1, .int x6]) (rest := []) ⟨hx, hb, hml, hown, hts⟩ (ct_C_of l G hG D cA ad F _ k0 _ _ _ _ h) ⟨ow_cb 3 hts mw_593 mw_21 mw_591 rfl rfl hd_C_of ⟨Nat.le_of_ble_eq_true rfl, Nat.le_of_ble_eq_true rfl⟩, hts _ mw_592⟩ (ow_preS hB) rfl rfl hl.1 rfl (lv_room (Nat.le_of_ble_eq_true rfl)) dc_C_winnerSet_37 ⟨Nat.zero_le _, Nat.zero_le _⟩) hB (fun r2 M1 H locs h hB => ?_)
      refine lv_lstore hx hb dc_C_winnerSet_40 hl (by decide) rfl (fun ls hl => ?_)
      refine lv_iload_n hx hb dc_C_winnerSet_42 rfl (lv_at hl 4 rfl) ?_
      obtain ⟨h1, h2⟩ := h
      refine lv_if_eq hx hb dc_C_winnerSet_43 rfl (fun hc => ?_) (fun hc => ?_)
      · have h := h1 hc
        exact L69 _ K24 hK24 _ _ _ _ _ _ h hB (lv_sub hl [1, 2, 3, 6, 0] rfl)
      · have h := h2 hc
        refine lv_iload_n hx hb dc_C_winnerSet_46 rfl (lv_at hl 3 rfl) ?_
        obtain ⟨h1, h2⟩ := h
        refine lv_if_eq hx hb dc_C_winnerSet_47 rfl (fun hc => ?_) (fun hc => ?_)
        · have h := h1 hc
          refine lv_lload hx hb dc_C_winnerSet_61 (lv_at hl 0 rfl) ?_
          refine lv_lload hx hb dc_C_winnerSet_63 (lv_at hl 5 rfl) ?_
          obtain ⟨h1, h2⟩ := h
          refine ow_lcmp_le hx hb dc_C_winnerSet_65 dc_C_winnerSet_66 rfl (fun hc => ?_) (fun hc => ?_)
          · have h := h2 hc
            exact L81 _ K24 hK24 _ _ _ _ _ _ _ _ h hB (lv_sub hl [1, 2, 3, 4, 5, 6, 0] rfl)
          · have h := h1 hc
            exact L69 _ K24 hK24 _ _ _ _ _ _ h hB (lv_sub hl [1, 2, 3, 6, 0] rfl)
        · have h := h2 hc
          refine lv_lload hx hb dc_C_winnerSet_50 (lv_at hl 0 rfl) ?_
          refine lv_lload hx hb dc_C_winnerSet_52 (lv_at hl 5 rfl) ?_
          obtain ⟨h1, h2⟩ := h
          refine ow_lcmp_ge hx hb dc_C_winnerSet_54 dc_C_winnerSet_55 rfl (fun hc => ?_) (fun hc => ?_)
          · have h := h2 hc
            exact L81 _ K24 hK24 _ _ _ _ _ _ _ _ h hB (lv_sub hl [1, 2, 3, 4, 5, 6, 0] rfl)
          · have h := h1 hc
            refine lv_goto hx hb dc_C_winnerSet_58 rfl ?_
            exact L69 _ K24 hK24 _ _ _ _ _ _ h hB (lv_sub hl [1, 2, 3, 6, 0] rfl)
  have L24 : ∀ (x2 : Int32)  (M : om_M) (x3 : Int32) (j4 : Int64) (x6 : Int32) (H : Heap) (locs : List Loc) (ls : Array Slot), wp_C_winnerSet_24 F o0 x1 Q x2  M x3 j4 x6 → ow_B G D cA ad (ow_A G ad) M s s.heap H locs → lv_has ls 9 [(0, .ref (ad o0)), (1, .int x1), (2, .int x2), (3, .int x3), (4, .long j4), (6, .int x6)] → W p l e rm_C_winnerSet s m ([.ref (ad o0), .int x1] : List Value).toArray below meth c H locs 0 0 (MQ below (ow_Qi G D cA ad Q) ([.ref (ad o0), .int x1] : List Value).toArray s 0 0 (ow_A G ad)) (F0 m 24 ls []) := by
    intro x2 
    have step : ∀ (k : Nat) (M : om_M) (x3 : Int32) (j4 : Int64) (x6 : Int32) (H : Heap) (locs : List Loc) (ls : Array Slot), ow_lp (fun (z : om_M × Int32 × Int64 × Int32) K => wp_C_winnerSet_24b F o0 x1 Q x2  K z.1 z.2.1 z.2.2.1 z.2.2.2) k (M, x3, j4, x6) → ow_B G D cA ad (ow_A G ad) M s s.heap H locs → lv_has ls 9 [(0, .ref (ad o0)), (1, .int x1), (2, .int x2), (3, .int x3), (4, .long j4), (6, .int x6)] → W p l e rm_C_winnerSet s m ([.ref (ad o0), .int x1] : List Value).toArray below meth c H locs 0 0 (MQ below (ow_Qi G D cA ad Q) ([.ref (ad o0), .int x1] : List Value).toArray s 0 0 (ow_A G ad)) (F0 m 24 ls []) := by
      intro k
      induction k with
      | zero => intro M x3 j4 x6 H locs ls h hB hl; exact False.elim h
      | succ k ih => intro M x3 j4 x6 H locs ls h hB hl; exact B24 x2  (ow_lp _ k) (fun M x3 j4 x6 H locs ls h hB  hl => ih M x3 j4 x6  H locs ls h hB hl) M x3 j4 x6 H locs ls h hB hl
    intro M x3 j4 x6 H locs ls h hB hl
    exact step F M x3 j4 x6 H locs ls h hB hl
  have L15 : ∀   (M : om_M)  (t0 : Int32) (H : Heap) (locs : List Loc) (ls : Array Slot), wp_C_winnerSet_15 F o0 x1 Q   M  t0 → ow_B G D cA ad (ow_A G ad) M s s.heap H locs → lv_has ls 9 [(0, .ref (ad o0)), (1, .int x1)] → W p l e rm_C_winnerSet s m ([.ref (ad o0), .int x1] : List Value).toArray below meth c H locs 0 0 (MQ below (ow_Qi G D cA ad Q) ([.ref (ad o0), .int x1] : List Value).toArray s 0 0 (ow_A G ad)) (F0 m 15 ls [.int t0]) := by
    intro   M t0 H locs ls h hB hl
    refine lv_istore_n hx hb dc_C_winnerSet_15 rfl hl (by decide) rfl (fun ls hl => ?_)
    refine lv_iconst (v := 0) hx hb dc_C_winnerSet_16 rfl ?_
    refine lv_istore_n hx hb dc_C_winnerSet_17 rfl hl (by decide) rfl (fun ls hl => ?_)
    refine lv_lconst (v := 0) hx hb dc_C_winnerSet_18 rfl ?_
    refine lv_lstore hx hb dc_C_winnerSet_19 hl (by decide) rfl (fun ls hl => ?_)
    refine lv_iconst (v := 0) hx hb dc_C_winnerSet_21 rfl ?_
    refine lv_istore hx hb dc_C_winnerSet_22 hl (by decide) rfl (fun ls hl => ?_)
    exact L24 _ _ _ _ _ _ _ _ h hB (lv_sub hl [4, 5, 3, 2, 1, 0] rfl)
  have L10 : ∀   (M : om_M)   (H : Heap) (locs : List Loc) (ls : Array Slot), wp_C_winnerSet_10 F o0 x1 Q   M   → ow_B G D cA ad (ow_A G ad) M s s.heap H locs → lv_has ls 9 [(0, .ref (ad o0)), (1, .int x1)] → W p l e rm_C_winnerSet s m ([.ref (ad o0), .int x1] : List Value).toArray below meth c H locs 0 0 (MQ below (ow_Qi G D cA ad Q) ([.ref (ad o0), .int x1] : List Value).toArray s 0 0 (ow_A G ad)) (F0 m 10 ls []) := by
    intro   M H locs ls h hB hl
    refine lv_iconst (v := 1) hx hb dc_C_winnerSet_10 rfl ?_
    refine lv_goto hx hb dc_C_winnerSet_11 rfl ?_
    exact L15 _ _ _ _ _ h hB (lv_sub hl [0, 1] rfl)
  have hl := lv_entry ([.ref (ad o0), .int x1]) (n := 9) (Nat.le_of_ble_eq_true rfl)
  rw [lg_entry_eq]
  generalize (lg_sl ([.ref (ad o0), .int x1]) ++ List.replicate (9 - (lg_sl ([.ref (ad o0), .int x1])).length) Slot.unset).toArray = ls at hl ⊢
  have hl : lv_has ls 9 [(0, .ref (ad o0)), (1, .int x1)] := hl
  show W p l e rm_C_winnerSet s m _ below meth c s.heap [] 0 0 _ _
  refine lv_iload_n hx hb dc_C_winnerSet_0 rfl (lv_at hl 1 rfl) ?_
  refine lv_iconst (v := 1) hx hb dc_C_winnerSet_1 rfl ?_
  obtain ⟨h1, h2⟩ := h
  refine lv_icmp_eq hx hb dc_C_winnerSet_2 rfl (fun hc => ?_) (fun hc => ?_)
  · have h := h1 hc
    exact L10 _ _ _ _ h hB (lv_sub hl [0, 1] rfl)
  · have h := h2 hc
    refine lv_iload_n hx hb dc_C_winnerSet_5 rfl (lv_at hl 1 rfl) ?_
    refine lv_iconst (v := 5) hx hb dc_C_winnerSet_6 rfl ?_
    obtain ⟨h1, h2⟩ := h
    refine lv_icmp_ne hx hb dc_C_winnerSet_7 rfl (fun hc => ?_) (fun hc => ?_)
    · have h := h2 hc
      refine lv_iconst (v := 0) hx hb dc_C_winnerSet_14 rfl ?_
      exact L15 _ _ _ _ _ h hB (lv_sub hl [0, 1] rfl)
    · have h := h1 hc
      exact L10 _ _ _ _ h hB (lv_sub hl [0, 1] rfl)
