def wp_K_insert_41 (F : Nat) (o0 : Nat) (x1 : Int32) (Q : om_M → Prop)   (M : om_M) (x2 : Int32)  : Prop := vp_in x2 21 ∧ Q (om_up (om_up M (o0 + 1) x2.toNatClampNeg x1) o0 2 (((om_up M (o0 + 1) x2.toNatClampNeg x1).1 o0 2) + 1))
def wp_K_insert_5b (F : Nat) (o0 : Nat) (x1 : Int32) (Q : om_M → Prop)   (K5 : om_M × Int32 → Prop) (M : om_M) (x2 : Int32) : Prop := ((x2 ≤ 0 → wp_K_insert_41 F o0 x1 Q M x2) ∧ (¬ x2 ≤ 0 → vp_in (x2 - 1) 21 ∧ ((x1 ≤ (M.1 (o0 + 1) (x2 - 1).toNatClampNeg) → wp_K_insert_41 F o0 x1 Q M x2) ∧ (¬ x1 ≤ (M.1 (o0 + 1) (x2 - 1).toNatClampNeg) → vp_in x2 21 ∧ K5 (om_up M (o0 + 1) x2.toNatClampNeg (M.1 (o0 + 1) (x2 - 1).toNatClampNeg), x2 + (-1))))))
def wp_K_insert_5 (F : Nat) (o0 : Nat) (x1 : Int32) (Q : om_M → Prop)   (M : om_M) (x2 : Int32) : Prop := ow_lp (fun (z : om_M × Int32) K => wp_K_insert_5b F o0 x1 Q   K z.1 z.2) F (M, x2)
def wp_K_insert (F : Nat) (o0 : Nat) (x1 : Int32) (M : om_M) (Q : om_M → Prop) : Prop := wp_K_insert_5 F o0 x1 Q M (M.1 o0 2)
def wp_K_lock_53 (F : Nat) (o0 : Nat) (x1 : Int32) (x2 : Int32) (x3 : Int32) (Q : om_M → Prop) (x4 : Int32) (K15 : om_M × Int32 → Prop) (M : om_M) (x5 : Int32)  : Prop := K15 (M, x5 + 1)
def wp_K_lock_41 (F : Nat) (o0 : Nat) (x1 : Int32) (x2 : Int32) (x3 : Int32) (Q : om_M → Prop) (x4 : Int32) (K15 : om_M × Int32 → Prop) (M : om_M) (x5 : Int32)  : Prop := vp_in x5 7 ∧ wp_K_lock_53 F o0 x1 x2 x3 Q x4 K15 (om_up M (o0 + 2) x5.toNatClampNeg ((M.1 (o0 + 2) x5.toNatClampNeg) ||| x4)) x5
def wp_K_lock_15b (F : Nat) (o0 : Nat) (x1 : Int32) (x2 : Int32) (x3 : Int32) (Q : om_M → Prop) (x4 : Int32)  (K15 : om_M × Int32 → Prop) (M : om_M) (x5 : Int32) : Prop := ((x3 ≤ x5 → Q M) ∧ (¬ x3 ≤ x5 → ((x5 = x1 → wp_K_lock_41 F o0 x1 x2 x3 Q x4 K15 M x5) ∧ (¬ x5 = x1 → vp_in x5 7 ∧ (((((M.1 (o0 + 2) x5.toNatClampNeg) >>> (x1 &&& 31)) &&& 1) = 0 → wp_K_lock_53 F o0 x1 x2 x3 Q x4 K15 M x5) ∧ (¬ (((M.1 (o0 + 2) x5.toNatClampNeg) >>> (x1 &&& 31)) &&& 1) = 0 → wp_K_lock_41 F o0 x1 x2 x3 Q x4 K15 M x5))))))
def wp_K_lock_15 (F : Nat) (o0 : Nat) (x1 : Int32) (x2 : Int32) (x3 : Int32) (Q : om_M → Prop) (x4 : Int32)  (M : om_M) (x5 : Int32) : Prop := ow_lp (fun (z : om_M × Int32) K => wp_K_lock_15b F o0 x1 x2 x3 Q x4  K z.1 z.2) F (M, x5)
def wp_K_lock (F : Nat) (o0 : Nat) (x1 : Int32) (x2 : Int32) (x3 : Int32) (M : om_M) (Q : om_M → Prop) : Prop := vp_in x2 7 ∧ wp_K_lock_15 F o0 x1 x2 x3 Q ((M.1 (o0 + 2) x2.toNatClampNeg) ||| ((1 : Int32) <<< (x2 &&& 31))) M 0
def wp_K_collect_92 (F : Nat) (o0 : Nat) (o1 : Nat) (Q : om_M → Prop)  (K7 : om_M × Int32 → Prop) (M : om_M) (x2 : Int32)  : Prop := K7 (M, x2 + 1)
def wp_K_collect_86 (F : Nat) (o0 : Nat) (o1 : Nat) (Q : om_M → Prop) (x2 : Int32) (x3 : Int32) (K7 : om_M × Int32 → Prop) (K27 : om_M × Int32 → Prop) (M : om_M) (x4 : Int32)  : Prop := K27 (M, x4 + 1)
def wp_K_collect_27b (F : Nat) (o0 : Nat) (o1 : Nat) (Q : om_M → Prop) (x2 : Int32) (x3 : Int32) (K7 : om_M × Int32 → Prop) (K27 : om_M × Int32 → Prop) (M : om_M) (x4 : Int32) : Prop := (((M.1 o1 5) ≤ x4 → wp_K_collect_92 F o0 o1 Q K7 M x2) ∧ (¬ (M.1 o1 5) ≤ x4 → wp_O_at F (M.1 o1 7) x4 M (fun r2 M1 => wp_P_beats F o1 x3 r2 M1 (fun r4 M3 => ((r4 = 0 → wp_K_collect_86 F o0 o1 Q x2 x3 K7 K27 M3 x4) ∧ (¬ r4 = 0 → vp_in x3 7 ∧ vp_in r2 7 ∧ wp_K_insert F o0 ((((M3.1 (o1 + 12 + 1 + x3.toNatClampNeg) r2.toNatClampNeg) <<< ((6 : Int32) &&& 31)) ||| (((7 : Int32) - x2) <<< ((3 : Int32) &&& 31))) ||| ((7 : Int32) - x4)) M3 (fun M7 => wp_K_collect_86 F o0 o1 Q x2 x3 K7 K27 M7 x4)))))))
def wp_K_collect_27 (F : Nat) (o0 : Nat) (o1 : Nat) (Q : om_M → Prop) (x2 : Int32) (x3 : Int32) (K7 : om_M × Int32 → Prop) (M : om_M) (x4 : Int32) : Prop := ow_lp (fun (z : om_M × Int32) K => wp_K_collect_27b F o0 o1 Q x2 x3 K7 K z.1 z.2) F (M, x4)
def wp_K_collect_7b (F : Nat) (o0 : Nat) (o1 : Nat) (Q : om_M → Prop)   (K7 : om_M × Int32 → Prop) (M : om_M) (x2 : Int32) : Prop := (((M.1 o1 5) ≤ x2 → Q M) ∧ (¬ (M.1 o1 5) ≤ x2 → wp_O_at F (M.1 o1 7) x2 M (fun r9 M8 => wp_K_collect_27 F o0 o1 Q x2 r9 K7 M8 0)))
def wp_K_collect_7 (F : Nat) (o0 : Nat) (o1 : Nat) (Q : om_M → Prop)   (M : om_M) (x2 : Int32) : Prop := ow_lp (fun (z : om_M × Int32) K => wp_K_collect_7b F o0 o1 Q   K z.1 z.2) F (M, x2)
def wp_K_collect (F : Nat) (o0 : Nat) (o1 : Nat) (M : om_M) (Q : om_M → Prop) : Prop := wp_K_collect_7 F o0 o1 Q (om_up M o0 2 0) 0
def wp_K_winnerSet_108 (F : Nat) (o0 : Nat) (o1 : Nat) (Q : Int32 → om_M → Prop)  (K20 : om_M × Int32 × Int32 → Prop) (M : om_M) (x2 : Int32) (x3 : Int32)  : Prop := K20 (M, x2, x3 + 1)
def wp_K_winnerSet_20b (F : Nat) (o0 : Nat) (o1 : Nat) (Q : Int32 → om_M → Prop)   (K20 : om_M × Int32 × Int32 → Prop) (M : om_M) (x2 : Int32) (x3 : Int32) : Prop := (((M.1 o0 2) ≤ x3 → Q x2 M) ∧ (¬ (M.1 o0 2) ≤ x3 → vp_in x3 21 ∧ wp_O_at F (M.1 o1 7) ((7 : Int32) - (((M.1 (o0 + 1) x3.toNatClampNeg) >>> ((3 : Int32) &&& 31)) &&& 7)) M (fun r3 M2 => wp_O_at F (M2.1 o1 7) ((7 : Int32) - ((M2.1 (o0 + 1) x3.toNatClampNeg) &&& 7)) M2 (fun r5 M4 => vp_in r5 7 ∧ (((((M4.1 (o0 + 2) r5.toNatClampNeg) >>> (r3 &&& 31)) &&& 1) = 0 → wp_K_lock F o0 r3 r5 (M4.1 o1 5) M4 (fun M7 => wp_K_winnerSet_108 F o0 o1 Q K20 M7 (x2 &&& (((1 : Int32) <<< (r5 &&& 31)) ^^^ (-1))) x3)) ∧ (¬ (((M4.1 (o0 + 2) r5.toNatClampNeg) >>> (r3 &&& 31)) &&& 1) = 0 → wp_K_winnerSet_108 F o0 o1 Q K20 M4 x2 x3))))))
def wp_K_winnerSet_20 (F : Nat) (o0 : Nat) (o1 : Nat) (Q : Int32 → om_M → Prop)   (M : om_M) (x2 : Int32) (x3 : Int32) : Prop := ow_lp (fun (z : om_M × Int32 × Int32) K => wp_K_winnerSet_20b F o0 o1 Q   K z.1 z.2.1 z.2.2) F (M, x2, x3)
def wp_K_winnerSet (F : Nat) (o0 : Nat) (o1 : Nat) (M : om_M) (Q : Int32 → om_M → Prop) : Prop := wp_K_collect F o0 o1 M (fun M8 => wp_JA_fill F (o0 + 2) 7 0 M8 (fun M9 => wp_P_everyone F o1 M9 (fun r11 M10 => wp_K_winnerSet_20 F o0 o1 Q M10 r11 0)))
abbrev rm_K_insert : Room := { frames := 0, cells := 0, slots := 0, locals := 0 }
theorem hd_K_insert : yn_K_insert.cls ≠ "java/lang/invoke/MethodHandle" ∧ yn_K_insert.cls ≠ "java/lang/invoke/VarHandle" ∧ (parseMethodDescriptor yn_K_insert.desc).map (fun d => d.parameters.length) = some 1 := by decide +kernel
set_option maxHeartbeats 4000000 in
set_option maxRecDepth 100000 in
theorem ct_K_insert (l : Launch) (G : List (Nat × Nat)) (hG : ow_lay G) (D : va_G) (cA : Nat → ClassId) (ad : Nat → Nat) (F : Nat) (o0 : Nat) (k0 : ow_kd G o0 = (3, 5)) (x1 : Int32) (M : om_M) (Q : om_M → Prop) (h : wp_K_insert F o0 x1 M Q) : Met l yn_K_insert (ow_ws yn_K_insert cb_K_insert 3 none) rm_K_insert (ow_Pc G D cA ad M [.ref (ad o0), .int x1]) (ow_Qv G D cA ad Q) 0 0 (ow_A G ad) := by
  refine Met.ofW (cc := cb_K_insert) (maxL := 3) (ret := none) (by decide) rfl ?_
  intro p e s m args below meth c s₁ B hml hv
  obtain ⟨rfl, hB⟩ := hv
  have hx := B.exec
  have hb := B.bytes
  have hr := B.returns
  have hlocks := B.notSynchronized
  have hts : ∀ w ∈ lw_g, w.before ([.ref (ad o0), .int x1] : List Value).toArray s = true := fun w h => atoms_spec (ws := ow_ws yn_K_insert cb_K_insert 3 none) B.pre w (List.mem_cons_of_mem _ h)
  have hown : s.vm.findClass "BallotDesk$Locks" = some m.cls := findClass_of_methodNamed B.named
  clear B
  have L41 : ∀   (M : om_M) (x2 : Int32)  (H : Heap) (locs : List Loc) (ls : Array Slot), wp_K_insert_41 F o0 x1 Q   M x2  → ow_B G D cA ad (ow_A G ad) M s s.heap H locs → lv_has ls 3 [(0, .ref (ad o0)), (1, .int x1), (2, .int x2)] → W p l e rm_K_insert s m ([.ref (ad o0), .int x1] : List Value).toArray below meth c H locs 0 0 (MQ below (ow_Qv G D cA ad Q) ([.ref (ad o0), .int x1] : List Value).toArray s 0 0 (ow_A G ad)) (F0 m 41 ls []) := by
    intro   M x2 H locs ls h hB hl
    refine lv_aload_n hx hb dc_K_insert_41 rfl (lv_at hl 0 rfl) ?_
    refine ow_get hx hb hts iw_K hown hB k0 rfl 0 (by decide) mw_156 rfl dc_K_insert_42 ?_
    refine lv_iload_n hx hb dc_K_insert_45 rfl (lv_at hl 2 rfl) ?_
    refine lv_iload_n hx hb dc_K_insert_46 rfl (lv_at hl 1 rfl) ?_
    obtain ⟨hi1, h⟩ := h
    refine ow_iast hx hb hB (ly_K_keys hG k0) hi1 dc_K_insert_47 (fun H locs hB => ?_)
    refine lv_aload_n hx hb dc_K_insert_48 rfl (lv_at hl 0 rfl) ?_
    refine lv_dup hx hb dc_K_insert_49 rfl ?_
    refine ow_get hx hb hts iw_K hown hB k0 rfl 2 (by decide) mw_158 rfl dc_K_insert_50 ?_
    refine lv_iconst (v := 1) hx hb dc_K_insert_53 rfl ?_
    refine lv_iadd hx hb dc_K_insert_54 ?_
    refine ow_put hx hb hts iw_K yf_K of_K nf_K hown hB k0 rfl 2 (by decide) mw_158 rfl (by decide +kernel) (Nat.le_of_ble_eq_true rfl) rfl dc_K_insert_55 (fun H locs hB => ?_)
    exact ow_vret hx hb hr hlocks hB h dc_K_insert_58
  have B5 : ∀   (K5 : om_M × Int32 → Prop) (hK5 : ∀ (M : om_M) (x2 : Int32) (H : Heap) (locs : List Loc) (ls : Array Slot), K5 (M, x2) → ow_B G D cA ad (ow_A G ad) M s s.heap H locs → lv_has ls 3 [(0, .ref (ad o0)), (1, .int x1), (2, .int x2)] → W p l e rm_K_insert s m ([.ref (ad o0), .int x1] : List Value).toArray below meth c H locs 0 0 (MQ below (ow_Qv G D cA ad Q) ([.ref (ad o0), .int x1] : List Value).toArray s 0 0 (ow_A G ad)) (F0 m 5 ls [])) (M : om_M) (x2 : Int32) (H : Heap) (locs : List Loc) (ls : Array Slot), wp_K_insert_5b F o0 x1 Q   K5 M x2 → ow_B G D cA ad (ow_A G ad) M s s.heap H locs → lv_has ls 3 [(0, .ref (ad o0)), (1, .int x1), (2, .int x2)] → W p l e rm_K_insert s m ([.ref (ad o0), .int x1] : List Value).toArray below meth c H locs 0 0 (MQ below (ow_Qv G D cA ad Q) ([.ref (ad o0), .int x1] : List Value).toArray s 0 0 (ow_A G ad)) (F0 m 5 ls []) := by
    intro   K5 hK5 M x2 H locs ls h hB hl
    refine lv_iload_n hx hb dc_K_insert_5 rfl (lv_at hl 2 rfl) ?_
    obtain ⟨h1, h2⟩ := h
    refine lv_if_le hx hb dc_K_insert_6 rfl (fun hc => ?_) (fun hc => ?_)
    · have h := h1 hc
      exact L41 _ _ _ _ _ h hB (lv_sub hl [0, 1, 2] rfl)
    · have h := h2 hc
      refine lv_aload_n hx hb dc_K_insert_9 rfl (lv_at hl 0 rfl) ?_
      refine ow_get hx hb hts iw_K hown hB k0 rfl 0 (by decide) mw_156 rfl dc_K_insert_10 ?_
      refine lv_iload_n hx hb dc_K_insert_13 rfl (lv_at hl 2 rfl) ?_
      refine lv_iconst (v := 1) hx hb dc_K_insert_14 rfl ?_
      refine lv_isub hx hb dc_K_insert_15 ?_
      obtain ⟨hi2, h⟩ := h
      refine ow_iald hx hb hB (ly_K_keys hG k0) hi2 dc_K_insert_16 ?_
      refine lv_iload_n hx hb dc_K_insert_17 rfl (lv_at hl 1 rfl) ?_
      obtain ⟨h1, h2⟩ := h
      refine lv_icmp_ge hx hb dc_K_insert_18 rfl (fun hc => ?_) (fun hc => ?_)
      · have h := h1 hc
        exact L41 _ _ _ _ _ h hB (lv_sub hl [0, 1, 2] rfl)
      · have h := h2 hc
        refine lv_aload_n hx hb dc_K_insert_21 rfl (lv_at hl 0 rfl) ?_
        refine ow_get hx hb hts iw_K hown hB k0 rfl 0 (by decide) mw_156 rfl dc_K_insert_22 ?_
        refine lv_iload_n hx hb dc_K_insert_25 rfl (lv_at hl 2 rfl) ?_
        refine lv_aload_n hx hb dc_K_insert_26 rfl (lv_at hl 0 rfl) ?_
        refine ow_get hx hb hts iw_K hown hB k0 rfl 0 (by decide) mw_156 rfl dc_K_insert_27 ?_
        refine lv_iload_n hx hb dc_K_insert_30 rfl (lv_at hl 2 rfl) ?_
        refine lv_iconst (v := 1) hx hb dc_K_insert_31 rfl ?_
        refine lv_isub hx hb dc_K_insert_32 ?_
        refine ow_iald hx hb hB (ly_K_keys hG k0) hi2 dc_K_insert_33 ?_
        obtain ⟨hi3, h⟩ := h
        refine ow_iast hx hb hB (ly_K_keys hG k0) hi3 dc_K_insert_34 (fun H locs hB => ?_)
        refine lv_iinc hx hb dc_K_insert_35 hl (k := 2) rfl rfl (by decide) rfl (fun ls hl => ?_)
        refine lv_goto hx hb dc_K_insert_38 rfl ?_
        exact hK5 _ _ _ _ _ h hB (lv_sub hl [1, 2, 0] rfl)
  have L5 : ∀   (M : om_M) (x2 : Int32) (H : Heap) (locs : List Loc) (ls : Array Slot), wp_K_insert_5 F o0 x1 Q   M x2 → ow_B G D cA ad (ow_A G ad) M s s.heap H locs → lv_has ls 3 [(0, .ref (ad o0)), (1, .int x1), (2, .int x2)] → W p l e rm_K_insert s m ([.ref (ad o0), .int x1] : List Value).toArray below meth c H locs 0 0 (MQ below (ow_Qv G D cA ad Q) ([.ref (ad o0), .int x1] : List Value).toArray s 0 0 (ow_A G ad)) (F0 m 5 ls []) := by
    have step : ∀ (k : Nat) (M : om_M) (x2 : Int32) (H : Heap) (locs : List Loc) (ls : Array Slot), ow_lp (fun (z : om_M × Int32) K => wp_K_insert_5b F o0 x1 Q   K z.1 z.2) k (M, x2) → ow_B G D cA ad (ow_A G ad) M s s.heap H locs → lv_has ls 3 [(0, .ref (ad o0)), (1, .int x1), (2, .int x2)] → W p l e rm_K_insert s m ([.ref (ad o0), .int x1] : List Value).toArray below meth c H locs 0 0 (MQ below (ow_Qv G D cA ad Q) ([.ref (ad o0), .int x1] : List Value).toArray s 0 0 (ow_A G ad)) (F0 m 5 ls []) := by
      intro k
      induction k with
      | zero => intro M x2 H locs ls h hB hl; exact False.elim h
      | succ k ih => intro M x2 H locs ls h hB hl; exact B5   (ow_lp _ k) (fun M x2 H locs ls h hB  hl => ih M x2  H locs ls h hB hl) M x2 H locs ls h hB hl
    intro M x2 H locs ls h hB hl
    exact step F M x2 H locs ls h hB hl
  have hl := lv_entry ([.ref (ad o0), .int x1]) (n := 3) (Nat.le_of_ble_eq_true rfl)
  rw [lg_entry_eq]
  generalize (lg_sl ([.ref (ad o0), .int x1]) ++ List.replicate (3 - (lg_sl ([.ref (ad o0), .int x1])).length) Slot.unset).toArray = ls at hl ⊢
  have hl : lv_has ls 3 [(0, .ref (ad o0)), (1, .int x1)] := hl
  show W p l e rm_K_insert s m _ below meth c s.heap [] 0 0 _ _
  refine lv_aload_n hx hb dc_K_insert_0 rfl (lv_at hl 0 rfl) ?_
  refine ow_get hx hb hts iw_K hown hB k0 rfl 2 (by decide) mw_158 rfl dc_K_insert_1 ?_
  refine lv_istore_n hx hb dc_K_insert_4 rfl hl (by decide) rfl (fun ls hl => ?_)
  exact L5 _ _ _ _ _ h hB (lv_sub hl [1, 2, 0] rfl)
abbrev rm_K_lock : Room := { frames := 0, cells := 0, slots := 0, locals := 0 }
theorem hd_K_lock : yn_K_lock.cls ≠ "java/lang/invoke/MethodHandle" ∧ yn_K_lock.cls ≠ "java/lang/invoke/VarHandle" ∧ (parseMethodDescriptor yn_K_lock.desc).map (fun d => d.parameters.length) = some 3 := by decide +kernel
set_option maxHeartbeats 4000000 in
set_option maxRecDepth 100000 in
theorem ct_K_lock (l : Launch) (G : List (Nat × Nat)) (hG : ow_lay G) (D : va_G) (cA : Nat → ClassId) (ad : Nat → Nat) (F : Nat) (o0 : Nat) (k0 : ow_kd G o0 = (3, 5)) (x1 : Int32) (x2 : Int32) (x3 : Int32) (M : om_M) (Q : om_M → Prop) (h : wp_K_lock F o0 x1 x2 x3 M Q) : Met l yn_K_lock (ow_ws yn_K_lock cb_K_lock 6 none) rm_K_lock (ow_Pc G D cA ad M [.ref (ad o0), .int x1, .int x2, .int x3]) (ow_Qv G D cA ad Q) 0 0 (ow_A G ad) := by
  refine Met.ofW (cc := cb_K_lock) (maxL := 6) (ret := none) (by decide) rfl ?_
  intro p e s m args below meth c s₁ B hml hv
  obtain ⟨rfl, hB⟩ := hv
  have hx := B.exec
  have hb := B.bytes
  have hr := B.returns
  have hlocks := B.notSynchronized
  have hts : ∀ w ∈ lw_g, w.before ([.ref (ad o0), .int x1, .int x2, .int x3] : List Value).toArray s = true := fun w h => atoms_spec (ws := ow_ws yn_K_lock cb_K_lock 6 none) B.pre w (List.mem_cons_of_mem _ h)
  have hown : s.vm.findClass "BallotDesk$Locks" = some m.cls := findClass_of_methodNamed B.named
  clear B
  have L53 : ∀ (x4 : Int32) (K15 : om_M × Int32 → Prop) (hK15 : ∀ (M : om_M) (x5 : Int32) (H : Heap) (locs : List Loc) (ls : Array Slot), K15 (M, x5) → ow_B G D cA ad (ow_A G ad) M s s.heap H locs → lv_has ls 6 [(0, .ref (ad o0)), (1, .int x1), (3, .int x3), (4, .int x4), (5, .int x5)] → W p l e rm_K_lock s m ([.ref (ad o0), .int x1, .int x2, .int x3] : List Value).toArray below meth c H locs 0 0 (MQ below (ow_Qv G D cA ad Q) ([.ref (ad o0), .int x1, .int x2, .int x3] : List Value).toArray s 0 0 (ow_A G ad)) (F0 m 15 ls [])) (M : om_M) (x5 : Int32)  (H : Heap) (locs : List Loc) (ls : Array Slot), wp_K_lock_53 F o0 x1 x2 x3 Q x4 K15 M x5  → ow_B G D cA ad (ow_A G ad) M s s.heap H locs → lv_has ls 6 [(0, .ref (ad o0)), (1, .int x1), (3, .int x3), (4, .int x4), (5, .int x5)] → W p l e rm_K_lock s m ([.ref (ad o0), .int x1, .int x2, .int x3] : List Value).toArray below meth c H locs 0 0 (MQ below (ow_Qv G D cA ad Q) ([.ref (ad o0), .int x1, .int x2, .int x3] : List Value).toArray s 0 0 (ow_A G ad)) (F0 m 53 ls []) := by
    intro x4 K15 hK15 M x5 H locs ls h hB hl
    refine lv_iinc hx hb dc_K_lock_53 hl (k := 4) rfl rfl (by decide) rfl (fun ls hl => ?_)
    refine lv_goto hx hb dc_K_lock_56 rfl ?_
    exact hK15 _ _ _ _ _ h hB (lv_sub hl [1, 2, 3, 4, 0] rfl)
  have L41 : ∀ (x4 : Int32) (K15 : om_M × Int32 → Prop) (hK15 : ∀ (M : om_M) (x5 : Int32) (H : Heap) (locs : List Loc) (ls : Array Slot), K15 (M, x5) → ow_B G D cA ad (ow_A G ad) M s s.heap H locs → lv_has ls 6 [(0, .ref (ad o0)), (1, .int x1), (3, .int x3), (4, .int x4), (5, .int x5)] → W p l e rm_K_lock s m ([.ref (ad o0), .int x1, .int x2, .int x3] : List Value).toArray below meth c H locs 0 0 (MQ below (ow_Qv G D cA ad Q) ([.ref (ad o0), .int x1, .int x2, .int x3] : List Value).toArray s 0 0 (ow_A G ad)) (F0 m 15 ls [])) (M : om_M) (x5 : Int32)  (H : Heap) (locs : List Loc) (ls : Array Slot), wp_K_lock_41 F o0 x1 x2 x3 Q x4 K15 M x5  → ow_B G D cA ad (ow_A G ad) M s s.heap H locs → lv_has ls 6 [(0, .ref (ad o0)), (1, .int x1), (3, .int x3), (4, .int x4), (5, .int x5)] → W p l e rm_K_lock s m ([.ref (ad o0), .int x1, .int x2, .int x3] : List Value).toArray below meth c H locs 0 0 (MQ below (ow_Qv G D cA ad Q) ([.ref (ad o0), .int x1, .int x2, .int x3] : List Value).toArray s 0 0 (ow_A G ad)) (F0 m 41 ls []) := by
    intro x4 K15 hK15 M x5 H locs ls h hB hl
    refine lv_aload_n hx hb dc_K_lock_41 rfl (lv_at hl 0 rfl) ?_
    refine ow_get hx hb hts iw_K hown hB k0 rfl 1 (by decide) mw_157 rfl dc_K_lock_42 ?_
    refine lv_iload hx hb dc_K_lock_45 (lv_at hl 4 rfl) ?_
    refine lv_dup2_11 hx hb dc_K_lock_47 rfl rfl ?_
    obtain ⟨hi1, h⟩ := h
    refine ow_iald hx hb hB (ly_K_under hG k0) hi1 dc_K_lock_48 ?_
    refine lv_iload hx hb dc_K_lock_49 (lv_at hl 3 rfl) ?_
    refine lv_ior hx hb dc_K_lock_51 ?_
    refine ow_iast hx hb hB (ly_K_under hG k0) hi1 dc_K_lock_52 (fun H locs hB => ?_)
    exact L53 _ K15 hK15 _ _ _ _ _ h hB (lv_sub hl [0, 1, 2, 3, 4] rfl)
  have B15 : ∀ (x4 : Int32)  (K15 : om_M × Int32 → Prop) (hK15 : ∀ (M : om_M) (x5 : Int32) (H : Heap) (locs : List Loc) (ls : Array Slot), K15 (M, x5) → ow_B G D cA ad (ow_A G ad) M s s.heap H locs → lv_has ls 6 [(0, .ref (ad o0)), (1, .int x1), (3, .int x3), (4, .int x4), (5, .int x5)] → W p l e rm_K_lock s m ([.ref (ad o0), .int x1, .int x2, .int x3] : List Value).toArray below meth c H locs 0 0 (MQ below (ow_Qv G D cA ad Q) ([.ref (ad o0), .int x1, .int x2, .int x3] : List Value).toArray s 0 0 (ow_A G ad)) (F0 m 15 ls [])) (M : om_M) (x5 : Int32) (H : Heap) (locs : List Loc) (ls : Array Slot), wp_K_lock_15b F o0 x1 x2 x3 Q x4  K15 M x5 → ow_B G D cA ad (ow_A G ad) M s s.heap H locs → lv_has ls 6 [(0, .ref (ad o0)), (1, .int x1), (3, .int x3), (4, .int x4), (5, .int x5)] → W p l e rm_K_lock s m ([.ref (ad o0), .int x1, .int x2, .int x3] : List Value).toArray below meth c H locs 0 0 (MQ below (ow_Qv G D cA ad Q) ([.ref (ad o0), .int x1, .int x2, .int x3] : List Value).toArray s 0 0 (ow_A G ad)) (F0 m 15 ls []) := by
    intro x4  K15 hK15 M x5 H locs ls h hB hl
    refine lv_iload hx hb dc_K_lock_15 (lv_at hl 4 rfl) ?_
    refine lv_iload_n hx hb dc_K_lock_17 rfl (lv_at hl 2 rfl) ?_
    obtain ⟨h1, h2⟩ := h
    refine lv_icmp_ge hx hb dc_K_lock_18 rfl (fun hc => ?_) (fun hc => ?_)
    · have h := h1 hc
      exact ow_vret hx hb hr hlocks hB h dc_K_lock_59
    · have h := h2 hc
      refine lv_iload hx hb dc_K_lock_21 (lv_at hl 4 rfl) ?_
      refine lv_iload_n hx hb dc_K_lock_23 rfl (lv_at hl 1 rfl) ?_
      obtain ⟨h1, h2⟩ := h
      refine lv_icmp_eq hx hb dc_K_lock_24 rfl (fun hc => ?_) (fun hc => ?_)
      · have h := h1 hc
        exact L41 _ K15 hK15 _ _ _ _ _ h hB (lv_sub hl [0, 1, 2, 3, 4] rfl)
      · have h := h2 hc
        refine lv_aload_n hx hb dc_K_lock_27 rfl (lv_at hl 0 rfl) ?_
        refine ow_get hx hb hts iw_K hown hB k0 rfl 1 (by decide) mw_157 rfl dc_K_lock_28 ?_
        refine lv_iload hx hb dc_K_lock_31 (lv_at hl 4 rfl) ?_
        obtain ⟨hi2, h⟩ := h
        refine ow_iald hx hb hB (ly_K_under hG k0) hi2 dc_K_lock_33 ?_
        refine lv_iload_n hx hb dc_K_lock_34 rfl (lv_at hl 1 rfl) ?_
        refine lv_ishr hx hb dc_K_lock_35 ?_
        refine lv_iconst (v := 1) hx hb dc_K_lock_36 rfl ?_
        refine lv_iand hx hb dc_K_lock_37 ?_
        obtain ⟨h1, h2⟩ := h
        refine lv_if_eq hx hb dc_K_lock_38 rfl (fun hc => ?_) (fun hc => ?_)
        · have h := h1 hc
          exact L53 _ K15 hK15 _ _ _ _ _ h hB (lv_sub hl [0, 1, 2, 3, 4] rfl)
        · have h := h2 hc
          exact L41 _ K15 hK15 _ _ _ _ _ h hB (lv_sub hl [0, 1, 2, 3, 4] rfl)
  have L15 : ∀ (x4 : Int32)  (M : om_M) (x5 : Int32) (H : Heap) (locs : List Loc) (ls : Array Slot), wp_K_lock_15 F o0 x1 x2 x3 Q x4  M x5 → ow_B G D cA ad (ow_A G ad) M s s.heap H locs → lv_has ls 6 [(0, .ref (ad o0)), (1, .int x1), (3, .int x3), (4, .int x4), (5, .int x5)] → W p l e rm_K_lock s m ([.ref (ad o0), .int x1, .int x2, .int x3] : List Value).toArray below meth c H locs 0 0 (MQ below (ow_Qv G D cA ad Q) ([.ref (ad o0), .int x1, .int x2, .int x3] : List Value).toArray s 0 0 (ow_A G ad)) (F0 m 15 ls []) := by
    intro x4 
    have step : ∀ (k : Nat) (M : om_M) (x5 : Int32) (H : Heap) (locs : List Loc) (ls : Array Slot), ow_lp (fun (z : om_M × Int32) K => wp_K_lock_15b F o0 x1 x2 x3 Q x4  K z.1 z.2) k (M, x5) → ow_B G D cA ad (ow_A G ad) M s s.heap H locs → lv_has ls 6 [(0, .ref (ad o0)), (1, .int x1), (3, .int x3), (4, .int x4), (5, .int x5)] → W p l e rm_K_lock s m ([.ref (ad o0), .int x1, .int x2, .int x3] : List Value).toArray below meth c H locs 0 0 (MQ below (ow_Qv G D cA ad Q) ([.ref (ad o0), .int x1, .int x2, .int x3] : List Value).toArray s 0 0 (ow_A G ad)) (F0 m 15 ls []) := by
      intro k
      induction k with
      | zero => intro M x5 H locs ls h hB hl; exact False.elim h
      | succ k ih => intro M x5 H locs ls h hB hl; exact B15 x4  (ow_lp _ k) (fun M x5 H locs ls h hB  hl => ih M x5  H locs ls h hB hl) M x5 H locs ls h hB hl
    intro M x5 H locs ls h hB hl
    exact step F M x5 H locs ls h hB hl
  have hl := lv_entry ([.ref (ad o0), .int x1, .int x2, .int x3]) (n := 6) (Nat.le_of_ble_eq_true rfl)
  rw [lg_entry_eq]
  generalize (lg_sl ([.ref (ad o0), .int x1, .int x2, .int x3]) ++ List.replicate (6 - (lg_sl ([.ref (ad o0), .int x1, .int x2, .int x3])).length) Slot.unset).toArray = ls at hl ⊢
  have hl : lv_has ls 6 [(0, .ref (ad o0)), (1, .int x1), (2, .int x2), (3, .int x3)] := hl
  show W p l e rm_K_lock s m _ below meth c s.heap [] 0 0 _ _
  refine lv_aload_n hx hb dc_K_lock_0 rfl (lv_at hl 0 rfl) ?_
  refine ow_get hx hb hts iw_K hown hB k0 rfl 1 (by decide) mw_157 rfl dc_K_lock_1 ?_
  refine lv_iload_n hx hb dc_K_lock_4 rfl (lv_at hl 2 rfl) ?_
  obtain ⟨hi3, h⟩ := h
  refine ow_iald hx hb hB (ly_K_under hG k0) hi3 dc_K_lock_5 ?_
  refine lv_iconst (v := 1) hx hb dc_K_lock_6 rfl ?_
  refine lv_iload_n hx hb dc_K_lock_7 rfl (lv_at hl 2 rfl) ?_
  refine lv_ishl hx hb dc_K_lock_8 ?_
  refine lv_ior hx hb dc_K_lock_9 ?_
  refine lv_istore hx hb dc_K_lock_10 hl (by decide) rfl (fun ls hl => ?_)
  refine lv_iconst (v := 0) hx hb dc_K_lock_12 rfl ?_
  refine lv_istore hx hb dc_K_lock_13 hl (by decide) rfl (fun ls hl => ?_)
  exact L15 _ _ _ _ _ _ h hB (lv_sub hl [2, 3, 5, 1, 0] rfl)
abbrev rm_K_collect : Room := { frames := 1, cells := 0, slots := 0, locals := 22 }
theorem hd_K_collect : yn_K_collect.cls ≠ "java/lang/invoke/MethodHandle" ∧ yn_K_collect.cls ≠ "java/lang/invoke/VarHandle" ∧ (parseMethodDescriptor yn_K_collect.desc).map (fun d => d.parameters.length) = some 1 := by decide +kernel
set_option maxHeartbeats 4000000 in
set_option maxRecDepth 100000 in
theorem ct_K_collect (l : Launch) (G : List (Nat × Nat)) (hG : ow_lay G) (D : va_G) (cA : Nat → ClassId) (ad : Nat → Nat) (F : Nat) (o0 : Nat) (k0 : ow_kd G o0 = (3, 5)) (o1 : Nat) (k1 : ow_kd G o1 = (3, 1)) (M : om_M) (Q : om_M → Prop) (h : wp_K_collect F o0 o1 M Q) : Met l yn_K_collect (ow_ws yn_K_collect cb_K_collect 6 none) rm_K_collect (ow_Pc G D cA ad M [.ref (ad o0), .ref (ad o1)]) (ow_Qv G D cA ad Q) 0 0 (ow_A G ad) := by
  refine Met.ofW (cc := cb_K_collect) (maxL := 6) (ret := none) (by decide) rfl ?_
  intro p e s m args below meth c s₁ B hml hv
  obtain ⟨rfl, hB⟩ := hv
  have hx := B.exec
  have hb := B.bytes
  have hr := B.returns
  have hlocks := B.notSynchronized
  have hts : ∀ w ∈ lw_g, w.before ([.ref (ad o0), .ref (ad o1)] : List Value).toArray s = true := fun w h => atoms_spec (ws := ow_ws yn_K_collect cb_K_collect 6 none) B.pre w (List.mem_cons_of_mem _ h)
  have hown : s.vm.findClass "BallotDesk$Locks" = some m.cls := findClass_of_methodNamed B.named
  clear B
  have L92 : ∀  (K7 : om_M × Int32 → Prop) (hK7 : ∀ (M : om_M) (x2 : Int32) (H : Heap) (locs : List Loc) (ls : Array Slot), K7 (M, x2) → ow_B G D cA ad (ow_A G ad) M s s.heap H locs → lv_has ls 6 [(0, .ref (ad o0)), (1, .ref (ad o1)), (2, .int x2)] → W p l e rm_K_collect s m ([.ref (ad o0), .ref (ad o1)] : List Value).toArray below meth c H locs 0 0 (MQ below (ow_Qv G D cA ad Q) ([.ref (ad o0), .ref (ad o1)] : List Value).toArray s 0 0 (ow_A G ad)) (F0 m 7 ls [])) (M : om_M) (x2 : Int32)  (H : Heap) (locs : List Loc) (ls : Array Slot), wp_K_collect_92 F o0 o1 Q  K7 M x2  → ow_B G D cA ad (ow_A G ad) M s s.heap H locs → lv_has ls 6 [(0, .ref (ad o0)), (1, .ref (ad o1)), (2, .int x2)] → W p l e rm_K_collect s m ([.ref (ad o0), .ref (ad o1)] : List Value).toArray below meth c H locs 0 0 (MQ below (ow_Qv G D cA ad Q) ([.ref (ad o0), .ref (ad o1)] : List Value).toArray s 0 0 (ow_A G ad)) (F0 m 92 ls []) := by
    intro  K7 hK7 M x2 H locs ls h hB hl
    refine lv_iinc hx hb dc_K_collect_92 hl (k := 2) rfl rfl (by decide) rfl (fun ls hl => ?_)
    refine lv_goto hx hb dc_K_collect_95 rfl ?_
    exact hK7 _ _ _ _ _ h hB (lv_sub hl [1, 2, 0] rfl)
  have L86 : ∀ (x2 : Int32) (x3 : Int32) (K7 : om_M × Int32 → Prop) (hK7 : ∀ (M : om_M) (x2 : Int32) (H : Heap) (locs : List Loc) (ls : Array Slot), K7 (M, x2) → ow_B G D cA ad (ow_A G ad) M s s.heap H locs → lv_has ls 6 [(0, .ref (ad o0)), (1, .ref (ad o1)), (2, .int x2)] → W p l e rm_K_collect s m ([.ref (ad o0), .ref (ad o1)] : List Value).toArray below meth c H locs 0 0 (MQ below (ow_Qv G D cA ad Q) ([.ref (ad o0), .ref (ad o1)] : List Value).toArray s 0 0 (ow_A G ad)) (F0 m 7 ls [])) (K27 : om_M × Int32 → Prop) (hK27 : ∀ (M : om_M) (x4 : Int32) (H : Heap) (locs : List Loc) (ls : Array Slot), K27 (M, x4) → ow_B G D cA ad (ow_A G ad) M s s.heap H locs → lv_has ls 6 [(0, .ref (ad o0)), (1, .ref (ad o1)), (2, .int x2), (3, .int x3), (4, .int x4)] → W p l e rm_K_collect s m ([.ref (ad o0), .ref (ad o1)] : List Value).toArray below meth c H locs 0 0 (MQ below (ow_Qv G D cA ad Q) ([.ref (ad o0), .ref (ad o1)] : List Value).toArray s 0 0 (ow_A G ad)) (F0 m 27 ls [])) (M : om_M) (x4 : Int32)  (H : Heap) (locs : List Loc) (ls : Array Slot), wp_K_collect_86 F o0 o1 Q x2 x3 K7 K27 M x4  → ow_B G D cA ad (ow_A G ad) M s s.heap H locs → lv_has ls 6 [(0, .ref (ad o0)), (1, .ref (ad o1)), (2, .int x2), (3, .int x3), (4, .int x4)] → W p l e rm_K_collect s m ([.ref (ad o0), .ref (ad o1)] : List Value).toArray below meth c H locs 0 0 (MQ below (ow_Qv G D cA ad Q) ([.ref (ad o0), .ref (ad o1)] : List Value).toArray s 0 0 (ow_A G ad)) (F0 m 86 ls []) := by
    intro x2 x3 K7 hK7 K27 hK27 M x4 H locs ls h hB hl
    refine lv_iinc hx hb dc_K_collect_86 hl (k := 4) rfl rfl (by decide) rfl (fun ls hl => ?_)
    refine lv_goto hx hb dc_K_collect_89 rfl ?_
    exact hK27 _ _ _ _ _ h hB (lv_sub hl [1, 2, 3, 4, 0] rfl)
  have B27 : ∀ (x2 : Int32) (x3 : Int32) (K7 : om_M × Int32 → Prop) (hK7 : ∀ (M : om_M) (x2 : Int32) (H : Heap) (locs : List Loc) (ls : Array Slot), K7 (M, x2) → ow_B G D cA ad (ow_A G ad) M s s.heap H locs → lv_has ls 6 [(0, .ref (ad o0)), (1, .ref (ad o1)), (2, .int x2)] → W p l e rm_K_collect s m ([.ref (ad o0), .ref (ad o1)] : List Value).toArray below meth c H locs 0 0 (MQ below (ow_Qv G D cA ad Q) ([.ref (ad o0), .ref (ad o1)] : List Value).toArray s 0 0 (ow_A G ad)) (F0 m 7 ls [])) (K27 : om_M × Int32 → Prop) (hK27 : ∀ (M : om_M) (x4 : Int32) (H : Heap) (locs : List Loc) (ls : Array Slot), K27 (M, x4) → ow_B G D cA ad (ow_A G ad) M s s.heap H locs → lv_has ls 6 [(0, .ref (ad o0)), (1, .ref (ad o1)), (2, .int x2), (3, .int x3), (4, .int x4)] → W p l e rm_K_collect s m ([.ref (ad o0), .ref (ad o1)] : List Value).toArray below meth c H locs 0 0 (MQ below (ow_Qv G D cA ad Q) ([.ref (ad o0), .ref (ad o1)] : List Value).toArray s 0 0 (ow_A G ad)) (F0 m 27 ls [])) (M : om_M) (x4 : Int32) (H : Heap) (locs : List Loc) (ls : Array Slot), wp_K_collect_27b F o0 o1 Q x2 x3 K7 K27 M x4 → ow_B G D cA ad (ow_A G ad) M s s.heap H locs → lv_has ls 6 [(0, .ref (ad o0)), (1, .ref (ad o1)), (2, .int x2), (3, .int x3), (4, .int x4)] → W p l e rm_K_collect s m ([.ref (ad o0), .ref (ad o1)] : List Value).toArray below meth c H locs 0 0 (MQ below (ow_Qv G D cA ad Q) ([.ref (ad o0), .ref (ad o1)] : List Value).toArray s 0 0 (ow_A G ad)) (F0 m 27 ls []) := by
    intro x2 x3 K7 hK7 K27 hK27 M x4 H locs ls h hB hl
    refine lv_iload hx hb dc_K_collect_27 (lv_at hl 4 rfl) ?_
    refine lv_aload_n hx hb dc_K_collect_29 rfl (lv_at hl 1 rfl) ?_
    refine ow_get hx hb hts iw_P hown hB k1 rfl 5 (by decide) mw_64 rfl dc_K_collect_30 ?_
    obtain ⟨h1, h2⟩ := h
    refine lv_icmp_ge hx hb dc_K_collect_33 rfl (fun hc => ?_) (fun hc => ?_)
    · have h := h1 hc
      exact L92 K7 hK7 _ _ _ _ _ h hB (lv_sub hl [0, 1, 2] rfl)
    · have h := h2 hc
      refine lv_aload_n hx hb dc_K_collect_36 rfl (lv_at hl 1 rfl) ?_
      refine ow_get hx hb hts iw_P hown hB k1 rfl 7 (by decide) mw_73 rfl dc_K_collect_37 ?_
      refine lv_iload hx hb dc_K_collect_40 (lv_at hl 4 rfl) ?_
      refine ow_calli (va_runS (As := [.int (M.1 o1 7), .int x4]) (rest := []) ⟨hx, hb, hml, hown, hts⟩ (ct_O_at l G hG D cA ad F _ _ _ _ h) ⟨ow_cb 2 hts mw_314 mw_3 mw_557 rfl rfl hd_O_at ⟨Nat.le_of_ble_eq_true rfl, Nat.le_of_ble_eq_true rfl⟩, hts _ mw_313⟩ (ow_preS hB) rfl rfl hl.1 rfl (lv_room (Nat.le_of_ble_eq_true rfl)) dc_K_collect_42 ⟨Nat.zero_le _, Nat.zero_le _⟩) hB (fun r2 M1 H locs h hB => ?_)
      refine lv_istore hx hb dc_K_collect_45 hl (by decide) rfl (fun ls hl => ?_)
      refine lv_aload_n hx hb dc_K_collect_47 rfl (lv_at hl 2 rfl) ?_
      refine lv_iload_n hx hb dc_K_collect_48 rfl (lv_at hl 4 rfl) ?_
      refine lv_iload hx hb dc_K_collect_49 (lv_at hl 0 rfl) ?_
      refine ow_calli (va_runV (As := [.int x3, .int r2]) (rest := []) ⟨hx, hb, hml, hown, hts⟩ (ct_P_beats l G hG D cA ad F _ k1 _ _ _ _ h) ⟨ow_cb 2 hts mw_526 mw_2 mw_558 rfl rfl hd_P_beats ⟨Nat.le_of_ble_eq_true rfl, Nat.le_of_ble_eq_true rfl⟩, hts _ mw_524, hts _ mw_525⟩ (ow_preV hB k1 rfl) rfl rfl hl.1 rfl (lv_room (Nat.le_of_ble_eq_true rfl)) dc_K_collect_51 ⟨Nat.zero_le _, Nat.zero_le _⟩) hB (fun r4 M3 H locs h hB => ?_)
      obtain ⟨h1, h2⟩ := h
      refine lv_if_eq hx hb dc_K_collect_54 rfl (fun hc => ?_) (fun hc => ?_)
      · have h := h1 hc
        exact L86 _ _ K7 hK7 K27 hK27 _ _ _ _ _ h hB (lv_sub hl [1, 2, 3, 4, 5] rfl)
      · have h := h2 hc
        refine lv_aload_n hx hb dc_K_collect_57 rfl (lv_at hl 1 rfl) ?_
        refine lv_aload_n hx hb dc_K_collect_58 rfl (lv_at hl 2 rfl) ?_
        refine ow_get hx hb hts iw_P hown hB k1 rfl 4 (by decide) mw_55 rfl dc_K_collect_59 ?_
        refine lv_iload_n hx hb dc_K_collect_62 rfl (lv_at hl 4 rfl) ?_
        obtain ⟨hi5, h⟩ := h
        refine ow_aald hx hb hB (ly_P_ahead hG k1) (by decide) hi5 dc_K_collect_63 ?_
        refine lv_iload hx hb dc_K_collect_64 (lv_at hl 0 rfl) ?_
        obtain ⟨hi6, h⟩ := h
        refine ow_iald hx hb hB (ly_row2 hG (ly_P_ahead hG k1) hi5) hi6 dc_K_collect_66 ?_
        refine lv_bipush (v := 6) hx hb dc_K_collect_67 rfl ?_
        refine lv_ishl hx hb dc_K_collect_69 ?_
        refine lv_bipush (v := 7) hx hb dc_K_collect_70 rfl ?_
        refine lv_iload_n hx hb dc_K_collect_72 rfl (lv_at hl 3 rfl) ?_
        refine lv_isub hx hb dc_K_collect_73 ?_
        refine lv_iconst (v := 3) hx hb dc_K_collect_74 rfl ?_
        refine lv_ishl hx hb dc_K_collect_75 ?_
        refine lv_ior hx hb dc_K_collect_76 ?_
        refine lv_bipush (v := 7) hx hb dc_K_collect_77 rfl ?_
        refine lv_iload hx hb dc_K_collect_79 (lv_at hl 5 rfl) ?_
        refine lv_isub hx hb dc_K_collect_81 ?_
        refine lv_ior hx hb dc_K_collect_82 ?_
        refine ow_callv (va_runV (As := [.int ((((M3.1 (o1 + 12 + 1 + x3.toNatClampNeg) r2.toNatClampNeg) <<< ((6 : Int32) &&& 31)) ||| (((7 : Int32) - x2) <<< ((3 : Int32) &&& 31))) ||| ((7 : Int32) - x4))]) (rest := []) ⟨hx, hb, hml, hown, hts⟩ (ct_K_insert l G hG D cA ad F _ k0 _ _ _ h) ⟨ow_cb 1 hts mw_562 mw_9 mw_559 rfl rfl hd_K_insert ⟨Nat.le_of_ble_eq_true rfl, Nat.le_of_ble_eq_true rfl⟩, hts _ mw_561, hts _ ms_12⟩ (ow_preV hB k0 rfl) rfl rfl hl.1 rfl (lv_room (Nat.le_of_ble_eq_true rfl)) dc_K_collect_83 ⟨Nat.zero_le _, Nat.zero_le _⟩) hB (fun M7 H locs h hB => ?_)
        exact L86 _ _ K7 hK7 K27 hK27 _ _ _ _ _ h hB (lv_sub hl [1, 2, 3, 4, 5] rfl)
  have L27 : ∀ (x2 : Int32) (x3 : Int32) (K7 : om_M × Int32 → Prop) (hK7 : ∀ (M : om_M) (x2 : Int32) (H : Heap) (locs : List Loc) (ls : Array Slot), K7 (M, x2) → ow_B G D cA ad (ow_A G ad) M s s.heap H locs → lv_has ls 6 [(0, .ref (ad o0)), (1, .ref (ad o1)), (2, .int x2)] → W p l e rm_K_collect s m ([.ref (ad o0), .ref (ad o1)] : List Value).toArray below meth c H locs 0 0 (MQ below (ow_Qv G D cA ad Q) ([.ref (ad o0), .ref (ad o1)] : List Value).toArray s 0 0 (ow_A G ad)) (F0 m 7 ls [])) (M : om_M) (x4 : Int32) (H : Heap) (locs : List Loc) (ls : Array Slot), wp_K_collect_27 F o0 o1 Q x2 x3 K7 M x4 → ow_B G D cA ad (ow_A G ad) M s s.heap H locs → lv_has ls 6 [(0, .ref (ad o0)), (1, .ref (ad o1)), (2, .int x2), (3, .int x3), (4, .int x4)] → W p l e rm_K_collect s m ([.ref (ad o0), .ref (ad o1)] : List Value).toArray below meth c H locs 0 0 (MQ below (ow_Qv G D cA ad Q) ([.ref (ad o0), .ref (ad o1)] : List Value).toArray s 0 0 (ow_A G ad)) (F0 m 27 ls []) := by
    intro x2 x3 K7 hK7
    have step : ∀ (k : Nat) (M : om_M) (x4 : Int32) (H : Heap) (locs : List Loc) (ls : Array Slot), ow_lp (fun (z : om_M × Int32) K => wp_K_collect_27b F o0 o1 Q x2 x3 K7 K z.1 z.2) k (M, x4) → ow_B G D cA ad (ow_A G ad) M s s.heap H locs → lv_has ls 6 [(0, .ref (ad o0)), (1, .ref (ad o1)), (2, .int x2), (3, .int x3), (4, .int x4)] → W p l e rm_K_collect s m ([.ref (ad o0), .ref (ad o1)] : List Value).toArray below meth c H locs 0 0 (MQ below (ow_Qv G D cA ad Q) ([.ref (ad o0), .ref (ad o1)] : List Value).toArray s 0 0 (ow_A G ad)) (F0 m 27 ls []) := by
      intro k
      induction k with
      | zero => intro M x4 H locs ls h hB hl; exact False.elim h
      | succ k ih => intro M x4 H locs ls h hB hl; exact B27 x2 x3 K7 hK7 (ow_lp _ k) (fun M x4 H locs ls h hB  hl => ih M x4  H locs ls h hB hl) M x4 H locs ls h hB hl
    intro M x4 H locs ls h hB hl
    exact step F M x4 H locs ls h hB hl
  have B7 : ∀   (K7 : om_M × Int32 → Prop) (hK7 : ∀ (M : om_M) (x2 : Int32) (H : Heap) (locs : List Loc) (ls : Array Slot), K7 (M, x2) → ow_B G D cA ad (ow_A G ad) M s s.heap H locs → lv_has ls 6 [(0, .ref (ad o0)), (1, .ref (ad o1)), (2, .int x2)] → W p l e rm_K_collect s m ([.ref (ad o0), .ref (ad o1)] : List Value).toArray below meth c H locs 0 0 (MQ below (ow_Qv G D cA ad Q) ([.ref (ad o0), .ref (ad o1)] : List Value).toArray s 0 0 (ow_A G ad)) (F0 m 7 ls [])) (M : om_M) (x2 : Int32) (H : Heap) (locs : List Loc) (ls : Array Slot), wp_K_collect_7b F o0 o1 Q   K7 M x2 → ow_B G D cA ad (ow_A G ad) M s s.heap H locs → lv_has ls 6 [(0, .ref (ad o0)), (1, .ref (ad o1)), (2, .int x2)] → W p l e rm_K_collect s m ([.ref (ad o0), .ref (ad o1)] : List Value).toArray below meth c H locs 0 0 (MQ below (ow_Qv G D cA ad Q) ([.ref (ad o0), .ref (ad o1)] : List Value).toArray s 0 0 (ow_A G ad)) (F0 m 7 ls []) := by
    intro   K7 hK7 M x2 H locs ls h hB hl
    refine lv_iload_n hx hb dc_K_collect_7 rfl (lv_at hl 2 rfl) ?_
    refine lv_aload_n hx hb dc_K_collect_8 rfl (lv_at hl 1 rfl) ?_
    refine ow_get hx hb hts iw_P hown hB k1 rfl 5 (by decide) mw_64 rfl dc_K_collect_9 ?_
    obtain ⟨h1, h2⟩ := h
    refine lv_icmp_ge hx hb dc_K_collect_12 rfl (fun hc => ?_) (fun hc => ?_)
    · have h := h1 hc
      exact ow_vret hx hb hr hlocks hB h dc_K_collect_98
    · have h := h2 hc
      refine lv_aload_n hx hb dc_K_collect_15 rfl (lv_at hl 1 rfl) ?_
      refine ow_get hx hb hts iw_P hown hB k1 rfl 7 (by decide) mw_73 rfl dc_K_collect_16 ?_
      refine lv_iload_n hx hb dc_K_collect_19 rfl (lv_at hl 2 rfl) ?_
      refine ow_calli (va_runS (As := [.int (M.1 o1 7), .int x2]) (rest := []) ⟨hx, hb, hml, hown, hts⟩ (ct_O_at l G hG D cA ad F _ _ _ _ h) ⟨ow_cb 2 hts mw_314 mw_3 mw_557 rfl rfl hd_O_at ⟨Nat.le_of_ble_eq_true rfl, Nat.le_of_ble_eq_true rfl⟩, hts _ mw_313⟩ (ow_preS hB) rfl rfl hl.1 rfl (lv_room (Nat.le_of_ble_eq_true rfl)) dc_K_collect_20 ⟨Nat.zero_le _, Nat.zero_le _⟩) hB (fun r9 M8 H locs h hB => ?_)
      refine lv_istore_n hx hb dc_K_collect_23 rfl hl (by decide) rfl (fun ls hl => ?_)
      refine lv_iconst (v := 0) hx hb dc_K_collect_24 rfl ?_
      refine lv_istore hx hb dc_K_collect_25 hl (by decide) rfl (fun ls hl => ?_)
      exact L27 _ _ K7 hK7 _ _ _ _ _ h hB (lv_sub hl [2, 3, 4, 1, 0] rfl)
  have L7 : ∀   (M : om_M) (x2 : Int32) (H : Heap) (locs : List Loc) (ls : Array Slot), wp_K_collect_7 F o0 o1 Q   M x2 → ow_B G D cA ad (ow_A G ad) M s s.heap H locs → lv_has ls 6 [(0, .ref (ad o0)), (1, .ref (ad o1)), (2, .int x2)] → W p l e rm_K_collect s m ([.ref (ad o0), .ref (ad o1)] : List Value).toArray below meth c H locs 0 0 (MQ below (ow_Qv G D cA ad Q) ([.ref (ad o0), .ref (ad o1)] : List Value).toArray s 0 0 (ow_A G ad)) (F0 m 7 ls []) := by
    have step : ∀ (k : Nat) (M : om_M) (x2 : Int32) (H : Heap) (locs : List Loc) (ls : Array Slot), ow_lp (fun (z : om_M × Int32) K => wp_K_collect_7b F o0 o1 Q   K z.1 z.2) k (M, x2) → ow_B G D cA ad (ow_A G ad) M s s.heap H locs → lv_has ls 6 [(0, .ref (ad o0)), (1, .ref (ad o1)), (2, .int x2)] → W p l e rm_K_collect s m ([.ref (ad o0), .ref (ad o1)] : List Value).toArray below meth c H locs 0 0 (MQ below (ow_Qv G D cA ad Q) ([.ref (ad o0), .ref (ad o1)] : List Value).toArray s 0 0 (ow_A G ad)) (F0 m 7 ls []) := by
      intro k
      induction k with
      | zero => intro M x2 H locs ls h hB hl; exact False.elim h
      | succ k ih => intro M x2 H locs ls h hB hl; exact B7   (ow_lp _ k) (fun M x2 H locs ls h hB  hl => ih M x2  H locs ls h hB hl) M x2 H locs ls h hB hl
    intro M x2 H locs ls h hB hl
    exact step F M x2 H locs ls h hB hl
  have hl := lv_entry ([.ref (ad o0), .ref (ad o1)]) (n := 6) (Nat.le_of_ble_eq_true rfl)
  rw [lg_entry_eq]
  generalize (lg_sl ([.ref (ad o0), .ref (ad o1)]) ++ List.replicate (6 - (lg_sl ([.ref (ad o0), .ref (ad o1)])).length) Slot.unset).toArray = ls at hl ⊢
  have hl : lv_has ls 6 [(0, .ref (ad o0)), (1, .ref (ad o1))] := hl
  show W p l e rm_K_collect s m _ below meth c s.heap [] 0 0 _ _
  refine lv_aload_n hx hb dc_K_collect_0 rfl (lv_at hl 0 rfl) ?_
  refine lv_iconst (v := 0) hx hb dc_K_collect_1 rfl ?_
  refine ow_put hx hb hts iw_K yf_K of_K nf_K hown hB k0 rfl 2 (by decide) mw_158 rfl (by decide +kernel) (Nat.le_of_ble_eq_true rfl) rfl dc_K_collect_2 (fun H locs hB => ?_)
  refine lv_iconst (v := 0) hx hb dc_K_collect_5 rfl ?_
  refine lv_istore_n hx hb dc_K_collect_6 rfl hl (by decide) rfl (fun ls hl => ?_)
  exact L7 _ _ _ _ _ h hB (lv_sub hl [1, 2, 0] rfl)
abbrev rm_K_winnerSet : Room := { frames := 2, cells := 0, slots := 0, locals := 47 }
theorem hd_K_winnerSet : yn_K_winnerSet.cls ≠ "java/lang/invoke/MethodHandle" ∧ yn_K_winnerSet.cls ≠ "java/lang/invoke/VarHandle" ∧ (parseMethodDescriptor yn_K_winnerSet.desc).map (fun d => d.parameters.length) = some 1 := by decide +kernel
set_option maxHeartbeats 4000000 in
set_option maxRecDepth 100000 in
theorem ct_K_winnerSet (l : Launch) (G : List (Nat × Nat)) (hG : ow_lay G) (D : va_G) (cA : Nat → ClassId) (ad : Nat → Nat) (F : Nat) (o0 : Nat) (k0 : ow_kd G o0 = (3, 5)) (o1 : Nat) (k1 : ow_kd G o1 = (3, 1)) (M : om_M) (Q : Int32 → om_M → Prop) (h : wp_K_winnerSet F o0 o1 M Q) : Met l yn_K_winnerSet (ow_ws yn_K_winnerSet cb_K_winnerSet 6 (some .int)) rm_K_winnerSet (ow_Pc G D cA ad M [.ref (ad o0), .ref (ad o1)]) (ow_Qi G D cA ad Q) 0 0 (ow_A G ad) := by
  refine Met.ofW (cc := cb_K_winnerSet) (maxL := 6) (ret := (some .int)) (by decide) rfl ?_
  intro p e s m args below meth c s₁ B hml hv
  obtain ⟨rfl, hB⟩ := hv
  have hx := B.exec
  have hb := B.bytes
  have hr := B.returns
  have hlocks := B.notSynchronized
  have hts : ∀ w ∈ lw_g, w.before ([.ref (ad o0), .ref (ad o1)] : List Value).toArray s = true := fun w h => atoms_spec (ws := ow_ws yn_K_winnerSet cb_K_winnerSet 6 (some .int)) B.pre w (List.mem_cons_of_mem _ h)
  have hown : s.vm.findClass "BallotDesk$Locks" = some m.cls := findClass_of_methodNamed B.named
  clear B
  have L108 : ∀  (K20 : om_M × Int32 × Int32 → Prop) (hK20 : ∀ (M : om_M) (x2 : Int32) (x3 : Int32) (H : Heap) (locs : List Loc) (ls : Array Slot), K20 (M, x2, x3) → ow_B G D cA ad (ow_A G ad) M s s.heap H locs → lv_has ls 6 [(0, .ref (ad o0)), (1, .ref (ad o1)), (2, .int x2), (3, .int x3)] → W p l e rm_K_winnerSet s m ([.ref (ad o0), .ref (ad o1)] : List Value).toArray below meth c H locs 0 0 (MQ below (ow_Qi G D cA ad Q) ([.ref (ad o0), .ref (ad o1)] : List Value).toArray s 0 0 (ow_A G ad)) (F0 m 20 ls [])) (M : om_M) (x2 : Int32) (x3 : Int32)  (H : Heap) (locs : List Loc) (ls : Array Slot), wp_K_winnerSet_108 F o0 o1 Q  K20 M x2 x3  → ow_B G D cA ad (ow_A G ad) M s s.heap H locs → lv_has ls 6 [(0, .ref (ad o0)), (1, .ref (ad o1)), (2, .int x2), (3, .int x3)] → W p l e rm_K_winnerSet s m ([.ref (ad o0), .ref (ad o1)] : List Value).toArray below meth c H locs 0 0 (MQ below (ow_Qi G D cA ad Q) ([.ref (ad o0), .ref (ad o1)] : List Value).toArray s 0 0 (ow_A G ad)) (F0 m 108 ls []) := by
    intro  K20 hK20 M x2 x3 H locs ls h hB hl
    refine lv_iinc hx hb dc_K_winnerSet_108 hl (k := 3) rfl rfl (by decide) rfl (fun ls hl => ?_)
    refine lv_goto hx hb dc_K_winnerSet_111 rfl ?_
    exact hK20 _ _ _ _ _ _ h hB (lv_sub hl [1, 2, 3, 0] rfl)
  have B20 : ∀   (K20 : om_M × Int32 × Int32 → Prop) (hK20 : ∀ (M : om_M) (x2 : Int32) (x3 : Int32) (H : Heap) (locs : List Loc) (ls : Array Slot), K20 (M, x2, x3) → ow_B G D cA ad (ow_A G ad) M s s.heap H locs → lv_has ls 6 [(0, .ref (ad o0)), (1, .ref (ad o1)), (2, .int x2), (3, .int x3)] → W p l e rm_K_winnerSet s m ([.ref (ad o0), .ref (ad o1)] : List Value).toArray below meth c H locs 0 0 (MQ below (ow_Qi G D cA ad Q) ([.ref (ad o0), .ref (ad o1)] : List Value).toArray s 0 0 (ow_A G ad)) (F0 m 20 ls [])) (M : om_M) (x2 : Int32) (x3 : Int32) (H : Heap) (locs : List Loc) (ls : Array Slot), wp_K_winnerSet_20b F o0 o1 Q   K20 M x2 x3 → ow_B G D cA ad (ow_A G ad) M s s.heap H locs → lv_has ls 6 [(0, .ref (ad o0)), (1, .ref (ad o1)), (2, .int x2), (3, .int x3)] → W p l e rm_K_winnerSet s m ([.ref (ad o0), .ref (ad o1)] : List Value).toArray below meth c H locs 0 0 (MQ below (ow_Qi G D cA ad Q) ([.ref (ad o0), .ref (ad o1)] : List Value).toArray s 0 0 (ow_A G ad)) (F0 m 20 ls []) := by
    intro   K20 hK20 M x2 x3 H locs ls h hB hl
    refine lv_iload_n hx hb dc_K_winnerSet_20 rfl (lv_at hl 3 rfl) ?_
    refine lv_aload_n hx hb dc_K_winnerSet_21 rfl (lv_at hl 0 rfl) ?_
    refine ow_get hx hb hts iw_K hown hB k0 rfl 2 (by decide) mw_158 rfl dc_K_winnerSet_22 ?_
    obtain ⟨h1, h2⟩ := h
    refine lv_icmp_ge hx hb dc_K_winnerSet_25 rfl (fun hc => ?_) (fun hc => ?_)
    · have h := h1 hc
      refine lv_iload_n hx hb dc_K_winnerSet_114 rfl (lv_at hl 2 rfl) ?_
      exact ow_iret hx hb hr hlocks hB h dc_K_winnerSet_115
    · have h := h2 hc
      refine lv_aload_n hx hb dc_K_winnerSet_28 rfl (lv_at hl 1 rfl) ?_
      refine ow_get hx hb hts iw_P hown hB k1 rfl 7 (by decide) mw_73 rfl dc_K_winnerSet_29 ?_
      refine lv_bipush (v := 7) hx hb dc_K_winnerSet_32 rfl ?_
      refine lv_aload_n hx hb dc_K_winnerSet_34 rfl (lv_at hl 0 rfl) ?_
      refine ow_get hx hb hts iw_K hown hB k0 rfl 0 (by decide) mw_156 rfl dc_K_winnerSet_35 ?_
      refine lv_iload_n hx hb dc_K_winnerSet_38 rfl (lv_at hl 3 rfl) ?_
      obtain ⟨hi1, h⟩ := h
      refine ow_iald hx hb hB (ly_K_keys hG k0) hi1 dc_K_winnerSet_39 ?_
      refine lv_iconst (v := 3) hx hb dc_K_winnerSet_40 rfl ?_
      refine lv_ishr hx hb dc_K_winnerSet_41 ?_
      refine lv_bipush (v := 7) hx hb dc_K_winnerSet_42 rfl ?_
      refine lv_iand hx hb dc_K_winnerSet_44 ?_
      refine lv_isub hx hb dc_K_winnerSet_45 ?_
      refine ow_calli (va_runS (As := [.int (M.1 o1 7), .int ((7 : Int32) - (((M.1 (o0 + 1) x3.toNatClampNeg) >>> ((3 : Int32) &&& 31)) &&& 7))]) (rest := []) ⟨hx, hb, hml, hown, hts⟩ (ct_O_at l G hG D cA ad F _ _ _ _ h) ⟨ow_cb 2 hts mw_314 mw_3 mw_557 rfl rfl hd_O_at ⟨Nat.le_of_ble_eq_true rfl, Nat.le_of_ble_eq_true rfl⟩, hts _ mw_313⟩ (ow_preS hB) rfl rfl hl.1 rfl (lv_room (Nat.le_of_ble_eq_true rfl)) dc_K_winnerSet_46 ⟨Nat.zero_le _, Nat.zero_le _⟩) hB (fun r3 M2 H locs h hB => ?_)
      refine lv_istore hx hb dc_K_winnerSet_49 hl (by decide) rfl (fun ls hl => ?_)
      refine lv_aload_n hx hb dc_K_winnerSet_51 rfl (lv_at hl 2 rfl) ?_
      refine ow_get hx hb hts iw_P hown hB k1 rfl 7 (by decide) mw_73 rfl dc_K_winnerSet_52 ?_
      refine lv_bipush (v := 7) hx hb dc_K_winnerSet_55 rfl ?_
      refine lv_aload_n hx hb dc_K_winnerSet_57 rfl (lv_at hl 1 rfl) ?_
      refine ow_get hx hb hts iw_K hown hB k0 rfl 0 (by decide) mw_156 rfl dc_K_winnerSet_58 ?_
      refine lv_iload_n hx hb dc_K_winnerSet_61 rfl (lv_at hl 4 rfl) ?_
      refine ow_iald hx hb hB (ly_K_keys hG k0) hi1 dc_K_winnerSet_62 ?_
      refine lv_bipush (v := 7) hx hb dc_K_winnerSet_63 rfl ?_
      refine lv_iand hx hb dc_K_winnerSet_65 ?_
      refine lv_isub hx hb dc_K_winnerSet_66 ?_
      refine ow_calli (va_runS (As := [.int (M2.1 o1 7), .int ((7 : Int32) - ((M2.1 (o0 + 1) x3.toNatClampNeg) &&& 7))]) (rest := []) ⟨hx, hb, hml, hown, hts⟩ (ct_O_at l G hG D cA ad F _ _ _ _ h) ⟨ow_cb 2 hts mw_314 mw_3 mw_557 rfl rfl hd_O_at ⟨Nat.le_of_ble_eq_true rfl, Nat.le_of_ble_eq_true rfl⟩, hts _ mw_313⟩ (ow_preS hB) rfl rfl hl.1 rfl (lv_room (Nat.le_of_ble_eq_true rfl)) dc_K_winnerSet_67 ⟨Nat.zero_le _, Nat.zero_le _⟩) hB (fun r5 M4 H locs h hB => ?_)
      refine lv_istore hx hb dc_K_winnerSet_70 hl (by decide) rfl (fun ls hl => ?_)
      refine lv_aload_n hx hb dc_K_winnerSet_72 rfl (lv_at hl 2 rfl) ?_
      refine ow_get hx hb hts iw_K hown hB k0 rfl 1 (by decide) mw_157 rfl dc_K_winnerSet_73 ?_
      refine lv_iload hx hb dc_K_winnerSet_76 (lv_at hl 0 rfl) ?_
      obtain ⟨hi6, h⟩ := h
      refine ow_iald hx hb hB (ly_K_under hG k0) hi6 dc_K_winnerSet_78 ?_
      refine lv_iload hx hb dc_K_winnerSet_79 (lv_at hl 1 rfl) ?_
      refine lv_ishr hx hb dc_K_winnerSet_81 ?_
      refine lv_iconst (v := 1) hx hb dc_K_winnerSet_82 rfl ?_
      refine lv_iand hx hb dc_K_winnerSet_83 ?_
      obtain ⟨h1, h2⟩ := h
      refine lv_if_ne hx hb dc_K_winnerSet_84 rfl (fun hc => ?_) (fun hc => ?_)
      · have h := h2 hc
        exact L108 K20 hK20 _ _ _ _ _ _ h hB (lv_sub hl [2, 3, 4, 5] rfl)
      · have h := h1 hc
        refine lv_aload_n hx hb dc_K_winnerSet_87 rfl (lv_at hl 2 rfl) ?_
        refine lv_iload hx hb dc_K_winnerSet_88 (lv_at hl 1 rfl) ?_
        refine lv_iload hx hb dc_K_winnerSet_90 (lv_at hl 0 rfl) ?_
        refine lv_aload_n hx hb dc_K_winnerSet_92 rfl (lv_at hl 3 rfl) ?_
        refine ow_get hx hb hts iw_P hown hB k1 rfl 5 (by decide) mw_64 rfl dc_K_winnerSet_93 ?_
        refine ow_callv (va_runV (As := [.int r3, .int r5, .int (M4.1 o1 5)]) (rest := []) ⟨hx, hb, hml, hown, hts⟩ (ct_K_lock l G hG D cA ad F _ k0 _ _ _ _ _ h) ⟨ow_cb 3 hts mw_568 mw_9 mw_565 rfl rfl hd_K_lock ⟨Nat.le_of_ble_eq_true rfl, Nat.le_of_ble_eq_true rfl⟩, hts _ mw_567, hts _ ms_13⟩ (ow_preV hB k0 rfl) rfl rfl hl.1 rfl (lv_room (Nat.le_of_ble_eq_true rfl)) dc_K_winnerSet_96 ⟨Nat.zero_le _, Nat.zero_le _⟩) hB (fun M7 H locs h hB => ?_)
        refine lv_iload_n hx hb dc_K_winnerSet_99 rfl (lv_at hl 4 rfl) ?_
        refine lv_iconst (v := 1) hx hb dc_K_winnerSet_100 rfl ?_
        refine lv_iload hx hb dc_K_winnerSet_101 (lv_at hl 0 rfl) ?_
        refine lv_ishl hx hb dc_K_winnerSet_103 ?_
        refine lv_iconst (v := (-1)) hx hb dc_K_winnerSet_104 rfl ?_
        refine lv_ixor hx hb dc_K_winnerSet_105 ?_
        refine lv_iand hx hb dc_K_winnerSet_106 ?_
        refine lv_istore_n hx hb dc_K_winnerSet_107 rfl hl (by decide) rfl (fun ls hl => ?_)
        exact L108 K20 hK20 _ _ _ _ _ _ h hB (lv_sub hl [3, 4, 0, 5] rfl)
  have L20 : ∀   (M : om_M) (x2 : Int32) (x3 : Int32) (H : Heap) (locs : List Loc) (ls : Array Slot), wp_K_winnerSet_20 F o0 o1 Q   M x2 x3 → ow_B G D cA ad (ow_A G ad) M s s.heap H locs → lv_has ls 6 [(0, .ref (ad o0)), (1, .ref (ad o1)), (2, .int x2), (3, .int x3)] → W p l e rm_K_winnerSet s m ([.ref (ad o0), .ref (ad o1)] : List Value).toArray below meth c H locs 0 0 (MQ below (ow_Qi G D cA ad Q) ([.ref (ad o0), .ref (ad o1)] : List Value).toArray s 0 0 (ow_A G ad)) (F0 m 20 ls []) := by
    have step : ∀ (k : Nat) (M : om_M) (x2 : Int32) (x3 : Int32) (H : Heap) (locs : List Loc) (ls : Array Slot), ow_lp (fun (z : om_M × Int32 × Int32) K => wp_K_winnerSet_20b F o0 o1 Q   K z.1 z.2.1 z.2.2) k (M, x2, x3) → ow_B G D cA ad (ow_A G ad) M s s.heap H locs → lv_has ls 6 [(0, .ref (ad o0)), (1, .ref (ad o1)), (2, .int x2), (3, .int x3)] → W p l e rm_K_winnerSet s m ([.ref (ad o0), .ref (ad o1)] : List Value).toArray below meth c H locs 0 0 (MQ below (ow_Qi G D cA ad Q) ([.ref (ad o0), .ref (ad o1)] : List Value).toArray s 0 0 (ow_A G ad)) (F0 m 20 ls []) := by
      intro k
      induction k with
      | zero => intro M x2 x3 H locs ls h hB hl; exact False.elim h
      | succ k ih => intro M x2 x3 H locs ls h hB hl; exact B20   (ow_lp _ k) (fun M x2 x3 H locs ls h hB  hl => ih M x2 x3  H locs ls h hB hl) M x2 x3 H locs ls h hB hl
    intro M x2 x3 H locs ls h hB hl
    exact step F M x2 x3 H locs ls h hB hl
  have hl := lv_entry ([.ref (ad o0), .ref (ad o1)]) (n := 6) (Nat.le_of_ble_eq_true rfl)
  rw [lg_entry_eq]
  generalize (lg_sl ([.ref (ad o0), .ref (ad o1)]) ++ List.replicate (6 - (lg_sl ([.ref (ad o0), .ref (ad o1)])).length) Slot.unset).toArray = ls at hl ⊢
  have hl : lv_has ls 6 [(0, .ref (ad o0)), (1, .ref (ad o1))] := hl
  show W p l e rm_K_winnerSet s m _ below meth c s.heap [] 0 0 _ _
  refine lv_aload_n hx hb dc_K_winnerSet_0 rfl (lv_at hl 0 rfl) ?_
  refine lv_aload_n hx hb dc_K_winnerSet_1 rfl (lv_at hl 1 rfl) ?_
  refine ow_callv (va_runV (As := [.ref (ad o1)]) (rest := []) ⟨hx, hb, hml, hown, hts⟩ (ct_K_collect l G hG D cA ad F _ k0 _ k1 _ _ h) ⟨ow_cb 1 hts mw_556 mw_9 mw_553 rfl rfl hd_K_collect ⟨Nat.le_of_ble_eq_true rfl, Nat.le_of_ble_eq_true rfl⟩, hts _ mw_555, hts _ ms_11⟩ (ow_preV hB k0 rfl) rfl rfl hl.1 rfl (lv_room (Nat.le_of_ble_eq_true rfl)) dc_K_winnerSet_2 ⟨Nat.zero_le _, Nat.zero_le _⟩) hB (fun M8 H locs h hB => ?_)
  refine lv_aload_n hx hb dc_K_winnerSet_5 rfl (lv_at hl 0 rfl) ?_
  refine ow_get hx hb hts iw_K hown hB k0 rfl 1 (by decide) mw_157 rfl dc_K_winnerSet_6 ?_
  refine lv_iconst (v := 0) hx hb dc_K_winnerSet_9 rfl ?_
  refine ow_callv (va_runS (As := [.ref (ad (o0 + 2)), .int 0]) (rest := []) ⟨hx, hb, hml, hown, hts⟩ (ct_JA_fill l G hG D cA ad F _ _ (ly_K_under hG k0) _ _ _ h) ⟨ow_cb 2 hts mw_111 mw_4 mw_563 rfl rfl hd_JA_fill ⟨Nat.le_of_ble_eq_true rfl, Nat.le_of_ble_eq_true rfl⟩, hts _ mw_110⟩ (ow_preS hB) rfl rfl hl.1 rfl (lv_room (Nat.le_of_ble_eq_true rfl)) dc_K_winnerSet_10 ⟨Nat.zero_le _, Nat.zero_le _⟩) hB (fun M9 H locs h hB => ?_)
  refine lv_aload_n hx hb dc_K_winnerSet_13 rfl (lv_at hl 1 rfl) ?_
  refine ow_calli (va_runV (As := []) (rest := []) ⟨hx, hb, hml, hown, hts⟩ (ct_P_everyone l G hG D cA ad F _ k1 _ _ h) ⟨ow_cb 0 hts mw_260 mw_2 mw_564 rfl rfl hd_P_everyone ⟨Nat.le_of_ble_eq_true rfl, Nat.le_of_ble_eq_true rfl⟩, hts _ mw_258, hts _ mw_259⟩ (ow_preV hB k1 rfl) rfl rfl hl.1 rfl (lv_room (Nat.le_of_ble_eq_true rfl)) dc_K_winnerSet_14 ⟨Nat.zero_le _, Nat.zero_le _⟩) hB (fun r11 M10 H locs h hB => ?_)
  refine lv_istore_n hx hb dc_K_winnerSet_17 rfl hl (by decide) rfl (fun ls hl => ?_)
  refine lv_iconst (v := 0) hx hb dc_K_winnerSet_18 rfl ?_
  refine lv_istore_n hx hb dc_K_winnerSet_19 rfl hl (by decide) rfl (fun ls hl => ?_)
  exact L20 _ _ _ _ _ _ h hB (lv_sub hl [2, 3, 1, 0] rfl)
