def wp_S_start_7b (F : Nat) (o0 : Nat) (x1 : Int32) (Q : om_M → Prop)   (K7 : om_M × Int32 → Prop) (M : om_M) (x2 : Int32) : Prop := (((M.1 o0 1) ≤ x2 → Q M) ∧ (¬ (M.1 o0 1) ≤ x2 → vp_in x2 7 ∧ K7 (om_up M (o0 + 1) x2.toNatClampNeg x2, x2 + 1)))
def wp_S_start_7 (F : Nat) (o0 : Nat) (x1 : Int32) (Q : om_M → Prop)   (M : om_M) (x2 : Int32) : Prop := ow_lp (fun (z : om_M × Int32) K => wp_S_start_7b F o0 x1 Q   K z.1 z.2) F (M, x2)
def wp_S_start (F : Nat) (o0 : Nat) (x1 : Int32) (M : om_M) (Q : om_M → Prop) : Prop := wp_S_start_7 F o0 x1 Q (om_up M o0 1 x1) 0
def wp_S_asNumber_4b (F : Nat) (o0 : Nat) (Q : Int32 → om_M → Prop)   (K4 : om_M × Int32 × Int32 → Prop) (M : om_M) (x1 : Int32) (x2 : Int32) : Prop := (((M.1 o0 1) ≤ x2 → Q x1 M) ∧ (¬ (M.1 o0 1) ≤ x2 → vp_in x2 7 ∧ K4 (M, x1 ||| ((M.1 (o0 + 1) x2.toNatClampNeg) <<< (((3 : Int32) * x2) &&& 31)), x2 + 1)))
def wp_S_asNumber_4 (F : Nat) (o0 : Nat) (Q : Int32 → om_M → Prop)   (M : om_M) (x1 : Int32) (x2 : Int32) : Prop := ow_lp (fun (z : om_M × Int32 × Int32) K => wp_S_asNumber_4b F o0 Q   K z.1 z.2.1 z.2.2) F (M, x1, x2)
def wp_S_asNumber (F : Nat) (o0 : Nat) (M : om_M) (Q : Int32 → om_M → Prop) : Prop := wp_S_asNumber_4 F o0 Q M 0 0
def wp_S_swap (F : Nat) (o0 : Nat) (x1 : Int32) (x2 : Int32) (M : om_M) (Q : om_M → Prop) : Prop := vp_in x1 7 ∧ vp_in x2 7 ∧ Q (om_up (om_up M (o0 + 1) x1.toNatClampNeg (M.1 (o0 + 1) x2.toNatClampNeg)) (o0 + 1) x2.toNatClampNeg (M.1 (o0 + 1) x1.toNatClampNeg))
def wp_S_advance_93b (F : Nat) (o0 : Nat) (Q : Int32 → om_M → Prop)   (K93 : om_M × Int32 × Int32 → Prop) (M : om_M) (x3 : Int32) (x4 : Int32) : Prop := ((x4 ≤ x3 → Q 1 M) ∧ (¬ x4 ≤ x3 → wp_S_swap F o0 x3 x4 M (fun M1 => K93 (M1, x3 + 1, x4 + (-1)))))
def wp_S_advance_93 (F : Nat) (o0 : Nat) (Q : Int32 → om_M → Prop)   (M : om_M) (x3 : Int32) (x4 : Int32) : Prop := ow_lp (fun (z : om_M × Int32 × Int32) K => wp_S_advance_93b F o0 Q   K z.1 z.2.1 z.2.2) F (M, x3, x4)
def wp_S_advance_75 (F : Nat) (o0 : Nat) (Q : Int32 → om_M → Prop)   (M : om_M) (x1 : Int32) (x2 : Int32)  : Prop := wp_S_swap F o0 x1 x2 M (fun M2 => wp_S_advance_93 F o0 Q M2 (x1 + 1) ((M2.1 o0 1) - 1))
def wp_S_advance_47b (F : Nat) (o0 : Nat) (Q : Int32 → om_M → Prop) (x1 : Int32)  (K47 : om_M × Int32 → Prop) (M : om_M) (x2 : Int32) : Prop := ((x2 ≤ (x1 + 1) → wp_S_advance_75 F o0 Q M x1 x2) ∧ (¬ x2 ≤ (x1 + 1) → vp_in x2 7 ∧ vp_in x1 7 ∧ (((M.1 (o0 + 1) x1.toNatClampNeg) ≤ (M.1 (o0 + 1) x2.toNatClampNeg) → wp_S_advance_75 F o0 Q M x1 x2) ∧ (¬ (M.1 (o0 + 1) x1.toNatClampNeg) ≤ (M.1 (o0 + 1) x2.toNatClampNeg) → K47 (M, x2 + (-1))))))
def wp_S_advance_47 (F : Nat) (o0 : Nat) (Q : Int32 → om_M → Prop) (x1 : Int32)  (M : om_M) (x2 : Int32) : Prop := ow_lp (fun (z : om_M × Int32) K => wp_S_advance_47b F o0 Q x1  K z.1 z.2) F (M, x2)
def wp_S_advance_34 (F : Nat) (o0 : Nat) (Q : Int32 → om_M → Prop)   (M : om_M) (x1 : Int32)  : Prop := ((0 ≤ x1 → wp_S_advance_47 F o0 Q x1 M ((M.1 o0 1) - 1)) ∧ (¬ 0 ≤ x1 → Q 0 M))
def wp_S_advance_7b (F : Nat) (o0 : Nat) (Q : Int32 → om_M → Prop)   (K7 : om_M × Int32 → Prop) (M : om_M) (x1 : Int32) : Prop := ((x1 < 0 → wp_S_advance_34 F o0 Q M x1) ∧ (¬ x1 < 0 → vp_in x1 7 ∧ vp_in (x1 + 1) 7 ∧ (((M.1 (o0 + 1) x1.toNatClampNeg) ≤ (M.1 (o0 + 1) (x1 + 1).toNatClampNeg) → wp_S_advance_34 F o0 Q M x1) ∧ (¬ (M.1 (o0 + 1) x1.toNatClampNeg) ≤ (M.1 (o0 + 1) (x1 + 1).toNatClampNeg) → K7 (M, x1 + (-1))))))
def wp_S_advance_7 (F : Nat) (o0 : Nat) (Q : Int32 → om_M → Prop)   (M : om_M) (x1 : Int32) : Prop := ow_lp (fun (z : om_M × Int32) K => wp_S_advance_7b F o0 Q   K z.1 z.2) F (M, x1)
def wp_S_advance (F : Nat) (o0 : Nat) (M : om_M) (Q : Int32 → om_M → Prop) : Prop := wp_S_advance_7 F o0 Q M ((M.1 o0 1) - 2)
abbrev rm_S_start : Room := { frames := 0, cells := 0, slots := 0, locals := 0 }
theorem hd_S_start : yn_S_start.cls ≠ "java/lang/invoke/MethodHandle" ∧ yn_S_start.cls ≠ "java/lang/invoke/VarHandle" ∧ (parseMethodDescriptor yn_S_start.desc).map (fun d => d.parameters.length) = some 1 := by decide +kernel
set_option maxHeartbeats 4000000 in
set_option maxRecDepth 100000 in
theorem ct_S_start (l : Launch) (G : List (Nat × Nat)) (hG : ow_lay G) (D : va_G) (cA : Nat → ClassId) (ad : Nat → Nat) (F : Nat) (o0 : Nat) (k0 : ow_kd G o0 = (3, 8)) (x1 : Int32) (M : om_M) (Q : om_M → Prop) (h : wp_S_start F o0 x1 M Q) : Met l yn_S_start (ow_ws yn_S_start cb_S_start 3 none) rm_S_start (ow_Pc G D cA ad M [.ref (ad o0), .int x1]) (ow_Qv G D cA ad Q) 0 0 (ow_A G ad) := by
  refine Met.ofW (cc := cb_S_start) (maxL := 3) (ret := none) (by decide) rfl ?_
  intro p e s m args below meth c s₁ B hml hv
  obtain ⟨rfl, hB⟩ := hv
  have hx := B.exec
  have hb := B.bytes
  have hr := B.returns
  have hlocks := B.notSynchronized
  have hts : ∀ w ∈ lw_g, w.before ([.ref (ad o0), .int x1] : List Value).toArray s = true := fun w h => atoms_spec (ws := ow_ws yn_S_start cb_S_start 3 none) B.pre w (List.mem_cons_of_mem _ h)
  have hown : s.vm.findClass "BallotDesk$Orders" = some m.cls := findClass_of_methodNamed B.named
  clear B
  have B7 : ∀   (K7 : om_M × Int32 → Prop) (hK7 : ∀ (M : om_M) (x2 : Int32) (H : Heap) (locs : List Loc) (ls : Array Slot), K7 (M, x2) → ow_B G D cA ad (ow_A G ad) M s s.heap H locs → lv_has ls 3 [(0, .ref (ad o0)), (2, .int x2)] → W p l e rm_S_start s m ([.ref (ad o0), .int x1] : List Value).toArray below meth c H locs 0 0 (MQ below (ow_Qv G D cA ad Q) ([.ref (ad o0), .int x1] : List Value).toArray s 0 0 (ow_A G ad)) (F0 m 7 ls [])) (M : om_M) (x2 : Int32) (H : Heap) (locs : List Loc) (ls : Array Slot), wp_S_start_7b F o0 x1 Q   K7 M x2 → ow_B G D cA ad (ow_A G ad) M s s.heap H locs → lv_has ls 3 [(0, .ref (ad o0)), (2, .int x2)] → W p l e rm_S_start s m ([.ref (ad o0), .int x1] : List Value).toArray below meth c H locs 0 0 (MQ below (ow_Qv G D cA ad Q) ([.ref (ad o0), .int x1] : List Value).toArray s 0 0 (ow_A G ad)) (F0 m 7 ls []) := by
    intro   K7 hK7 M x2 H locs ls h hB hl
    refine lv_iload_n hx hb dc_S_start_7 rfl (lv_at hl 1 rfl) ?_
    refine lv_aload_n hx hb dc_S_start_8 rfl (lv_at hl 0 rfl) ?_
    refine ow_get hx hb hts iw_S hown hB k0 rfl 1 (by decide) mw_208 rfl dc_S_start_9 ?_
    obtain ⟨h1, h2⟩ := h
    refine lv_icmp_ge hx hb dc_S_start_12 rfl (fun hc => ?_) (fun hc => ?_)
    · have h := h1 hc
      exact ow_vret hx hb hr hlocks hB h dc_S_start_28
    · have h := h2 hc
      refine lv_aload_n hx hb dc_S_start_15 rfl (lv_at hl 0 rfl) ?_
      refine ow_get hx hb hts iw_S hown hB k0 rfl 0 (by decide) mw_207 rfl dc_S_start_16 ?_
      refine lv_iload_n hx hb dc_S_start_19 rfl (lv_at hl 1 rfl) ?_
      refine lv_iload_n hx hb dc_S_start_20 rfl (lv_at hl 1 rfl) ?_
      obtain ⟨hi1, h⟩ := h
      refine ow_iast hx hb hB (ly_S_row hG k0) hi1 dc_S_start_21 (fun H locs hB => ?_)
      refine lv_iinc hx hb dc_S_start_22 hl (k := 1) rfl rfl (by decide) rfl (fun ls hl => ?_)
      refine lv_goto hx hb dc_S_start_25 rfl ?_
      exact hK7 _ _ _ _ _ h hB (lv_sub hl [1, 0] rfl)
  have L7 : ∀   (M : om_M) (x2 : Int32) (H : Heap) (locs : List Loc) (ls : Array Slot), wp_S_start_7 F o0 x1 Q   M x2 → ow_B G D cA ad (ow_A G ad) M s s.heap H locs → lv_has ls 3 [(0, .ref (ad o0)), (2, .int x2)] → W p l e rm_S_start s m ([.ref (ad o0), .int x1] : List Value).toArray below meth c H locs 0 0 (MQ below (ow_Qv G D cA ad Q) ([.ref (ad o0), .int x1] : List Value).toArray s 0 0 (ow_A G ad)) (F0 m 7 ls []) := by
    have step : ∀ (k : Nat) (M : om_M) (x2 : Int32) (H : Heap) (locs : List Loc) (ls : Array Slot), ow_lp (fun (z : om_M × Int32) K => wp_S_start_7b F o0 x1 Q   K z.1 z.2) k (M, x2) → ow_B G D cA ad (ow_A G ad) M s s.heap H locs → lv_has ls 3 [(0, .ref (ad o0)), (2, .int x2)] → W p l e rm_S_start s m ([.ref (ad o0), .int x1] : List Value).toArray below meth c H locs 0 0 (MQ below (ow_Qv G D cA ad Q) ([.ref (ad o0), .int x1] : List Value).toArray s 0 0 (ow_A G ad)) (F0 m 7 ls []) := by
      intro k
      induction k with
      | zero => intro M x2 H locs ls h hB hl; exact False.elim h
      | succ k ih => intro M x2 H locs ls h hB hl; exact B7   (ow_lp _ k) (fun M x2 H locs ls h hB  hl => ih M x2  H locs ls h hB hl) M x2 H locs ls h hB hl
    intro M x2 H locs ls h hB hl
    exact step F M x2 H locs ls h hB hl
  have hl := lv_entry ([.ref (ad o0), .int x1]) (n := 3) (Nat.le_of_ble_eq_true rfl)
  rw [lg_entry_eq]
  generalize (lg_sl ([.ref (ad o0), .int x1]) ++ List.replicate (3 - (lg_sl ([.ref (ad o0), .int x1])).length) Slot.unset).toArray = ls at hl ⊢
  have hl : lv_has ls 3 [(0, .ref (ad o0)), (1, .int x1)] := hl
  show W p l e rm_S_start s m _ below meth c s.heap [] 0 0 _ _
  refine lv_aload_n hx hb dc_S_start_0 rfl (lv_at hl 0 rfl) ?_
  refine lv_iload_n hx hb dc_S_start_1 rfl (lv_at hl 1 rfl) ?_
  refine ow_put hx hb hts iw_S yf_S of_S nf_S hown hB k0 rfl 1 (by decide) mw_208 rfl (by decide +kernel) (Nat.le_of_ble_eq_true rfl) rfl dc_S_start_2 (fun H locs hB => ?_)
  refine lv_iconst (v := 0) hx hb dc_S_start_5 rfl ?_
  refine lv_istore_n hx hb dc_S_start_6 rfl hl (by decide) rfl (fun ls hl => ?_)
  exact L7 _ _ _ _ _ h hB (lv_sub hl [1, 0] rfl)
abbrev rm_S_asNumber : Room := { frames := 0, cells := 0, slots := 0, locals := 0 }
theorem hd_S_asNumber : yn_S_asNumber.cls ≠ "java/lang/invoke/MethodHandle" ∧ yn_S_asNumber.cls ≠ "java/lang/invoke/VarHandle" ∧ (parseMethodDescriptor yn_S_asNumber.desc).map (fun d => d.parameters.length) = some 0 := by decide +kernel
set_option maxHeartbeats 4000000 in
set_option maxRecDepth 100000 in
theorem ct_S_asNumber (l : Launch) (G : List (Nat × Nat)) (hG : ow_lay G) (D : va_G) (cA : Nat → ClassId) (ad : Nat → Nat) (F : Nat) (o0 : Nat) (k0 : ow_kd G o0 = (3, 8)) (M : om_M) (Q : Int32 → om_M → Prop) (h : wp_S_asNumber F o0 M Q) : Met l yn_S_asNumber (ow_ws yn_S_asNumber cb_S_asNumber 3 (some .int)) rm_S_asNumber (ow_Pc G D cA ad M [.ref (ad o0)]) (ow_Qi G D cA ad Q) 0 0 (ow_A G ad) := by
  refine Met.ofW (cc := cb_S_asNumber) (maxL := 3) (ret := (some .int)) (by decide) rfl ?_
  intro p e s m args below meth c s₁ B hml hv
  obtain ⟨rfl, hB⟩ := hv
  have hx := B.exec
  have hb := B.bytes
  have hr := B.returns
  have hlocks := B.notSynchronized
  have hts : ∀ w ∈ lw_g, w.before ([.ref (ad o0)] : List Value).toArray s = true := fun w h => atoms_spec (ws := ow_ws yn_S_asNumber cb_S_asNumber 3 (some .int)) B.pre w (List.mem_cons_of_mem _ h)
  have hown : s.vm.findClass "BallotDesk$Orders" = some m.cls := findClass_of_methodNamed B.named
  clear B
  have B4 : ∀   (K4 : om_M × Int32 × Int32 → Prop) (hK4 : ∀ (M : om_M) (x1 : Int32) (x2 : Int32) (H : Heap) (locs : List Loc) (ls : Array Slot), K4 (M, x1, x2) → ow_B G D cA ad (ow_A G ad) M s s.heap H locs → lv_has ls 3 [(0, .ref (ad o0)), (1, .int x1), (2, .int x2)] → W p l e rm_S_asNumber s m ([.ref (ad o0)] : List Value).toArray below meth c H locs 0 0 (MQ below (ow_Qi G D cA ad Q) ([.ref (ad o0)] : List Value).toArray s 0 0 (ow_A G ad)) (F0 m 4 ls [])) (M : om_M) (x1 : Int32) (x2 : Int32) (H : Heap) (locs : List Loc) (ls : Array Slot), wp_S_asNumber_4b F o0 Q   K4 M x1 x2 → ow_B G D cA ad (ow_A G ad) M s s.heap H locs → lv_has ls 3 [(0, .ref (ad o0)), (1, .int x1), (2, .int x2)] → W p l e rm_S_asNumber s m ([.ref (ad o0)] : List Value).toArray below meth c H locs 0 0 (MQ below (ow_Qi G D cA ad Q) ([.ref (ad o0)] : List Value).toArray s 0 0 (ow_A G ad)) (F0 m 4 ls []) := by
    intro   K4 hK4 M x1 x2 H locs ls h hB hl
    refine lv_iload_n hx hb dc_S_asNumber_4 rfl (lv_at hl 2 rfl) ?_
    refine lv_aload_n hx hb dc_S_asNumber_5 rfl (lv_at hl 0 rfl) ?_
    refine ow_get hx hb hts iw_S hown hB k0 rfl 1 (by decide) mw_208 rfl dc_S_asNumber_6 ?_
    obtain ⟨h1, h2⟩ := h
    refine lv_icmp_ge hx hb dc_S_asNumber_9 rfl (fun hc => ?_) (fun hc => ?_)
    · have h := h1 hc
      refine lv_iload_n hx hb dc_S_asNumber_31 rfl (lv_at hl 1 rfl) ?_
      exact ow_iret hx hb hr hlocks hB h dc_S_asNumber_32
    · have h := h2 hc
      refine lv_iload_n hx hb dc_S_asNumber_12 rfl (lv_at hl 1 rfl) ?_
      refine lv_aload_n hx hb dc_S_asNumber_13 rfl (lv_at hl 0 rfl) ?_
      refine ow_get hx hb hts iw_S hown hB k0 rfl 0 (by decide) mw_207 rfl dc_S_asNumber_14 ?_
      refine lv_iload_n hx hb dc_S_asNumber_17 rfl (lv_at hl 2 rfl) ?_
      obtain ⟨hi1, h⟩ := h
      refine ow_iald hx hb hB (ly_S_row hG k0) hi1 dc_S_asNumber_18 ?_
      refine lv_iconst (v := 3) hx hb dc_S_asNumber_19 rfl ?_
      refine lv_iload_n hx hb dc_S_asNumber_20 rfl (lv_at hl 2 rfl) ?_
      refine lv_imul hx hb dc_S_asNumber_21 ?_
      refine lv_ishl hx hb dc_S_asNumber_22 ?_
      refine lv_ior hx hb dc_S_asNumber_23 ?_
      refine lv_istore_n hx hb dc_S_asNumber_24 rfl hl (by decide) rfl (fun ls hl => ?_)
      refine lv_iinc hx hb dc_S_asNumber_25 hl (k := 2) rfl rfl (by decide) rfl (fun ls hl => ?_)
      refine lv_goto hx hb dc_S_asNumber_28 rfl ?_
      exact hK4 _ _ _ _ _ _ h hB (lv_sub hl [2, 1, 0] rfl)
  have L4 : ∀   (M : om_M) (x1 : Int32) (x2 : Int32) (H : Heap) (locs : List Loc) (ls : Array Slot), wp_S_asNumber_4 F o0 Q   M x1 x2 → ow_B G D cA ad (ow_A G ad) M s s.heap H locs → lv_has ls 3 [(0, .ref (ad o0)), (1, .int x1), (2, .int x2)] → W p l e rm_S_asNumber s m ([.ref (ad o0)] : List Value).toArray below meth c H locs 0 0 (MQ below (ow_Qi G D cA ad Q) ([.ref (ad o0)] : List Value).toArray s 0 0 (ow_A G ad)) (F0 m 4 ls []) := by
    have step : ∀ (k : Nat) (M : om_M) (x1 : Int32) (x2 : Int32) (H : Heap) (locs : List Loc) (ls : Array Slot), ow_lp (fun (z : om_M × Int32 × Int32) K => wp_S_asNumber_4b F o0 Q   K z.1 z.2.1 z.2.2) k (M, x1, x2) → ow_B G D cA ad (ow_A G ad) M s s.heap H locs → lv_has ls 3 [(0, .ref (ad o0)), (1, .int x1), (2, .int x2)] → W p l e rm_S_asNumber s m ([.ref (ad o0)] : List Value).toArray below meth c H locs 0 0 (MQ below (ow_Qi G D cA ad Q) ([.ref (ad o0)] : List Value).toArray s 0 0 (ow_A G ad)) (F0 m 4 ls []) := by
      intro k
      induction k with
      | zero => intro M x1 x2 H locs ls h hB hl; exact False.elim h
      | succ k ih => intro M x1 x2 H locs ls h hB hl; exact B4   (ow_lp _ k) (fun M x1 x2 H locs ls h hB  hl => ih M x1 x2  H locs ls h hB hl) M x1 x2 H locs ls h hB hl
    intro M x1 x2 H locs ls h hB hl
    exact step F M x1 x2 H locs ls h hB hl
  have hl := lv_entry ([.ref (ad o0)]) (n := 3) (Nat.le_of_ble_eq_true rfl)
  rw [lg_entry_eq]
  generalize (lg_sl ([.ref (ad o0)]) ++ List.replicate (3 - (lg_sl ([.ref (ad o0)])).length) Slot.unset).toArray = ls at hl ⊢
  have hl : lv_has ls 3 [(0, .ref (ad o0))] := hl
  show W p l e rm_S_asNumber s m _ below meth c s.heap [] 0 0 _ _
  refine lv_iconst (v := 0) hx hb dc_S_asNumber_0 rfl ?_
  refine lv_istore_n hx hb dc_S_asNumber_1 rfl hl (by decide) rfl (fun ls hl => ?_)
  refine lv_iconst (v := 0) hx hb dc_S_asNumber_2 rfl ?_
  refine lv_istore_n hx hb dc_S_asNumber_3 rfl hl (by decide) rfl (fun ls hl => ?_)
  exact L4 _ _ _ _ _ _ h hB (lv_sub hl [2, 1, 0] rfl)
abbrev rm_S_swap : Room := { frames := 0, cells := 0, slots := 0, locals := 0 }
theorem hd_S_swap : yn_S_swap.cls ≠ "java/lang/invoke/MethodHandle" ∧ yn_S_swap.cls ≠ "java/lang/invoke/VarHandle" ∧ (parseMethodDescriptor yn_S_swap.desc).map (fun d => d.parameters.length) = some 2 := by decide +kernel
set_option maxHeartbeats 4000000 in
set_option maxRecDepth 100000 in
theorem ct_S_swap (l : Launch) (G : List (Nat × Nat)) (hG : ow_lay G) (D : va_G) (cA : Nat → ClassId) (ad : Nat → Nat) (F : Nat) (o0 : Nat) (k0 : ow_kd G o0 = (3, 8)) (x1 : Int32) (x2 : Int32) (M : om_M) (Q : om_M → Prop) (h : wp_S_swap F o0 x1 x2 M Q) : Met l yn_S_swap (ow_ws yn_S_swap cb_S_swap 4 none) rm_S_swap (ow_Pc G D cA ad M [.ref (ad o0), .int x1, .int x2]) (ow_Qv G D cA ad Q) 0 0 (ow_A G ad) := by
  refine Met.ofW (cc := cb_S_swap) (maxL := 4) (ret := none) (by decide) rfl ?_
  intro p e s m args below meth c s₁ B hml hv
  obtain ⟨rfl, hB⟩ := hv
  have hx := B.exec
  have hb := B.bytes
  have hr := B.returns
  have hlocks := B.notSynchronized
  have hts : ∀ w ∈ lw_g, w.before ([.ref (ad o0), .int x1, .int x2] : List Value).toArray s = true := fun w h => atoms_spec (ws := ow_ws yn_S_swap cb_S_swap 4 none) B.pre w (List.mem_cons_of_mem _ h)
  have hown : s.vm.findClass "BallotDesk$Orders" = some m.cls := findClass_of_methodNamed B.named
  clear B
  have hl := lv_entry ([.ref (ad o0), .int x1, .int x2]) (n := 4) (Nat.le_of_ble_eq_true rfl)
  rw [lg_entry_eq]
  generalize (lg_sl ([.ref (ad o0), .int x1, .int x2]) ++ List.replicate (4 - (lg_sl ([.ref (ad o0), .int x1, .int x2])).length) Slot.unset).toArray = ls at hl ⊢
  have hl : lv_has ls 4 [(0, .ref (ad o0)), (1, .int x1), (2, .int x2)] := hl
  show W p l e rm_S_swap s m _ below meth c s.heap [] 0 0 _ _
  refine lv_aload_n hx hb dc_S_swap_0 rfl (lv_at hl 0 rfl) ?_
  refine ow_get hx hb hts iw_S hown hB k0 rfl 0 (by decide) mw_207 rfl dc_S_swap_1 ?_
  refine lv_iload_n hx hb dc_S_swap_4 rfl (lv_at hl 1 rfl) ?_
  obtain ⟨hi1, h⟩ := h
  refine ow_iald hx hb hB (ly_S_row hG k0) hi1 dc_S_swap_5 ?_
  refine lv_istore_n hx hb dc_S_swap_6 rfl hl (by decide) rfl (fun ls hl => ?_)
  refine lv_aload_n hx hb dc_S_swap_7 rfl (lv_at hl 1 rfl) ?_
  refine ow_get hx hb hts iw_S hown hB k0 rfl 0 (by decide) mw_207 rfl dc_S_swap_8 ?_
  refine lv_iload_n hx hb dc_S_swap_11 rfl (lv_at hl 2 rfl) ?_
  refine lv_aload_n hx hb dc_S_swap_12 rfl (lv_at hl 1 rfl) ?_
  refine ow_get hx hb hts iw_S hown hB k0 rfl 0 (by decide) mw_207 rfl dc_S_swap_13 ?_
  refine lv_iload_n hx hb dc_S_swap_16 rfl (lv_at hl 3 rfl) ?_
  obtain ⟨hi2, h⟩ := h
  refine ow_iald hx hb hB (ly_S_row hG k0) hi2 dc_S_swap_17 ?_
  refine ow_iast hx hb hB (ly_S_row hG k0) hi1 dc_S_swap_18 (fun H locs hB => ?_)
  refine lv_aload_n hx hb dc_S_swap_19 rfl (lv_at hl 1 rfl) ?_
  refine ow_get hx hb hts iw_S hown hB k0 rfl 0 (by decide) mw_207 rfl dc_S_swap_20 ?_
  refine lv_iload_n hx hb dc_S_swap_23 rfl (lv_at hl 3 rfl) ?_
  refine lv_iload_n hx hb dc_S_swap_24 rfl (lv_at hl 0 rfl) ?_
  refine ow_iast hx hb hB (ly_S_row hG k0) hi2 dc_S_swap_25 (fun H locs hB => ?_)
  exact ow_vret hx hb hr hlocks hB h dc_S_swap_26
abbrev rm_S_advance : Room := { frames := 1, cells := 0, slots := 0, locals := 23 }
theorem hd_S_advance : yn_S_advance.cls ≠ "java/lang/invoke/MethodHandle" ∧ yn_S_advance.cls ≠ "java/lang/invoke/VarHandle" ∧ (parseMethodDescriptor yn_S_advance.desc).map (fun d => d.parameters.length) = some 0 := by decide +kernel
set_option maxHeartbeats 4000000 in
set_option maxRecDepth 100000 in
theorem ct_S_advance (l : Launch) (G : List (Nat × Nat)) (hG : ow_lay G) (D : va_G) (cA : Nat → ClassId) (ad : Nat → Nat) (F : Nat) (o0 : Nat) (k0 : ow_kd G o0 = (3, 8)) (M : om_M) (Q : Int32 → om_M → Prop) (h : wp_S_advance F o0 M Q) : Met l yn_S_advance (ow_ws yn_S_advance cb_S_advance 5 (some .boolean)) rm_S_advance (ow_Pc G D cA ad M [.ref (ad o0)]) (ow_Qi G D cA ad Q) 0 0 (ow_A G ad) := by
  refine Met.ofW (cc := cb_S_advance) (maxL := 5) (ret := (some .boolean)) (by decide) rfl ?_
  intro p e s m args below meth c s₁ B hml hv
  obtain ⟨rfl, hB⟩ := hv
  have hx := B.exec
  have hb := B.bytes
  have hr := B.returns
  have hlocks := B.notSynchronized
  have hts : ∀ w ∈ lw_g, w.before ([.ref (ad o0)] : List Value).toArray s = true := fun w h => atoms_spec (ws := ow_ws yn_S_advance cb_S_advance 5 (some .boolean)) B.pre w (List.mem_cons_of_mem _ h)
  have hown : s.vm.findClass "BallotDesk$Orders" = some m.cls := findClass_of_methodNamed B.named
  clear B
  have B93 : ∀   (K93 : om_M × Int32 × Int32 → Prop) (hK93 : ∀ (M : om_M) (x3 : Int32) (x4 : Int32) (H : Heap) (locs : List Loc) (ls : Array Slot), K93 (M, x3, x4) → ow_B G D cA ad (ow_A G ad) M s s.heap H locs → lv_has ls 5 [(0, .ref (ad o0)), (3, .int x3), (4, .int x4)] → W p l e rm_S_advance s m ([.ref (ad o0)] : List Value).toArray below meth c H locs 0 0 (MQ below (ow_Qi G D cA ad Q) ([.ref (ad o0)] : List Value).toArray s 0 0 (ow_A G ad)) (F0 m 93 ls [])) (M : om_M) (x3 : Int32) (x4 : Int32) (H : Heap) (locs : List Loc) (ls : Array Slot), wp_S_advance_93b F o0 Q   K93 M x3 x4 → ow_B G D cA ad (ow_A G ad) M s s.heap H locs → lv_has ls 5 [(0, .ref (ad o0)), (3, .int x3), (4, .int x4)] → W p l e rm_S_advance s m ([.ref (ad o0)] : List Value).toArray below meth c H locs 0 0 (MQ below (ow_Qi G D cA ad Q) ([.ref (ad o0)] : List Value).toArray s 0 0 (ow_A G ad)) (F0 m 93 ls []) := by
    intro   K93 hK93 M x3 x4 H locs ls h hB hl
    refine lv_iload_n hx hb dc_S_advance_93 rfl (lv_at hl 1 rfl) ?_
    refine lv_iload hx hb dc_S_advance_94 (lv_at hl 2 rfl) ?_
    obtain ⟨h1, h2⟩ := h
    refine lv_icmp_ge hx hb dc_S_advance_96 rfl (fun hc => ?_) (fun hc => ?_)
    · have h := h1 hc
      refine lv_iconst (v := 1) hx hb dc_S_advance_115 rfl ?_
      exact ow_zret hx hb hr hlocks (by decide) hB h dc_S_advance_116
    · have h := h2 hc
      refine lv_aload_n hx hb dc_S_advance_99 rfl (lv_at hl 0 rfl) ?_
      refine lv_iload_n hx hb dc_S_advance_100 rfl (lv_at hl 1 rfl) ?_
      refine lv_iload hx hb dc_S_advance_101 (lv_at hl 2 rfl) ?_
      refine ow_callv (va_runV (As := [.int x3, .int x4]) (rest := []) ⟨hx, hb, hml, hown, hts⟩ (ct_S_swap l G hG D cA ad F _ k0 _ _ _ _ h) ⟨ow_cb 2 hts mw_702 mw_11 mw_699 rfl rfl hd_S_swap ⟨Nat.le_of_ble_eq_true rfl, Nat.le_of_ble_eq_true rfl⟩, hts _ mw_701, hts _ ms_16⟩ (ow_preV hB k0 rfl) rfl rfl hl.1 rfl (lv_room (Nat.le_of_ble_eq_true rfl)) dc_S_advance_103 ⟨Nat.zero_le _, Nat.zero_le _⟩) hB (fun M1 H locs h hB => ?_)
      refine lv_iinc hx hb dc_S_advance_106 hl (k := 1) rfl rfl (by decide) rfl (fun ls hl => ?_)
      refine lv_iinc hx hb dc_S_advance_109 hl (k := 2) rfl rfl (by decide) rfl (fun ls hl => ?_)
      refine lv_goto hx hb dc_S_advance_112 rfl ?_
      exact hK93 _ _ _ _ _ _ h hB (lv_sub hl [2, 1, 0] rfl)
  have L93 : ∀   (M : om_M) (x3 : Int32) (x4 : Int32) (H : Heap) (locs : List Loc) (ls : Array Slot), wp_S_advance_93 F o0 Q   M x3 x4 → ow_B G D cA ad (ow_A G ad) M s s.heap H locs → lv_has ls 5 [(0, .ref (ad o0)), (3, .int x3), (4, .int x4)] → W p l e rm_S_advance s m ([.ref (ad o0)] : List Value).toArray below meth c H locs 0 0 (MQ below (ow_Qi G D cA ad Q) ([.ref (ad o0)] : List Value).toArray s 0 0 (ow_A G ad)) (F0 m 93 ls []) := by
    have step : ∀ (k : Nat) (M : om_M) (x3 : Int32) (x4 : Int32) (H : Heap) (locs : List Loc) (ls : Array Slot), ow_lp (fun (z : om_M × Int32 × Int32) K => wp_S_advance_93b F o0 Q   K z.1 z.2.1 z.2.2) k (M, x3, x4) → ow_B G D cA ad (ow_A G ad) M s s.heap H locs → lv_has ls 5 [(0, .ref (ad o0)), (3, .int x3), (4, .int x4)] → W p l e rm_S_advance s m ([.ref (ad o0)] : List Value).toArray below meth c H locs 0 0 (MQ below (ow_Qi G D cA ad Q) ([.ref (ad o0)] : List Value).toArray s 0 0 (ow_A G ad)) (F0 m 93 ls []) := by
      intro k
      induction k with
      | zero => intro M x3 x4 H locs ls h hB hl; exact False.elim h
      | succ k ih => intro M x3 x4 H locs ls h hB hl; exact B93   (ow_lp _ k) (fun M x3 x4 H locs ls h hB  hl => ih M x3 x4  H locs ls h hB hl) M x3 x4 H locs ls h hB hl
    intro M x3 x4 H locs ls h hB hl
    exact step F M x3 x4 H locs ls h hB hl
  have L75 : ∀   (M : om_M) (x1 : Int32) (x2 : Int32)  (H : Heap) (locs : List Loc) (ls : Array Slot), wp_S_advance_75 F o0 Q   M x1 x2  → ow_B G D cA ad (ow_A G ad) M s s.heap H locs → lv_has ls 5 [(0, .ref (ad o0)), (1, .int x1), (2, .int x2)] → W p l e rm_S_advance s m ([.ref (ad o0)] : List Value).toArray below meth c H locs 0 0 (MQ below (ow_Qi G D cA ad Q) ([.ref (ad o0)] : List Value).toArray s 0 0 (ow_A G ad)) (F0 m 75 ls []) := by
    intro   M x1 x2 H locs ls h hB hl
    refine lv_aload_n hx hb dc_S_advance_75 rfl (lv_at hl 0 rfl) ?_
    refine lv_iload_n hx hb dc_S_advance_76 rfl (lv_at hl 1 rfl) ?_
    refine lv_iload_n hx hb dc_S_advance_77 rfl (lv_at hl 2 rfl) ?_
    refine ow_callv (va_runV (As := [.int x1, .int x2]) (rest := []) ⟨hx, hb, hml, hown, hts⟩ (ct_S_swap l G hG D cA ad F _ k0 _ _ _ _ h) ⟨ow_cb 2 hts mw_702 mw_11 mw_699 rfl rfl hd_S_swap ⟨Nat.le_of_ble_eq_true rfl, Nat.le_of_ble_eq_true rfl⟩, hts _ mw_701, hts _ ms_16⟩ (ow_preV hB k0 rfl) rfl rfl hl.1 rfl (lv_room (Nat.le_of_ble_eq_true rfl)) dc_S_advance_78 ⟨Nat.zero_le _, Nat.zero_le _⟩) hB (fun M2 H locs h hB => ?_)
    refine lv_iload_n hx hb dc_S_advance_81 rfl (lv_at hl 1 rfl) ?_
    refine lv_iconst (v := 1) hx hb dc_S_advance_82 rfl ?_
    refine lv_iadd hx hb dc_S_advance_83 ?_
    refine lv_istore_n hx hb dc_S_advance_84 rfl hl (by decide) rfl (fun ls hl => ?_)
    refine lv_aload_n hx hb dc_S_advance_85 rfl (lv_at hl 1 rfl) ?_
    refine ow_get hx hb hts iw_S hown hB k0 rfl 1 (by decide) mw_208 rfl dc_S_advance_86 ?_
    refine lv_iconst (v := 1) hx hb dc_S_advance_89 rfl ?_
    refine lv_isub hx hb dc_S_advance_90 ?_
    refine lv_istore hx hb dc_S_advance_91 hl (by decide) rfl (fun ls hl => ?_)
    exact L93 _ _ _ _ _ _ h hB (lv_sub hl [2, 1, 0] rfl)
  have B47 : ∀ (x1 : Int32)  (K47 : om_M × Int32 → Prop) (hK47 : ∀ (M : om_M) (x2 : Int32) (H : Heap) (locs : List Loc) (ls : Array Slot), K47 (M, x2) → ow_B G D cA ad (ow_A G ad) M s s.heap H locs → lv_has ls 5 [(0, .ref (ad o0)), (1, .int x1), (2, .int x2)] → W p l e rm_S_advance s m ([.ref (ad o0)] : List Value).toArray below meth c H locs 0 0 (MQ below (ow_Qi G D cA ad Q) ([.ref (ad o0)] : List Value).toArray s 0 0 (ow_A G ad)) (F0 m 47 ls [])) (M : om_M) (x2 : Int32) (H : Heap) (locs : List Loc) (ls : Array Slot), wp_S_advance_47b F o0 Q x1  K47 M x2 → ow_B G D cA ad (ow_A G ad) M s s.heap H locs → lv_has ls 5 [(0, .ref (ad o0)), (1, .int x1), (2, .int x2)] → W p l e rm_S_advance s m ([.ref (ad o0)] : List Value).toArray below meth c H locs 0 0 (MQ below (ow_Qi G D cA ad Q) ([.ref (ad o0)] : List Value).toArray s 0 0 (ow_A G ad)) (F0 m 47 ls []) := by
    intro x1  K47 hK47 M x2 H locs ls h hB hl
    refine lv_iload_n hx hb dc_S_advance_47 rfl (lv_at hl 2 rfl) ?_
    refine lv_iload_n hx hb dc_S_advance_48 rfl (lv_at hl 1 rfl) ?_
    refine lv_iconst (v := 1) hx hb dc_S_advance_49 rfl ?_
    refine lv_iadd hx hb dc_S_advance_50 ?_
    obtain ⟨h1, h2⟩ := h
    refine lv_icmp_le hx hb dc_S_advance_51 rfl (fun hc => ?_) (fun hc => ?_)
    · have h := h1 hc
      exact L75 _ _ _ _ _ _ h hB (lv_sub hl [0, 1, 2] rfl)
    · have h := h2 hc
      refine lv_aload_n hx hb dc_S_advance_54 rfl (lv_at hl 0 rfl) ?_
      refine ow_get hx hb hts iw_S hown hB k0 rfl 0 (by decide) mw_207 rfl dc_S_advance_55 ?_
      refine lv_iload_n hx hb dc_S_advance_58 rfl (lv_at hl 2 rfl) ?_
      obtain ⟨hi3, h⟩ := h
      refine ow_iald hx hb hB (ly_S_row hG k0) hi3 dc_S_advance_59 ?_
      refine lv_aload_n hx hb dc_S_advance_60 rfl (lv_at hl 0 rfl) ?_
      refine ow_get hx hb hts iw_S hown hB k0 rfl 0 (by decide) mw_207 rfl dc_S_advance_61 ?_
      refine lv_iload_n hx hb dc_S_advance_64 rfl (lv_at hl 1 rfl) ?_
      obtain ⟨hi4, h⟩ := h
      refine ow_iald hx hb hB (ly_S_row hG k0) hi4 dc_S_advance_65 ?_
      obtain ⟨h1, h2⟩ := h
      refine lv_icmp_ge hx hb dc_S_advance_66 rfl (fun hc => ?_) (fun hc => ?_)
      · have h := h1 hc
        exact L75 _ _ _ _ _ _ h hB (lv_sub hl [0, 1, 2] rfl)
      · have h := h2 hc
        refine lv_iinc hx hb dc_S_advance_69 hl (k := 2) rfl rfl (by decide) rfl (fun ls hl => ?_)
        refine lv_goto hx hb dc_S_advance_72 rfl ?_
        exact hK47 _ _ _ _ _ h hB (lv_sub hl [1, 2, 0] rfl)
  have L47 : ∀ (x1 : Int32)  (M : om_M) (x2 : Int32) (H : Heap) (locs : List Loc) (ls : Array Slot), wp_S_advance_47 F o0 Q x1  M x2 → ow_B G D cA ad (ow_A G ad) M s s.heap H locs → lv_has ls 5 [(0, .ref (ad o0)), (1, .int x1), (2, .int x2)] → W p l e rm_S_advance s m ([.ref (ad o0)] : List Value).toArray below meth c H locs 0 0 (MQ below (ow_Qi G D cA ad Q) ([.ref (ad o0)] : List Value).toArray s 0 0 (ow_A G ad)) (F0 m 47 ls []) := by
    intro x1 
    have step : ∀ (k : Nat) (M : om_M) (x2 : Int32) (H : Heap) (locs : List Loc) (ls : Array Slot), ow_lp (fun (z : om_M × Int32) K => wp_S_advance_47b F o0 Q x1  K z.1 z.2) k (M, x2) → ow_B G D cA ad (ow_A G ad) M s s.heap H locs → lv_has ls 5 [(0, .ref (ad o0)), (1, .int x1), (2, .int x2)] → W p l e rm_S_advance s m ([.ref (ad o0)] : List Value).toArray below meth c H locs 0 0 (MQ below (ow_Qi G D cA ad Q) ([.ref (ad o0)] : List Value).toArray s 0 0 (ow_A G ad)) (F0 m 47 ls []) := by
      intro k
      induction k with
      | zero => intro M x2 H locs ls h hB hl; exact False.elim h
      | succ k ih => intro M x2 H locs ls h hB hl; exact B47 x1  (ow_lp _ k) (fun M x2 H locs ls h hB  hl => ih M x2  H locs ls h hB hl) M x2 H locs ls h hB hl
    intro M x2 H locs ls h hB hl
    exact step F M x2 H locs ls h hB hl
  have L34 : ∀   (M : om_M) (x1 : Int32)  (H : Heap) (locs : List Loc) (ls : Array Slot), wp_S_advance_34 F o0 Q   M x1  → ow_B G D cA ad (ow_A G ad) M s s.heap H locs → lv_has ls 5 [(0, .ref (ad o0)), (1, .int x1)] → W p l e rm_S_advance s m ([.ref (ad o0)] : List Value).toArray below meth c H locs 0 0 (MQ below (ow_Qi G D cA ad Q) ([.ref (ad o0)] : List Value).toArray s 0 0 (ow_A G ad)) (F0 m 34 ls []) := by
    intro   M x1 H locs ls h hB hl
    refine lv_iload_n hx hb dc_S_advance_34 rfl (lv_at hl 1 rfl) ?_
    obtain ⟨h1, h2⟩ := h
    refine lv_if_ge hx hb dc_S_advance_35 rfl (fun hc => ?_) (fun hc => ?_)
    · have h := h1 hc
      refine lv_aload_n hx hb dc_S_advance_40 rfl (lv_at hl 0 rfl) ?_
      refine ow_get hx hb hts iw_S hown hB k0 rfl 1 (by decide) mw_208 rfl dc_S_advance_41 ?_
      refine lv_iconst (v := 1) hx hb dc_S_advance_44 rfl ?_
      refine lv_isub hx hb dc_S_advance_45 ?_
      refine lv_istore_n hx hb dc_S_advance_46 rfl hl (by decide) rfl (fun ls hl => ?_)
      exact L47 _ _ _ _ _ _ h hB (lv_sub hl [1, 2, 0] rfl)
    · have h := h2 hc
      refine lv_iconst (v := 0) hx hb dc_S_advance_38 rfl ?_
      exact ow_zret hx hb hr hlocks (by decide) hB h dc_S_advance_39
  have B7 : ∀   (K7 : om_M × Int32 → Prop) (hK7 : ∀ (M : om_M) (x1 : Int32) (H : Heap) (locs : List Loc) (ls : Array Slot), K7 (M, x1) → ow_B G D cA ad (ow_A G ad) M s s.heap H locs → lv_has ls 5 [(0, .ref (ad o0)), (1, .int x1)] → W p l e rm_S_advance s m ([.ref (ad o0)] : List Value).toArray below meth c H locs 0 0 (MQ below (ow_Qi G D cA ad Q) ([.ref (ad o0)] : List Value).toArray s 0 0 (ow_A G ad)) (F0 m 7 ls [])) (M : om_M) (x1 : Int32) (H : Heap) (locs : List Loc) (ls : Array Slot), wp_S_advance_7b F o0 Q   K7 M x1 → ow_B G D cA ad (ow_A G ad) M s s.heap H locs → lv_has ls 5 [(0, .ref (ad o0)), (1, .int x1)] → W p l e rm_S_advance s m ([.ref (ad o0)] : List Value).toArray below meth c H locs 0 0 (MQ below (ow_Qi G D cA ad Q) ([.ref (ad o0)] : List Value).toArray s 0 0 (ow_A G ad)) (F0 m 7 ls []) := by
    intro   K7 hK7 M x1 H locs ls h hB hl
    refine lv_iload_n hx hb dc_S_advance_7 rfl (lv_at hl 1 rfl) ?_
    obtain ⟨h1, h2⟩ := h
    refine lv_if_lt hx hb dc_S_advance_8 rfl (fun hc => ?_) (fun hc => ?_)
    · have h := h1 hc
      exact L34 _ _ _ _ _ h hB (lv_sub hl [0, 1] rfl)
    · have h := h2 hc
      refine lv_aload_n hx hb dc_S_advance_11 rfl (lv_at hl 0 rfl) ?_
      refine ow_get hx hb hts iw_S hown hB k0 rfl 0 (by decide) mw_207 rfl dc_S_advance_12 ?_
      refine lv_iload_n hx hb dc_S_advance_15 rfl (lv_at hl 1 rfl) ?_
      obtain ⟨hi5, h⟩ := h
      refine ow_iald hx hb hB (ly_S_row hG k0) hi5 dc_S_advance_16 ?_
      refine lv_aload_n hx hb dc_S_advance_17 rfl (lv_at hl 0 rfl) ?_
      refine ow_get hx hb hts iw_S hown hB k0 rfl 0 (by decide) mw_207 rfl dc_S_advance_18 ?_
      refine lv_iload_n hx hb dc_S_advance_21 rfl (lv_at hl 1 rfl) ?_
      refine lv_iconst (v := 1) hx hb dc_S_advance_22 rfl ?_
      refine lv_iadd hx hb dc_S_advance_23 ?_
      obtain ⟨hi6, h⟩ := h
      refine ow_iald hx hb hB (ly_S_row hG k0) hi6 dc_S_advance_24 ?_
      obtain ⟨h1, h2⟩ := h
      refine lv_icmp_le hx hb dc_S_advance_25 rfl (fun hc => ?_) (fun hc => ?_)
      · have h := h1 hc
        exact L34 _ _ _ _ _ h hB (lv_sub hl [0, 1] rfl)
      · have h := h2 hc
        refine lv_iinc hx hb dc_S_advance_28 hl (k := 1) rfl rfl (by decide) rfl (fun ls hl => ?_)
        refine lv_goto hx hb dc_S_advance_31 rfl ?_
        exact hK7 _ _ _ _ _ h hB (lv_sub hl [1, 0] rfl)
  have L7 : ∀   (M : om_M) (x1 : Int32) (H : Heap) (locs : List Loc) (ls : Array Slot), wp_S_advance_7 F o0 Q   M x1 → ow_B G D cA ad (ow_A G ad) M s s.heap H locs → lv_has ls 5 [(0, .ref (ad o0)), (1, .int x1)] → W p l e rm_S_advance s m ([.ref (ad o0)] : List Value).toArray below meth c H locs 0 0 (MQ below (ow_Qi G D cA ad Q) ([.ref (ad o0)] : List Value).toArray s 0 0 (ow_A G ad)) (F0 m 7 ls []) := by
    have step : ∀ (k : Nat) (M : om_M) (x1 : Int32) (H : Heap) (locs : List Loc) (ls : Array Slot), ow_lp (fun (z : om_M × Int32) K => wp_S_advance_7b F o0 Q   K z.1 z.2) k (M, x1) → ow_B G D cA ad (ow_A G ad) M s s.heap H locs → lv_has ls 5 [(0, .ref (ad o0)), (1, .int x1)] → W p l e rm_S_advance s m ([.ref (ad o0)] : List Value).toArray below meth c H locs 0 0 (MQ below (ow_Qi G D cA ad Q) ([.ref (ad o0)] : List Value).toArray s 0 0 (ow_A G ad)) (F0 m 7 ls []) := by
      intro k
      induction k with
      | zero => intro M x1 H locs ls h hB hl; exact False.elim h
      | succ k ih => intro M x1 H locs ls h hB hl; exact B7   (ow_lp _ k) (fun M x1 H locs ls h hB  hl => ih M x1  H locs ls h hB hl) M x1 H locs ls h hB hl
    intro M x1 H locs ls h hB hl
    exact step F M x1 H locs ls h hB hl
  have hl := lv_entry ([.ref (ad o0)]) (n := 5) (Nat.le_of_ble_eq_true rfl)
  rw [lg_entry_eq]
  generalize (lg_sl ([.ref (ad o0)]) ++ List.replicate (5 - (lg_sl ([.ref (ad o0)])).length) Slot.unset).toArray = ls at hl ⊢
  have hl : lv_has ls 5 [(0, .ref (ad o0))] := hl
  show W p l e rm_S_advance s m _ below meth c s.heap [] 0 0 _ _
  refine lv_aload_n hx hb dc_S_advance_0 rfl (lv_at hl 0 rfl) ?_
  refine ow_get hx hb hts iw_S hown hB k0 rfl 1 (by decide) mw_208 rfl dc_S_advance_1 ?_
  refine lv_iconst (v := 2) hx hb dc_S_advance_4 rfl ?_
  refine lv_isub hx hb dc_S_advance_5 ?_
  refine lv_istore_n hx hb dc_S_advance_6 rfl hl (by decide) rfl (fun ls hl => ?_)
  exact L7 _ _ _ _ _ h hB (lv_sub hl [1, 0] rfl)
