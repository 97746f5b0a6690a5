def wp_P_firstInTie_2b (F : Nat) (o0 : Nat) (x1 : Int32) (Q : Int32 → om_M → Prop)   (K2 : om_M × Int32 → Prop) (M : om_M) (x2 : Int32) : Prop := (((M.1 o0 5) ≤ x2 → Q (-1) M) ∧ (¬ (M.1 o0 5) ≤ x2 → wp_O_at F (M.1 o0 7) x2 M (fun r2 M1 => ((((x1 >>> (r2 &&& 31)) &&& 1) = 0 → K2 (M1, x2 + 1)) ∧ (¬ ((x1 >>> (r2 &&& 31)) &&& 1) = 0 → Q r2 M1)))))
def wp_P_firstInTie_2 (F : Nat) (o0 : Nat) (x1 : Int32) (Q : Int32 → om_M → Prop)   (M : om_M) (x2 : Int32) : Prop := ow_lp (fun (z : om_M × Int32) K => wp_P_firstInTie_2b F o0 x1 Q   K z.1 z.2) F (M, x2)
def wp_P_firstInTie (F : Nat) (o0 : Nat) (x1 : Int32) (M : om_M) (Q : Int32 → om_M → Prop) : Prop := wp_P_firstInTie_2 F o0 x1 Q M 0
def wp_P_lastInTie_7b (F : Nat) (o0 : Nat) (x1 : Int32) (Q : Int32 → om_M → Prop)   (K7 : om_M × Int32 → Prop) (M : om_M) (x2 : Int32) : Prop := ((x2 < 0 → Q (-1) M) ∧ (¬ x2 < 0 → wp_O_at F (M.1 o0 7) x2 M (fun r2 M1 => ((((x1 >>> (r2 &&& 31)) &&& 1) = 0 → K7 (M1, x2 + (-1))) ∧ (¬ ((x1 >>> (r2 &&& 31)) &&& 1) = 0 → Q r2 M1)))))
def wp_P_lastInTie_7 (F : Nat) (o0 : Nat) (x1 : Int32) (Q : Int32 → om_M → Prop)   (M : om_M) (x2 : Int32) : Prop := ow_lp (fun (z : om_M × Int32) K => wp_P_lastInTie_7b F o0 x1 Q   K z.1 z.2) F (M, x2)
def wp_P_lastInTie (F : Nat) (o0 : Nat) (x1 : Int32) (M : om_M) (Q : Int32 → om_M → Prop) : Prop := wp_P_lastInTie_7 F o0 x1 Q M ((M.1 o0 5) - 1)
def wp_P_leastCircle_80 (F : Nat) (o0 : Nat) (Q : Int32 → om_M → Prop)  (K2 : om_M × Int32 → Prop) (M : om_M) (x1 : Int32)  : Prop := K2 (M, x1 + 1)
def wp_P_leastCircle_74 (F : Nat) (o0 : Nat) (Q : Int32 → om_M → Prop) (x1 : Int32) (K2 : om_M × Int32 → Prop) (K12 : om_M × Int32 → Prop) (M : om_M) (x2 : Int32)  : Prop := K12 (M, x2 + 1)
def wp_P_leastCircle_68 (F : Nat) (o0 : Nat) (Q : Int32 → om_M → Prop) (x1 : Int32) (x2 : Int32) (K2 : om_M × Int32 → Prop) (K12 : om_M × Int32 → Prop) (K22 : om_M × Int32 → Prop) (M : om_M) (x3 : Int32)  : Prop := K22 (M, x3 + 1)
def wp_P_leastCircle_22b (F : Nat) (o0 : Nat) (Q : Int32 → om_M → Prop) (x1 : Int32) (x2 : Int32) (K2 : om_M × Int32 → Prop) (K12 : om_M × Int32 → Prop) (K22 : om_M × Int32 → Prop) (M : om_M) (x3 : Int32) : Prop := (((M.1 o0 5) ≤ x3 → wp_P_leastCircle_74 F o0 Q x1 K2 K12 M x2) ∧ (¬ (M.1 o0 5) ≤ x3 → wp_P_beats F o0 x1 x2 M (fun r2 M1 => ((r2 = 0 → wp_P_leastCircle_68 F o0 Q x1 x2 K2 K12 K22 M1 x3) ∧ (¬ r2 = 0 → wp_P_beats F o0 x2 x3 M1 (fun r4 M3 => ((r4 = 0 → wp_P_leastCircle_68 F o0 Q x1 x2 K2 K12 K22 M3 x3) ∧ (¬ r4 = 0 → wp_P_beats F o0 x3 x1 M3 (fun r6 M5 => ((r6 = 0 → wp_P_leastCircle_68 F o0 Q x1 x2 K2 K12 K22 M5 x3) ∧ (¬ r6 = 0 → Q ((x1 ||| (x2 <<< ((3 : Int32) &&& 31))) ||| (x3 <<< ((6 : Int32) &&& 31))) M5)))))))))))
def wp_P_leastCircle_22 (F : Nat) (o0 : Nat) (Q : Int32 → om_M → Prop) (x1 : Int32) (x2 : Int32) (K2 : om_M × Int32 → Prop) (K12 : om_M × Int32 → Prop) (M : om_M) (x3 : Int32) : Prop := ow_lp (fun (z : om_M × Int32) K => wp_P_leastCircle_22b F o0 Q x1 x2 K2 K12 K z.1 z.2) F (M, x3)
def wp_P_leastCircle_12b (F : Nat) (o0 : Nat) (Q : Int32 → om_M → Prop) (x1 : Int32) (K2 : om_M × Int32 → Prop) (K12 : om_M × Int32 → Prop) (M : om_M) (x2 : Int32) : Prop := (((M.1 o0 5) ≤ x2 → wp_P_leastCircle_80 F o0 Q K2 M x1) ∧ (¬ (M.1 o0 5) ≤ x2 → wp_P_leastCircle_22 F o0 Q x1 x2 K2 K12 M 0))
def wp_P_leastCircle_12 (F : Nat) (o0 : Nat) (Q : Int32 → om_M → Prop) (x1 : Int32) (K2 : om_M × Int32 → Prop) (M : om_M) (x2 : Int32) : Prop := ow_lp (fun (z : om_M × Int32) K => wp_P_leastCircle_12b F o0 Q x1 K2 K z.1 z.2) F (M, x2)
def wp_P_leastCircle_2b (F : Nat) (o0 : Nat) (Q : Int32 → om_M → Prop)   (K2 : om_M × Int32 → Prop) (M : om_M) (x1 : Int32) : Prop := (((M.1 o0 5) ≤ x1 → Q (-1) M) ∧ (¬ (M.1 o0 5) ≤ x1 → wp_P_leastCircle_12 F o0 Q x1 K2 M 0))
def wp_P_leastCircle_2 (F : Nat) (o0 : Nat) (Q : Int32 → om_M → Prop)   (M : om_M) (x1 : Int32) : Prop := ow_lp (fun (z : om_M × Int32) K => wp_P_leastCircle_2b F o0 Q   K z.1 z.2) F (M, x1)
def wp_P_leastCircle (F : Nat) (o0 : Nat) (M : om_M) (Q : Int32 → om_M → Prop) : Prop := wp_P_leastCircle_2 F o0 Q M 0
abbrev rm_P_firstInTie : Room := { frames := 1, cells := 0, slots := 0, locals := 21 }
theorem hd_P_firstInTie : yn_P_firstInTie.cls ≠ "java/lang/invoke/MethodHandle" ∧ yn_P_firstInTie.cls ≠ "java/lang/invoke/VarHandle" ∧ (parseMethodDescriptor yn_P_firstInTie.desc).map (fun d => d.parameters.length) = some 1 := by decide +kernel
set_option maxHeartbeats 4000000 in
set_option maxRecDepth 100000 in
theorem ct_P_firstInTie (l : Launch) (G : List (Nat × Nat)) (hG : ow_lay G) (D : va_G) (cA : Nat → ClassId) (ad : Nat → Nat) (F : Nat) (o0 : Nat) (k0 : ow_kd G o0 = (3, 1)) (x1 : Int32) (M : om_M) (Q : Int32 → om_M → Prop) (h : wp_P_firstInTie F o0 x1 M Q) : Met l yn_P_firstInTie (ow_ws yn_P_firstInTie cb_P_firstInTie 4 (some .int)) rm_P_firstInTie (ow_Pc G D cA ad M [.ref (ad o0), .int x1]) (ow_Qi G D cA ad Q) 0 0 (ow_A G ad) := by
  refine Met.ofW (cc := cb_P_firstInTie) (maxL := 4) (ret := (some .int)) (by decide) rfl ?_
  intro p e s m args below meth c s₁ B hml hv
  obtain ⟨rfl, hB⟩ := hv
  have hx := B.exec
  have hb := B.bytes
  have hr := B.returns
  have hlocks := B.notSynchronized
  have hts : ∀ w ∈ lw_g, w.before ([.ref (ad o0), .int x1] : List Value).toArray s = true := fun w h => atoms_spec (ws := ow_ws yn_P_firstInTie cb_P_firstInTie 4 (some .int)) B.pre w (List.mem_cons_of_mem _ h)
  have hown : s.vm.findClass "BallotDesk$Poll" = some m.cls := findClass_of_methodNamed B.named
  clear B
  have B2 : ∀   (K2 : om_M × Int32 → Prop) (hK2 : ∀ (M : om_M) (x2 : Int32) (H : Heap) (locs : List Loc) (ls : Array Slot), K2 (M, x2) → ow_B G D cA ad (ow_A G ad) M s s.heap H locs → lv_has ls 4 [(0, .ref (ad o0)), (1, .int x1), (2, .int x2)] → W p l e rm_P_firstInTie s m ([.ref (ad o0), .int x1] : List Value).toArray below meth c H locs 0 0 (MQ below (ow_Qi G D cA ad Q) ([.ref (ad o0), .int x1] : List Value).toArray s 0 0 (ow_A G ad)) (F0 m 2 ls [])) (M : om_M) (x2 : Int32) (H : Heap) (locs : List Loc) (ls : Array Slot), wp_P_firstInTie_2b F o0 x1 Q   K2 M x2 → ow_B G D cA ad (ow_A G ad) M s s.heap H locs → lv_has ls 4 [(0, .ref (ad o0)), (1, .int x1), (2, .int x2)] → W p l e rm_P_firstInTie s m ([.ref (ad o0), .int x1] : List Value).toArray below meth c H locs 0 0 (MQ below (ow_Qi G D cA ad Q) ([.ref (ad o0), .int x1] : List Value).toArray s 0 0 (ow_A G ad)) (F0 m 2 ls []) := by
    intro   K2 hK2 M x2 H locs ls h hB hl
    refine lv_iload_n hx hb dc_P_firstInTie_2 rfl (lv_at hl 2 rfl) ?_
    refine lv_aload_n hx hb dc_P_firstInTie_3 rfl (lv_at hl 0 rfl) ?_
    refine ow_get hx hb hts iw_P hown hB k0 rfl 5 (by decide) mw_59 rfl dc_P_firstInTie_4 ?_
    obtain ⟨h1, h2⟩ := h
    refine lv_icmp_ge hx hb dc_P_firstInTie_7 rfl (fun hc => ?_) (fun hc => ?_)
    · have h := h1 hc
      refine lv_iconst (v := (-1)) hx hb dc_P_firstInTie_35 rfl ?_
      exact ow_iret hx hb hr hlocks hB h dc_P_firstInTie_36
    · have h := h2 hc
      refine lv_aload_n hx hb dc_P_firstInTie_10 rfl (lv_at hl 0 rfl) ?_
      refine ow_get hx hb hts iw_P hown hB k0 rfl 7 (by decide) mw_72 rfl dc_P_firstInTie_11 ?_
      refine lv_iload_n hx hb dc_P_firstInTie_14 rfl (lv_at hl 2 rfl) ?_
      refine ow_calli (va_runS (As := [.int (M.1 o0 7), .int x2]) (rest := []) ⟨hx, hb, hml, hown, hts⟩ (ct_O_at l G hG D cA ad F _ _ _ _ h) ⟨ow_cb 2 hts mw_314 mw_3 mw_312 rfl rfl hd_O_at ⟨Nat.le_of_ble_eq_true rfl, Nat.le_of_ble_eq_true rfl⟩, hts _ mw_313⟩ (ow_preS hB) rfl rfl hl.1 rfl (lv_room (Nat.le_of_ble_eq_true rfl)) dc_P_firstInTie_15 ⟨Nat.zero_le _, Nat.zero_le _⟩) hB (fun r2 M1 H locs h hB => ?_)
      refine lv_istore_n hx hb dc_P_firstInTie_18 rfl hl (by decide) rfl (fun ls hl => ?_)
      refine lv_iload_n hx hb dc_P_firstInTie_19 rfl (lv_at hl 2 rfl) ?_
      refine lv_iload_n hx hb dc_P_firstInTie_20 rfl (lv_at hl 0 rfl) ?_
      refine lv_ishr hx hb dc_P_firstInTie_21 ?_
      refine lv_iconst (v := 1) hx hb dc_P_firstInTie_22 rfl ?_
      refine lv_iand hx hb dc_P_firstInTie_23 ?_
      obtain ⟨h1, h2⟩ := h
      refine lv_if_eq hx hb dc_P_firstInTie_24 rfl (fun hc => ?_) (fun hc => ?_)
      · have h := h1 hc
        refine lv_iinc hx hb dc_P_firstInTie_29 hl (k := 3) rfl rfl (by decide) rfl (fun ls hl => ?_)
        refine lv_goto hx hb dc_P_firstInTie_32 rfl ?_
        exact hK2 _ _ _ _ _ h hB (lv_sub hl [2, 3, 0] rfl)
      · have h := h2 hc
        refine lv_iload_n hx hb dc_P_firstInTie_27 rfl (lv_at hl 0 rfl) ?_
        exact ow_iret hx hb hr hlocks hB h dc_P_firstInTie_28
  have L2 : ∀   (M : om_M) (x2 : Int32) (H : Heap) (locs : List Loc) (ls : Array Slot), wp_P_firstInTie_2 F o0 x1 Q   M x2 → ow_B G D cA ad (ow_A G ad) M s s.heap H locs → lv_has ls 4 [(0, .ref (ad o0)), (1, .int x1), (2, .int x2)] → W p l e rm_P_firstInTie s m ([.ref (ad o0), .int x1] : List Value).toArray below meth c H locs 0 0 (MQ below (ow_Qi G D cA ad Q) ([.ref (ad o0), .int x1] : List Value).toArray s 0 0 (ow_A G ad)) (F0 m 2 ls []) := by
    have step : ∀ (k : Nat) (M : om_M) (x2 : Int32) (H : Heap) (locs : List Loc) (ls : Array Slot), ow_lp (fun (z : om_M × Int32) K => wp_P_firstInTie_2b F o0 x1 Q   K z.1 z.2) k (M, x2) → ow_B G D cA ad (ow_A G ad) M s s.heap H locs → lv_has ls 4 [(0, .ref (ad o0)), (1, .int x1), (2, .int x2)] → W p l e rm_P_firstInTie s m ([.ref (ad o0), .int x1] : List Value).toArray below meth c H locs 0 0 (MQ below (ow_Qi G D cA ad Q) ([.ref (ad o0), .int x1] : List Value).toArray s 0 0 (ow_A G ad)) (F0 m 2 ls []) := by
      intro k
      induction k with
      | zero => intro M x2 H locs ls h hB hl; exact False.elim h
      | succ k ih => intro M x2 H locs ls h hB hl; exact B2   (ow_lp _ k) (fun M x2 H locs ls h hB  hl => ih M x2  H locs ls h hB hl) M x2 H locs ls h hB hl
    intro M x2 H locs ls h hB hl
    exact step F M x2 H locs ls h hB hl
  have hl := lv_entry ([.ref (ad o0), .int x1]) (n := 4) (Nat.le_of_ble_eq_true rfl)
  rw [lg_entry_eq]
  generalize (lg_sl ([.ref (ad o0), .int x1]) ++ List.replicate (4 - (lg_sl ([.ref (ad o0), .int x1])).length) Slot.unset).toArray = ls at hl ⊢
  have hl : lv_has ls 4 [(0, .ref (ad o0)), (1, .int x1)] := hl
  show W p l e rm_P_firstInTie s m _ below meth c s.heap [] 0 0 _ _
  refine lv_iconst (v := 0) hx hb dc_P_firstInTie_0 rfl ?_
  refine lv_istore_n hx hb dc_P_firstInTie_1 rfl hl (by decide) rfl (fun ls hl => ?_)
  exact L2 _ _ _ _ _ h hB (lv_sub hl [1, 2, 0] rfl)
abbrev rm_P_lastInTie : Room := { frames := 1, cells := 0, slots := 0, locals := 21 }
theorem hd_P_lastInTie : yn_P_lastInTie.cls ≠ "java/lang/invoke/MethodHandle" ∧ yn_P_lastInTie.cls ≠ "java/lang/invoke/VarHandle" ∧ (parseMethodDescriptor yn_P_lastInTie.desc).map (fun d => d.parameters.length) = some 1 := by decide +kernel
set_option maxHeartbeats 4000000 in
set_option maxRecDepth 100000 in
theorem ct_P_lastInTie (l : Launch) (G : List (Nat × Nat)) (hG : ow_lay G) (D : va_G) (cA : Nat → ClassId) (ad : Nat → Nat) (F : Nat) (o0 : Nat) (k0 : ow_kd G o0 = (3, 1)) (x1 : Int32) (M : om_M) (Q : Int32 → om_M → Prop) (h : wp_P_lastInTie F o0 x1 M Q) : Met l yn_P_lastInTie (ow_ws yn_P_lastInTie cb_P_lastInTie 4 (some .int)) rm_P_lastInTie (ow_Pc G D cA ad M [.ref (ad o0), .int x1]) (ow_Qi G D cA ad Q) 0 0 (ow_A G ad) := by
  refine Met.ofW (cc := cb_P_lastInTie) (maxL := 4) (ret := (some .int)) (by decide) rfl ?_
  intro p e s m args below meth c s₁ B hml hv
  obtain ⟨rfl, hB⟩ := hv
  have hx := B.exec
  have hb := B.bytes
  have hr := B.returns
  have hlocks := B.notSynchronized
  have hts : ∀ w ∈ lw_g, w.before ([.ref (ad o0), .int x1] : List Value).toArray s = true := fun w h => atoms_spec (ws := ow_ws yn_P_lastInTie cb_P_lastInTie 4 (some .int)) B.pre w (List.mem_cons_of_mem _ h)
  have hown : s.vm.findClass "BallotDesk$Poll" = some m.cls := findClass_of_methodNamed B.named
  clear B
  have B7 : ∀   (K7 : om_M × Int32 → Prop) (hK7 : ∀ (M : om_M) (x2 : Int32) (H : Heap) (locs : List Loc) (ls : Array Slot), K7 (M, x2) → ow_B G D cA ad (ow_A G ad) M s s.heap H locs → lv_has ls 4 [(0, .ref (ad o0)), (1, .int x1), (2, .int x2)] → W p l e rm_P_lastInTie s m ([.ref (ad o0), .int x1] : List Value).toArray below meth c H locs 0 0 (MQ below (ow_Qi G D cA ad Q) ([.ref (ad o0), .int x1] : List Value).toArray s 0 0 (ow_A G ad)) (F0 m 7 ls [])) (M : om_M) (x2 : Int32) (H : Heap) (locs : List Loc) (ls : Array Slot), wp_P_lastInTie_7b F o0 x1 Q   K7 M x2 → ow_B G D cA ad (ow_A G ad) M s s.heap H locs → lv_has ls 4 [(0, .ref (ad o0)), (1, .int x1), (2, .int x2)] → W p l e rm_P_lastInTie s m ([.ref (ad o0), .int x1] : List Value).toArray below meth c H locs 0 0 (MQ below (ow_Qi G D cA ad Q) ([.ref (ad o0), .int x1] : List Value).toArray s 0 0 (ow_A G ad)) (F0 m 7 ls []) := by
    intro   K7 hK7 M x2 H locs ls h hB hl
    refine lv_iload_n hx hb dc_P_lastInTie_7 rfl (lv_at hl 2 rfl) ?_
    obtain ⟨h1, h2⟩ := h
    refine lv_if_lt hx hb dc_P_lastInTie_8 rfl (fun hc => ?_) (fun hc => ?_)
    · have h := h1 hc
      refine lv_iconst (v := (-1)) hx hb dc_P_lastInTie_36 rfl ?_
      exact ow_iret hx hb hr hlocks hB h dc_P_lastInTie_37
    · have h := h2 hc
      refine lv_aload_n hx hb dc_P_lastInTie_11 rfl (lv_at hl 0 rfl) ?_
      refine ow_get hx hb hts iw_P hown hB k0 rfl 7 (by decide) mw_72 rfl dc_P_lastInTie_12 ?_
      refine lv_iload_n hx hb dc_P_lastInTie_15 rfl (lv_at hl 2 rfl) ?_
      refine ow_calli (va_runS (As := [.int (M.1 o0 7), .int x2]) (rest := []) ⟨hx, hb, hml, hown, hts⟩ (ct_O_at l G hG D cA ad F _ _ _ _ h) ⟨ow_cb 2 hts mw_314 mw_3 mw_312 rfl rfl hd_O_at ⟨Nat.le_of_ble_eq_true rfl, Nat.le_of_ble_eq_true rfl⟩, hts _ mw_313⟩ (ow_preS hB) rfl rfl hl.1 rfl (lv_room (Nat.le_of_ble_eq_true rfl)) dc_P_lastInTie_16 ⟨Nat.zero_le _, Nat.zero_le _⟩) hB (fun r2 M1 H locs h hB => ?_)
      refine lv_istore_n hx hb dc_P_lastInTie_19 rfl hl (by decide) rfl (fun ls hl => ?_)
      refine lv_iload_n hx hb dc_P_lastInTie_20 rfl (lv_at hl 2 rfl) ?_
      refine lv_iload_n hx hb dc_P_lastInTie_21 rfl (lv_at hl 0 rfl) ?_
      refine lv_ishr hx hb dc_P_lastInTie_22 ?_
      refine lv_iconst (v := 1) hx hb dc_P_lastInTie_23 rfl ?_
      refine lv_iand hx hb dc_P_lastInTie_24 ?_
      obtain ⟨h1, h2⟩ := h
      refine lv_if_eq hx hb dc_P_lastInTie_25 rfl (fun hc => ?_) (fun hc => ?_)
      · have h := h1 hc
        refine lv_iinc hx hb dc_P_lastInTie_30 hl (k := 3) rfl rfl (by decide) rfl (fun ls hl => ?_)
        refine lv_goto hx hb dc_P_lastInTie_33 rfl ?_
        exact hK7 _ _ _ _ _ h hB (lv_sub hl [2, 3, 0] rfl)
      · have h := h2 hc
        refine lv_iload_n hx hb dc_P_lastInTie_28 rfl (lv_at hl 0 rfl) ?_
        exact ow_iret hx hb hr hlocks hB h dc_P_lastInTie_29
  have L7 : ∀   (M : om_M) (x2 : Int32) (H : Heap) (locs : List Loc) (ls : Array Slot), wp_P_lastInTie_7 F o0 x1 Q   M x2 → ow_B G D cA ad (ow_A G ad) M s s.heap H locs → lv_has ls 4 [(0, .ref (ad o0)), (1, .int x1), (2, .int x2)] → W p l e rm_P_lastInTie s m ([.ref (ad o0), .int x1] : List Value).toArray below meth c H locs 0 0 (MQ below (ow_Qi G D cA ad Q) ([.ref (ad o0), .int x1] : List Value).toArray s 0 0 (ow_A G ad)) (F0 m 7 ls []) := by
    have step : ∀ (k : Nat) (M : om_M) (x2 : Int32) (H : Heap) (locs : List Loc) (ls : Array Slot), ow_lp (fun (z : om_M × Int32) K => wp_P_lastInTie_7b F o0 x1 Q   K z.1 z.2) k (M, x2) → ow_B G D cA ad (ow_A G ad) M s s.heap H locs → lv_has ls 4 [(0, .ref (ad o0)), (1, .int x1), (2, .int x2)] → W p l e rm_P_lastInTie s m ([.ref (ad o0), .int x1] : List Value).toArray below meth c H locs 0 0 (MQ below (ow_Qi G D cA ad Q) ([.ref (ad o0), .int x1] : List Value).toArray s 0 0 (ow_A G ad)) (F0 m 7 ls []) := by
      intro k
      induction k with
      | zero => intro M x2 H locs ls h hB hl; exact False.elim h
      | succ k ih => intro M x2 H locs ls h hB hl; exact B7   (ow_lp _ k) (fun M x2 H locs ls h hB  hl => ih M x2  H locs ls h hB hl) M x2 H locs ls h hB hl
    intro M x2 H locs ls h hB hl
    exact step F M x2 H locs ls h hB hl
  have hl := lv_entry ([.ref (ad o0), .int x1]) (n := 4) (Nat.le_of_ble_eq_true rfl)
  rw [lg_entry_eq]
  generalize (lg_sl ([.ref (ad o0), .int x1]) ++ List.replicate (4 - (lg_sl ([.ref (ad o0), .int x1])).length) Slot.unset).toArray = ls at hl ⊢
  have hl : lv_has ls 4 [(0, .ref (ad o0)), (1, .int x1)] := hl
  show W p l e rm_P_lastInTie s m _ below meth c s.heap [] 0 0 _ _
  refine lv_aload_n hx hb dc_P_lastInTie_0 rfl (lv_at hl 0 rfl) ?_
  refine ow_get hx hb hts iw_P hown hB k0 rfl 5 (by decide) mw_59 rfl dc_P_lastInTie_1 ?_
  refine lv_iconst (v := 1) hx hb dc_P_lastInTie_4 rfl ?_
  refine lv_isub hx hb dc_P_lastInTie_5 ?_
  refine lv_istore_n hx hb dc_P_lastInTie_6 rfl hl (by decide) rfl (fun ls hl => ?_)
  exact L7 _ _ _ _ _ h hB (lv_sub hl [1, 2, 0] rfl)
abbrev rm_P_leastCircle : Room := { frames := 1, cells := 0, slots := 0, locals := 22 }
theorem hd_P_leastCircle : yn_P_leastCircle.cls ≠ "java/lang/invoke/MethodHandle" ∧ yn_P_leastCircle.cls ≠ "java/lang/invoke/VarHandle" ∧ (parseMethodDescriptor yn_P_leastCircle.desc).map (fun d => d.parameters.length) = some 0 := by decide +kernel
set_option maxHeartbeats 4000000 in
set_option maxRecDepth 100000 in
theorem ct_P_leastCircle (l : Launch) (G : List (Nat × Nat)) (hG : ow_lay G) (D : va_G) (cA : Nat → ClassId) (ad : Nat → Nat) (F : Nat) (o0 : Nat) (k0 : ow_kd G o0 = (3, 1)) (M : om_M) (Q : Int32 → om_M → Prop) (h : wp_P_leastCircle F o0 M Q) : Met l yn_P_leastCircle (ow_ws yn_P_leastCircle cb_P_leastCircle 4 (some .int)) rm_P_leastCircle (ow_Pc G D cA ad M [.ref (ad o0)]) (ow_Qi G D cA ad Q) 0 0 (ow_A G ad) := by
  refine Met.ofW (cc := cb_P_leastCircle) (maxL := 4) (ret := (some .int)) (by decide) rfl ?_
  intro p e s m args below meth c s₁ B hml hv
  obtain ⟨rfl, hB⟩ := hv
  have hx := B.exec
  have hb := B.bytes
  have hr := B.returns
  have hlocks := B.notSynchronized
  have hts : ∀ w ∈ lw_g, w.before ([.ref (ad o0)] : List Value).toArray s = true := fun w h => atoms_spec (ws := ow_ws yn_P_leastCircle cb_P_leastCircle 4 (some .int)) B.pre w (List.mem_cons_of_mem _ h)
  have hown : s.vm.findClass "BallotDesk$Poll" = some m.cls := findClass_of_methodNamed B.named
  clear B
  have L80 : ∀  (K2 : om_M × Int32 → Prop) (hK2 : ∀ (M : om_M) (x1 : Int32) (H : Heap) (locs : List Loc) (ls : Array Slot), K2 (M, x1) → ow_B G D cA ad (ow_A G ad) M s s.heap H locs → lv_has ls 4 [(0, .ref (ad o0)), (1, .int x1)] → W p l e rm_P_leastCircle s m ([.ref (ad o0)] : List Value).toArray below meth c H locs 0 0 (MQ below (ow_Qi G D cA ad Q) ([.ref (ad o0)] : List Value).toArray s 0 0 (ow_A G ad)) (F0 m 2 ls [])) (M : om_M) (x1 : Int32)  (H : Heap) (locs : List Loc) (ls : Array Slot), wp_P_leastCircle_80 F o0 Q  K2 M x1  → ow_B G D cA ad (ow_A G ad) M s s.heap H locs → lv_has ls 4 [(0, .ref (ad o0)), (1, .int x1)] → W p l e rm_P_leastCircle s m ([.ref (ad o0)] : List Value).toArray below meth c H locs 0 0 (MQ below (ow_Qi G D cA ad Q) ([.ref (ad o0)] : List Value).toArray s 0 0 (ow_A G ad)) (F0 m 80 ls []) := by
    intro  K2 hK2 M x1 H locs ls h hB hl
    refine lv_iinc hx hb dc_P_leastCircle_80 hl (k := 1) rfl rfl (by decide) rfl (fun ls hl => ?_)
    refine lv_goto hx hb dc_P_leastCircle_83 rfl ?_
    exact hK2 _ _ _ _ _ h hB (lv_sub hl [1, 0] rfl)
  have L74 : ∀ (x1 : Int32) (K2 : om_M × Int32 → Prop) (hK2 : ∀ (M : om_M) (x1 : Int32) (H : Heap) (locs : List Loc) (ls : Array Slot), K2 (M, x1) → ow_B G D cA ad (ow_A G ad) M s s.heap H locs → lv_has ls 4 [(0, .ref (ad o0)), (1, .int x1)] → W p l e rm_P_leastCircle s m ([.ref (ad o0)] : List Value).toArray below meth c H locs 0 0 (MQ below (ow_Qi G D cA ad Q) ([.ref (ad o0)] : List Value).toArray s 0 0 (ow_A G ad)) (F0 m 2 ls [])) (K12 : om_M × Int32 → Prop) (hK12 : ∀ (M : om_M) (x2 : Int32) (H : Heap) (locs : List Loc) (ls : Array Slot), K12 (M, x2) → ow_B G D cA ad (ow_A G ad) M s s.heap H locs → lv_has ls 4 [(0, .ref (ad o0)), (1, .int x1), (2, .int x2)] → W p l e rm_P_leastCircle s m ([.ref (ad o0)] : List Value).toArray below meth c H locs 0 0 (MQ below (ow_Qi G D cA ad Q) ([.ref (ad o0)] : List Value).toArray s 0 0 (ow_A G ad)) (F0 m 12 ls [])) (M : om_M) (x2 : Int32)  (H : Heap) (locs : List Loc) (ls : Array Slot), wp_P_leastCircle_74 F o0 Q x1 K2 K12 M x2  → ow_B G D cA ad (ow_A G ad) M s s.heap H locs → lv_has ls 4 [(0, .ref (ad o0)), (1, .int x1), (2, .int x2)] → W p l e rm_P_leastCircle s m ([.ref (ad o0)] : List Value).toArray below meth c H locs 0 0 (MQ below (ow_Qi G D cA ad Q) ([.ref (ad o0)] : List Value).toArray s 0 0 (ow_A G ad)) (F0 m 74 ls []) := by
    intro x1 K2 hK2 K12 hK12 M x2 H locs ls h hB hl
    refine lv_iinc hx hb dc_P_leastCircle_74 hl (k := 2) rfl rfl (by decide) rfl (fun ls hl => ?_)
    refine lv_goto hx hb dc_P_leastCircle_77 rfl ?_
    exact hK12 _ _ _ _ _ h hB (lv_sub hl [1, 2, 0] rfl)
  have L68 : ∀ (x1 : Int32) (x2 : Int32) (K2 : om_M × Int32 → Prop) (hK2 : ∀ (M : om_M) (x1 : Int32) (H : Heap) (locs : List Loc) (ls : Array Slot), K2 (M, x1) → ow_B G D cA ad (ow_A G ad) M s s.heap H locs → lv_has ls 4 [(0, .ref (ad o0)), (1, .int x1)] → W p l e rm_P_leastCircle s m ([.ref (ad o0)] : List Value).toArray below meth c H locs 0 0 (MQ below (ow_Qi G D cA ad Q) ([.ref (ad o0)] : List Value).toArray s 0 0 (ow_A G ad)) (F0 m 2 ls [])) (K12 : om_M × Int32 → Prop) (hK12 : ∀ (M : om_M) (x2 : Int32) (H : Heap) (locs : List Loc) (ls : Array Slot), K12 (M, x2) → ow_B G D cA ad (ow_A G ad) M s s.heap H locs → lv_has ls 4 [(0, .ref (ad o0)), (1, .int x1), (2, .int x2)] → W p l e rm_P_leastCircle s m ([.ref (ad o0)] : List Value).toArray below meth c H locs 0 0 (MQ below (ow_Qi G D cA ad Q) ([.ref (ad o0)] : List Value).toArray s 0 0 (ow_A G ad)) (F0 m 12 ls [])) (K22 : om_M × Int32 → Prop) (hK22 : ∀ (M : om_M) (x3 : Int32) (H : Heap) (locs : List Loc) (ls : Array Slot), K22 (M, x3) → ow_B G D cA ad (ow_A G ad) M s s.heap H locs → lv_has ls 4 [(0, .ref (ad o0)), (1, .int x1), (2, .int x2), (3, .int x3)] → W p l e rm_P_leastCircle s m ([.ref (ad o0)] : List Value).toArray below meth c H locs 0 0 (MQ below (ow_Qi G D cA ad Q) ([.ref (ad o0)] : List Value).toArray s 0 0 (ow_A G ad)) (F0 m 22 ls [])) (M : om_M) (x3 : Int32)  (H : Heap) (locs : List Loc) (ls : Array Slot), wp_P_leastCircle_68 F o0 Q x1 x2 K2 K12 K22 M x3  → ow_B G D cA ad (ow_A G ad) M s s.heap H locs → lv_has ls 4 [(0, .ref (ad o0)), (1, .int x1), (2, .int x2), (3, .int x3)] → W p l e rm_P_leastCircle s m ([.ref (ad o0)] : List Value).toArray below meth c H locs 0 0 (MQ below (ow_Qi G D cA ad Q) ([.ref (ad o0)] : List Value).toArray s 0 0 (ow_A G ad)) (F0 m 68 ls []) := by
    intro x1 x2 K2 hK2 K12 hK12 K22 hK22 M x3 H locs ls h hB hl
    refine lv_iinc hx hb dc_P_leastCircle_68 hl (k := 3) rfl rfl (by decide) rfl (fun ls hl => ?_)
    refine lv_goto hx hb dc_P_leastCircle_71 rfl ?_
    exact hK22 _ _ _ _ _ h hB (lv_sub hl [1, 2, 3, 0] rfl)
  have B22 : ∀ (x1 : Int32) (x2 : Int32) (K2 : om_M × Int32 → Prop) (hK2 : ∀ (M : om_M) (x1 : Int32) (H : Heap) (locs : List Loc) (ls : Array Slot), K2 (M, x1) → ow_B G D cA ad (ow_A G ad) M s s.heap H locs → lv_has ls 4 [(0, .ref (ad o0)), (1, .int x1)] → W p l e rm_P_leastCircle s m ([.ref (ad o0)] : List Value).toArray below meth c H locs 0 0 (MQ below (ow_Qi G D cA ad Q) ([.ref (ad o0)] : List Value).toArray s 0 0 (ow_A G ad)) (F0 m 2 ls [])) (K12 : om_M × Int32 → Prop) (hK12 : ∀ (M : om_M) (x2 : Int32) (H : Heap) (locs : List Loc) (ls : Array Slot), K12 (M, x2) → ow_B G D cA ad (ow_A G ad) M s s.heap H locs → lv_has ls 4 [(0, .ref (ad o0)), (1, .int x1), (2, .int x2)] → W p l e rm_P_leastCircle s m ([.ref (ad o0)] : List Value).toArray below meth c H locs 0 0 (MQ below (ow_Qi G D cA ad Q) ([.ref (ad o0)] : List Value).toArray s 0 0 (ow_A G ad)) (F0 m 12 ls [])) (K22 : om_M × Int32 → Prop) (hK22 : ∀ (M : om_M) (x3 : Int32) (H : Heap) (locs : List Loc) (ls : Array Slot), K22 (M, x3) → ow_B G D cA ad (ow_A G ad) M s s.heap H locs → lv_has ls 4 [(0, .ref (ad o0)), (1, .int x1), (2, .int x2), (3, .int x3)] → W p l e rm_P_leastCircle s m ([.ref (ad o0)] : List Value).toArray below meth c H locs 0 0 (MQ below (ow_Qi G D cA ad Q) ([.ref (ad o0)] : List Value).toArray s 0 0 (ow_A G ad)) (F0 m 22 ls [])) (M : om_M) (x3 : Int32) (H : Heap) (locs : List Loc) (ls : Array Slot), wp_P_leastCircle_22b F o0 Q x1 x2 K2 K12 K22 M x3 → ow_B G D cA ad (ow_A G ad) M s s.heap H locs → lv_has ls 4 [(0, .ref (ad o0)), (1, .int x1), (2, .int x2), (3, .int x3)] → W p l e rm_P_leastCircle s m ([.ref (ad o0)] : List Value).toArray below meth c H locs 0 0 (MQ below (ow_Qi G D cA ad Q) ([.ref (ad o0)] : List Value).toArray s 0 0 (ow_A G ad)) (F0 m 22 ls []) := by
    intro x1 x2 K2 hK2 K12 hK12 K22 hK22 M x3 H locs ls h hB hl
    refine lv_iload_n hx hb dc_P_leastCircle_22 rfl (lv_at hl 3 rfl) ?_
    refine lv_aload_n hx hb dc_P_leastCircle_23 rfl (lv_at hl 0 rfl) ?_
    refine ow_get hx hb hts iw_P hown hB k0 rfl 5 (by decide) mw_59 rfl dc_P_leastCircle_24 ?_
    obtain ⟨h1, h2⟩ := h
    refine lv_icmp_ge hx hb dc_P_leastCircle_27 rfl (fun hc => ?_) (fun hc => ?_)
    · have h := h1 hc
      exact L74 _ K2 hK2 K12 hK12 _ _ _ _ _ h hB (lv_sub hl [0, 1, 2] rfl)
    · have h := h2 hc
      refine lv_aload_n hx hb dc_P_leastCircle_30 rfl (lv_at hl 0 rfl) ?_
      refine lv_iload_n hx hb dc_P_leastCircle_31 rfl (lv_at hl 1 rfl) ?_
      refine lv_iload_n hx hb dc_P_leastCircle_32 rfl (lv_at hl 2 rfl) ?_
      refine ow_calli (va_runV (As := [.int x1, .int x2]) (rest := []) ⟨hx, hb, hml, hown, hts⟩ (ct_P_beats l G hG D cA ad F _ k0 _ _ _ _ h) ⟨ow_cb 2 hts mw_526 mw_2 mw_581 rfl rfl hd_P_beats ⟨Nat.le_of_ble_eq_true rfl, Nat.le_of_ble_eq_true rfl⟩, hts _ mw_524, hts _ mw_525⟩ (ow_preV hB k0 rfl) rfl rfl hl.1 rfl (lv_room (Nat.le_of_ble_eq_true rfl)) dc_P_leastCircle_33 ⟨Nat.zero_le _, Nat.zero_le _⟩) hB (fun r2 M1 H locs h hB => ?_)
      obtain ⟨h1, h2⟩ := h
      refine lv_if_eq hx hb dc_P_leastCircle_36 rfl (fun hc => ?_) (fun hc => ?_)
      · have h := h1 hc
        exact L68 _ _ K2 hK2 K12 hK12 K22 hK22 _ _ _ _ _ h hB (lv_sub hl [0, 1, 2, 3] rfl)
      · have h := h2 hc
        refine lv_aload_n hx hb dc_P_leastCircle_39 rfl (lv_at hl 0 rfl) ?_
        refine lv_iload_n hx hb dc_P_leastCircle_40 rfl (lv_at hl 2 rfl) ?_
        refine lv_iload_n hx hb dc_P_leastCircle_41 rfl (lv_at hl 3 rfl) ?_
        refine ow_calli (va_runV (As := [.int x2, .int x3]) (rest := []) ⟨hx, hb, hml, hown, hts⟩ (ct_P_beats l G hG D cA ad F _ k0 _ _ _ _ h) ⟨ow_cb 2 hts mw_526 mw_2 mw_581 rfl rfl hd_P_beats ⟨Nat.le_of_ble_eq_true rfl, Nat.le_of_ble_eq_true rfl⟩, hts _ mw_524, hts _ mw_525⟩ (ow_preV hB k0 rfl) rfl rfl hl.1 rfl (lv_room (Nat.le_of_ble_eq_true rfl)) dc_P_leastCircle_42 ⟨Nat.zero_le _, Nat.zero_le _⟩) hB (fun r4 M3 H locs h hB => ?_)
        obtain ⟨h1, h2⟩ := h
        refine lv_if_eq hx hb dc_P_leastCircle_45 rfl (fun hc => ?_) (fun hc => ?_)
        · have h := h1 hc
          exact L68 _ _ K2 hK2 K12 hK12 K22 hK22 _ _ _ _ _ h hB (lv_sub hl [0, 1, 2, 3] rfl)
        · have h := h2 hc
          refine lv_aload_n hx hb dc_P_leastCircle_48 rfl (lv_at hl 0 rfl) ?_
          refine lv_iload_n hx hb dc_P_leastCircle_49 rfl (lv_at hl 3 rfl) ?_
          refine lv_iload_n hx hb dc_P_leastCircle_50 rfl (lv_at hl 1 rfl) ?_
          refine ow_calli (va_runV (As := [.int x3, .int x1]) (rest := []) ⟨hx, hb, hml, hown, hts⟩ (ct_P_beats l G hG D cA ad F _ k0 _ _ _ _ h) ⟨ow_cb 2 hts mw_526 mw_2 mw_581 rfl rfl hd_P_beats ⟨Nat.le_of_ble_eq_true rfl, Nat.le_of_ble_eq_true rfl⟩, hts _ mw_524, hts _ mw_525⟩ (ow_preV hB k0 rfl) rfl rfl hl.1 rfl (lv_room (Nat.le_of_ble_eq_true rfl)) dc_P_leastCircle_51 ⟨Nat.zero_le _, Nat.zero_le _⟩) hB (fun r6 M5 H locs h hB => ?_)
          obtain ⟨h1, h2⟩ := h
          refine lv_if_eq hx hb dc_P_leastCircle_54 rfl (fun hc => ?_) (fun hc => ?_)
          · have h := h1 hc
            exact L68 _ _ K2 hK2 K12 hK12 K22 hK22 _ _ _ _ _ h hB (lv_sub hl [0, 1, 2, 3] rfl)
          · have h := h2 hc
            refine lv_iload_n hx hb dc_P_leastCircle_57 rfl (lv_at hl 1 rfl) ?_
            refine lv_iload_n hx hb dc_P_leastCircle_58 rfl (lv_at hl 2 rfl) ?_
            refine lv_iconst (v := 3) hx hb dc_P_leastCircle_59 rfl ?_
            refine lv_ishl hx hb dc_P_leastCircle_60 ?_
            refine lv_ior hx hb dc_P_leastCircle_61 ?_
            refine lv_iload_n hx hb dc_P_leastCircle_62 rfl (lv_at hl 3 rfl) ?_
            refine lv_bipush (v := 6) hx hb dc_P_leastCircle_63 rfl ?_
            refine lv_ishl hx hb dc_P_leastCircle_65 ?_
            refine lv_ior hx hb dc_P_leastCircle_66 ?_
            exact ow_iret hx hb hr hlocks hB h dc_P_leastCircle_67
  have L22 : ∀ (x1 : Int32) (x2 : Int32) (K2 : om_M × Int32 → Prop) (hK2 : ∀ (M : om_M) (x1 : Int32) (H : Heap) (locs : List Loc) (ls : Array Slot), K2 (M, x1) → ow_B G D cA ad (ow_A G ad) M s s.heap H locs → lv_has ls 4 [(0, .ref (ad o0)), (1, .int x1)] → W p l e rm_P_leastCircle s m ([.ref (ad o0)] : List Value).toArray below meth c H locs 0 0 (MQ below (ow_Qi G D cA ad Q) ([.ref (ad o0)] : List Value).toArray s 0 0 (ow_A G ad)) (F0 m 2 ls [])) (K12 : om_M × Int32 → Prop) (hK12 : ∀ (M : om_M) (x2 : Int32) (H : Heap) (locs : List Loc) (ls : Array Slot), K12 (M, x2) → ow_B G D cA ad (ow_A G ad) M s s.heap H locs → lv_has ls 4 [(0, .ref (ad o0)), (1, .int x1), (2, .int x2)] → W p l e rm_P_leastCircle s m ([.ref (ad o0)] : List Value).toArray below meth c H locs 0 0 (MQ below (ow_Qi G D cA ad Q) ([.ref (ad o0)] : List Value).toArray s 0 0 (ow_A G ad)) (F0 m 12 ls [])) (M : om_M) (x3 : Int32) (H : Heap) (locs : List Loc) (ls : Array Slot), wp_P_leastCircle_22 F o0 Q x1 x2 K2 K12 M x3 → ow_B G D cA ad (ow_A G ad) M s s.heap H locs → lv_has ls 4 [(0, .ref (ad o0)), (1, .int x1), (2, .int x2), (3, .int x3)] → W p l e rm_P_leastCircle s m ([.ref (ad o0)] : List Value).toArray below meth c H locs 0 0 (MQ below (ow_Qi G D cA ad Q) ([.ref (ad o0)] : List Value).toArray s 0 0 (ow_A G ad)) (F0 m 22 ls []) := by
    intro x1 x2 K2 hK2 K12 hK12
    have step : ∀ (k : Nat) (M : om_M) (x3 : Int32) (H : Heap) (locs : List Loc) (ls : Array Slot), ow_lp (fun (z : om_M × Int32) K => wp_P_leastCircle_22b F o0 Q x1 x2 K2 K12 K z.1 z.2) k (M, x3) → ow_B G D cA ad (ow_A G ad) M s s.heap H locs → lv_has ls 4 [(0, .ref (ad o0)), (1, .int x1), (2, .int x2), (3, .int x3)] → W p l e rm_P_leastCircle s m ([.ref (ad o0)] : List Value).toArray below meth c H locs 0 0 (MQ below (ow_Qi G D cA ad Q) ([.ref (ad o0)] : List Value).toArray s 0 0 (ow_A G ad)) (F0 m 22 ls []) := by
      intro k
      induction k with
      | zero => intro M x3 H locs ls h hB hl; exact False.elim h
      | succ k ih => intro M x3 H locs ls h hB hl; exact B22 x1 x2 K2 hK2 K12 hK12 (ow_lp _ k) (fun M x3 H locs ls h hB  hl => ih M x3  H locs ls h hB hl) M x3 H locs ls h hB hl
    intro M x3 H locs ls h hB hl
    exact step F M x3 H locs ls h hB hl
  have B12 : ∀ (x1 : Int32) (K2 : om_M × Int32 → Prop) (hK2 : ∀ (M : om_M) (x1 : Int32) (H : Heap) (locs : List Loc) (ls : Array Slot), K2 (M, x1) → ow_B G D cA ad (ow_A G ad) M s s.heap H locs → lv_has ls 4 [(0, .ref (ad o0)), (1, .int x1)] → W p l e rm_P_leastCircle s m ([.ref (ad o0)] : List Value).toArray below meth c H locs 0 0 (MQ below (ow_Qi G D cA ad Q) ([.ref (ad o0)] : List Value).toArray s 0 0 (ow_A G ad)) (F0 m 2 ls [])) (K12 : om_M × Int32 → Prop) (hK12 : ∀ (M : om_M) (x2 : Int32) (H : Heap) (locs : List Loc) (ls : Array Slot), K12 (M, x2) → ow_B G D cA ad (ow_A G ad) M s s.heap H locs → lv_has ls 4 [(0, .ref (ad o0)), (1, .int x1), (2, .int x2)] → W p l e rm_P_leastCircle s m ([.ref (ad o0)] : List Value).toArray below meth c H locs 0 0 (MQ below (ow_Qi G D cA ad Q) ([.ref (ad o0)] : List Value).toArray s 0 0 (ow_A G ad)) (F0 m 12 ls [])) (M : om_M) (x2 : Int32) (H : Heap) (locs : List Loc) (ls : Array Slot), wp_P_leastCircle_12b F o0 Q x1 K2 K12 M x2 → ow_B G D cA ad (ow_A G ad) M s s.heap H locs → lv_has ls 4 [(0, .ref (ad o0)), (1, .int x1), (2, .int x2)] → W p l e rm_P_leastCircle s m ([.ref (ad o0)] : List Value).toArray below meth c H locs 0 0 (MQ below (ow_Qi G D cA ad Q) ([.ref (ad o0)] : List Value).toArray s 0 0 (ow_A G ad)) (F0 m 12 ls []) := by
    intro x1 K2 hK2 K12 hK12 M x2 H locs ls h hB hl
    refine lv_iload_n hx hb dc_P_leastCircle_12 rfl (lv_at hl 2 rfl) ?_
    refine lv_aload_n hx hb dc_P_leastCircle_13 rfl (lv_at hl 0 rfl) ?_
    refine ow_get hx hb hts iw_P hown hB k0 rfl 5 (by decide) mw_59 rfl dc_P_leastCircle_14 ?_
    obtain ⟨h1, h2⟩ := h
    refine lv_icmp_ge hx hb dc_P_leastCircle_17 rfl (fun hc => ?_) (fun hc => ?_)
    · have h := h1 hc
      exact L80 K2 hK2 _ _ _ _ _ h hB (lv_sub hl [0, 1] rfl)
    · have h := h2 hc
      refine lv_iconst (v := 0) hx hb dc_P_leastCircle_20 rfl ?_
      refine lv_istore_n hx hb dc_P_leastCircle_21 rfl hl (by decide) rfl (fun ls hl => ?_)
      exact L22 _ _ K2 hK2 K12 hK12 _ _ _ _ _ h hB (lv_sub hl [1, 2, 3, 0] rfl)
  have L12 : ∀ (x1 : Int32) (K2 : om_M × Int32 → Prop) (hK2 : ∀ (M : om_M) (x1 : Int32) (H : Heap) (locs : List Loc) (ls : Array Slot), K2 (M, x1) → ow_B G D cA ad (ow_A G ad) M s s.heap H locs → lv_has ls 4 [(0, .ref (ad o0)), (1, .int x1)] → W p l e rm_P_leastCircle s m ([.ref (ad o0)] : List Value).toArray below meth c H locs 0 0 (MQ below (ow_Qi G D cA ad Q) ([.ref (ad o0)] : List Value).toArray s 0 0 (ow_A G ad)) (F0 m 2 ls [])) (M : om_M) (x2 : Int32) (H : Heap) (locs : List Loc) (ls : Array Slot), wp_P_leastCircle_12 F o0 Q x1 K2 M x2 → ow_B G D cA ad (ow_A G ad) M s s.heap H locs → lv_has ls 4 [(0, .ref (ad o0)), (1, .int x1), (2, .int x2)] → W p l e rm_P_leastCircle s m ([.ref (ad o0)] : List Value).toArray below meth c H locs 0 0 (MQ below (ow_Qi G D cA ad Q) ([.ref (ad o0)] : List Value).toArray s 0 0 (ow_A G ad)) (F0 m 12 ls []) := by
    intro x1 K2 hK2
    have step : ∀ (k : Nat) (M : om_M) (x2 : Int32) (H : Heap) (locs : List Loc) (ls : Array Slot), ow_lp (fun (z : om_M × Int32) K => wp_P_leastCircle_12b F o0 Q x1 K2 K z.1 z.2) k (M, x2) → ow_B G D cA ad (ow_A G ad) M s s.heap H locs → lv_has ls 4 [(0, .ref (ad o0)), (1, .int x1), (2, .int x2)] → W p l e rm_P_leastCircle s m ([.ref (ad o0)] : List Value).toArray below meth c H locs 0 0 (MQ below (ow_Qi G D cA ad Q) ([.ref (ad o0)] : List Value).toArray s 0 0 (ow_A G ad)) (F0 m 12 ls []) := by
      intro k
      induction k with
      | zero => intro M x2 H locs ls h hB hl; exact False.elim h
      | succ k ih => intro M x2 H locs ls h hB hl; exact B12 x1 K2 hK2 (ow_lp _ k) (fun M x2 H locs ls h hB  hl => ih M x2  H locs ls h hB hl) M x2 H locs ls h hB hl
    intro M x2 H locs ls h hB hl
    exact step F M x2 H locs ls h hB hl
  have B2 : ∀   (K2 : om_M × Int32 → Prop) (hK2 : ∀ (M : om_M) (x1 : Int32) (H : Heap) (locs : List Loc) (ls : Array Slot), K2 (M, x1) → ow_B G D cA ad (ow_A G ad) M s s.heap H locs → lv_has ls 4 [(0, .ref (ad o0)), (1, .int x1)] → W p l e rm_P_leastCircle s m ([.ref (ad o0)] : List Value).toArray below meth c H locs 0 0 (MQ below (ow_Qi G D cA ad Q) ([.ref (ad o0)] : List Value).toArray s 0 0 (ow_A G ad)) (F0 m 2 ls [])) (M : om_M) (x1 : Int32) (H : Heap) (locs : List Loc) (ls : Array Slot), wp_P_leastCircle_2b F o0 Q   K2 M x1 → ow_B G D cA ad (ow_A G ad) M s s.heap H locs → lv_has ls 4 [(0, .ref (ad o0)), (1, .int x1)] → W p l e rm_P_leastCircle s m ([.ref (ad o0)] : List Value).toArray below meth c H locs 0 0 (MQ below (ow_Qi G D cA ad Q) ([.ref (ad o0)] : List Value).toArray s 0 0 (ow_A G ad)) (F0 m 2 ls []) := by
    intro   K2 hK2 M x1 H locs ls h hB hl
    refine lv_iload_n hx hb dc_P_leastCircle_2 rfl (lv_at hl 1 rfl) ?_
    refine lv_aload_n hx hb dc_P_leastCircle_3 rfl (lv_at hl 0 rfl) ?_
    refine ow_get hx hb hts iw_P hown hB k0 rfl 5 (by decide) mw_59 rfl dc_P_leastCircle_4 ?_
    obtain ⟨h1, h2⟩ := h
    refine lv_icmp_ge hx hb dc_P_leastCircle_7 rfl (fun hc => ?_) (fun hc => ?_)
    · have h := h1 hc
      refine lv_iconst (v := (-1)) hx hb dc_P_leastCircle_86 rfl ?_
      exact ow_iret hx hb hr hlocks hB h dc_P_leastCircle_87
    · have h := h2 hc
      refine lv_iconst (v := 0) hx hb dc_P_leastCircle_10 rfl ?_
      refine lv_istore_n hx hb dc_P_leastCircle_11 rfl hl (by decide) rfl (fun ls hl => ?_)
      exact L12 _ K2 hK2 _ _ _ _ _ h hB (lv_sub hl [1, 2, 0] rfl)
  have L2 : ∀   (M : om_M) (x1 : Int32) (H : Heap) (locs : List Loc) (ls : Array Slot), wp_P_leastCircle_2 F o0 Q   M x1 → ow_B G D cA ad (ow_A G ad) M s s.heap H locs → lv_has ls 4 [(0, .ref (ad o0)), (1, .int x1)] → W p l e rm_P_leastCircle s m ([.ref (ad o0)] : List Value).toArray below meth c H locs 0 0 (MQ below (ow_Qi G D cA ad Q) ([.ref (ad o0)] : List Value).toArray s 0 0 (ow_A G ad)) (F0 m 2 ls []) := by
    have step : ∀ (k : Nat) (M : om_M) (x1 : Int32) (H : Heap) (locs : List Loc) (ls : Array Slot), ow_lp (fun (z : om_M × Int32) K => wp_P_leastCircle_2b F o0 Q   K z.1 z.2) k (M, x1) → ow_B G D cA ad (ow_A G ad) M s s.heap H locs → lv_has ls 4 [(0, .ref (ad o0)), (1, .int x1)] → W p l e rm_P_leastCircle s m ([.ref (ad o0)] : List Value).toArray below meth c H locs 0 0 (MQ below (ow_Qi G D cA ad Q) ([.ref (ad o0)] : List Value).toArray s 0 0 (ow_A G ad)) (F0 m 2 ls []) := by
      intro k
      induction k with
      | zero => intro M x1 H locs ls h hB hl; exact False.elim h
      | succ k ih => intro M x1 H locs ls h hB hl; exact B2   (ow_lp _ k) (fun M x1 H locs ls h hB  hl => ih M x1  H locs ls h hB hl) M x1 H locs ls h hB hl
    intro M x1 H locs ls h hB hl
    exact step F M x1 H locs ls h hB hl
  have hl := lv_entry ([.ref (ad o0)]) (n := 4) (Nat.le_of_ble_eq_true rfl)
  rw [lg_entry_eq]
  generalize (lg_sl ([.ref (ad o0)]) ++ List.replicate (4 - (lg_sl ([.ref (ad o0)])).length) Slot.unset).toArray = ls at hl ⊢
  have hl : lv_has ls 4 [(0, .ref (ad o0))] := hl
  show W p l e rm_P_leastCircle s m _ below meth c s.heap [] 0 0 _ _
  refine lv_iconst (v := 0) hx hb dc_P_leastCircle_0 rfl ?_
  refine lv_istore_n hx hb dc_P_leastCircle_1 rfl hl (by decide) rfl (fun ls hl => ?_)
  exact L2 _ _ _ _ _ h hB (lv_sub hl [1, 0] rfl)
