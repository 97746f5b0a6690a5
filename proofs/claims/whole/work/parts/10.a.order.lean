def wp_O_at (F : Nat) (x0 : Int32) (x1 : Int32) (M : om_M) (Q : Int32 → om_M → Prop) : Prop := Q ((x0 >>> (((3 : Int32) * x1) &&& 31)) &&& 7) M
def wp_O_isOne_39 (F : Nat) (x0 : Int32) (x1 : Int32) (Q : Int32 → om_M → Prop)   (M : om_M) (x2 : Int32)  : Prop := ((x2 = (((1 : Int32) <<< (x1 &&& 31)) - 1) → Q 1 M) ∧ (¬ x2 = (((1 : Int32) <<< (x1 &&& 31)) - 1) → Q 0 M))
def wp_O_isOne_18b (F : Nat) (x0 : Int32) (x1 : Int32) (Q : Int32 → om_M → Prop)   (K18 : om_M × Int32 × Int32 → Prop) (M : om_M) (x2 : Int32) (x3 : Int32) : Prop := ((x1 ≤ x3 → wp_O_isOne_39 F x0 x1 Q M x2) ∧ (¬ x1 ≤ x3 → wp_O_at F x0 x3 M (fun r2 M1 => K18 (M1, x2 ||| ((1 : Int32) <<< (r2 &&& 31)), x3 + 1))))
def wp_O_isOne_18 (F : Nat) (x0 : Int32) (x1 : Int32) (Q : Int32 → om_M → Prop)   (M : om_M) (x2 : Int32) (x3 : Int32) : Prop := ow_lp (fun (z : om_M × Int32 × Int32) K => wp_O_isOne_18b F x0 x1 Q   K z.1 z.2.1 z.2.2) F (M, x2, x3)
def wp_O_isOne (F : Nat) (x0 : Int32) (x1 : Int32) (M : om_M) (Q : Int32 → om_M → Prop) : Prop := ((x0 < 0 → Q 0 M) ∧ (¬ x0 < 0 → (((x0 >>> (((3 : Int32) * x1) &&& 31)) = 0 → wp_O_isOne_18 F x0 x1 Q M 0 0) ∧ (¬ (x0 >>> (((3 : Int32) * x1) &&& 31)) = 0 → Q 0 M))))
def wp_O_placeOf_2b (F : Nat) (x0 : Int32) (x1 : Int32) (x2 : Int32) (Q : Int32 → om_M → Prop)   (K2 : om_M × Int32 → Prop) (M : om_M) (x3 : Int32) : Prop := ((x2 ≤ x3 → Q x2 M) ∧ (¬ x2 ≤ x3 → wp_O_at F x0 x3 M (fun r2 M1 => ((r2 = x1 → Q x3 M1) ∧ (¬ r2 = x1 → K2 (M1, x3 + 1))))))
def wp_O_placeOf_2 (F : Nat) (x0 : Int32) (x1 : Int32) (x2 : Int32) (Q : Int32 → om_M → Prop)   (M : om_M) (x3 : Int32) : Prop := ow_lp (fun (z : om_M × Int32) K => wp_O_placeOf_2b F x0 x1 x2 Q   K z.1 z.2) F (M, x3)
def wp_O_placeOf (F : Nat) (x0 : Int32) (x1 : Int32) (x2 : Int32) (M : om_M) (Q : Int32 → om_M → Prop) : Prop := wp_O_placeOf_2 F x0 x1 x2 Q M 0
abbrev rm_O_at : Room := { frames := 0, cells := 0, slots := 0, locals := 0 }
theorem hd_O_at : yn_O_at.cls ≠ "java/lang/invoke/MethodHandle" ∧ yn_O_at.cls ≠ "java/lang/invoke/VarHandle" ∧ (parseMethodDescriptor yn_O_at.desc).map (fun d => d.parameters.length) = some 2 := by decide +kernel
set_option maxHeartbeats 4000000 in
set_option maxRecDepth 100000 in
theorem ct_O_at (l : Launch) (D : va_G) (cA : Nat → ClassId) (ad : Nat → Nat) (F : Nat) (x0 : Int32) (x1 : Int32) (M : om_M) (Q : Int32 → om_M → Prop) (h : wp_O_at F x0 x1 M Q) : Met l yn_O_at (ow_ws yn_O_at cb_O_at 2 (some .int)) rm_O_at (ow_Pc D cA ad M [.int x0, .int x1]) (ow_Qi D cA ad Q) 0 0 (ow_A ad) := by
  refine Met.ofW (cc := cb_O_at) (maxL := 2) (ret := (some .int)) (by decide) rfl ?_
  intro p e s m args below meth c s₁ B hml hv
  obtain ⟨rfl, hB⟩ := hv
  have hx := B.exec
  have hb := B.bytes
  have hr := B.returns
  have hlocks := B.notSynchronized
  have hts : ∀ w ∈ lw_g, w.before ([.int x0, .int x1] : List Value).toArray s = true := fun w h => atoms_spec (ws := ow_ws yn_O_at cb_O_at 2 (some .int)) B.pre w (List.mem_cons_of_mem _ h)
  have hown : s.vm.findClass "BallotDesk$Order" = some m.cls := findClass_of_methodNamed B.named
  clear B
  have hl := lv_entry ([.int x0, .int x1]) (n := 2) (Nat.le_of_ble_eq_true rfl)
  rw [lg_entry_eq]
  generalize (lg_sl ([.int x0, .int x1]) ++ List.replicate (2 - (lg_sl ([.int x0, .int x1])).length) Slot.unset).toArray = ls at hl ⊢
  have hl : lv_has ls 2 [(0, .int x0), (1, .int x1)] := hl
  show W p l e rm_O_at s m _ below meth c s.heap [] 0 0 _ _
  refine lv_iload_n hx hb dc_O_at_0 rfl (lv_at hl 0 rfl) ?_
  refine lv_iconst (v := 3) hx hb dc_O_at_1 rfl ?_
  refine lv_iload_n hx hb dc_O_at_2 rfl (lv_at hl 1 rfl) ?_
  refine lv_imul hx hb dc_O_at_3 ?_
  refine lv_ishr hx hb dc_O_at_4 ?_
  refine lv_bipush (v := 7) hx hb dc_O_at_5 rfl ?_
  refine lv_iand hx hb dc_O_at_7 ?_
  exact ow_iret hx hb hr hlocks hB h dc_O_at_8
abbrev rm_O_isOne : Room := { frames := 1, cells := 0, slots := 0, locals := 21 }
theorem hd_O_isOne : yn_O_isOne.cls ≠ "java/lang/invoke/MethodHandle" ∧ yn_O_isOne.cls ≠ "java/lang/invoke/VarHandle" ∧ (parseMethodDescriptor yn_O_isOne.desc).map (fun d => d.parameters.length) = some 2 := by decide +kernel
set_option maxHeartbeats 4000000 in
set_option maxRecDepth 100000 in
theorem ct_O_isOne (l : Launch) (D : va_G) (cA : Nat → ClassId) (ad : Nat → Nat) (F : Nat) (x0 : Int32) (x1 : Int32) (M : om_M) (Q : Int32 → om_M → Prop) (h : wp_O_isOne F x0 x1 M Q) : Met l yn_O_isOne (ow_ws yn_O_isOne cb_O_isOne 4 (some .boolean)) rm_O_isOne (ow_Pc D cA ad M [.int x0, .int x1]) (ow_Qi D cA ad Q) 0 0 (ow_A ad) := by
  refine Met.ofW (cc := cb_O_isOne) (maxL := 4) (ret := (some .boolean)) (by decide) rfl ?_
  intro p e s m args below meth c s₁ B hml hv
  obtain ⟨rfl, hB⟩ := hv
  have hx := B.exec
  have hb := B.bytes
  have hr := B.returns
  have hlocks := B.notSynchronized
  have hts : ∀ w ∈ lw_g, w.before ([.int x0, .int x1] : List Value).toArray s = true := fun w h => atoms_spec (ws := ow_ws yn_O_isOne cb_O_isOne 4 (some .boolean)) B.pre w (List.mem_cons_of_mem _ h)
  have hown : s.vm.findClass "BallotDesk$Order" = some m.cls := findClass_of_methodNamed B.named
  clear B
  have L39 : ∀   (M : om_M) (x2 : Int32)  (H : Heap) (locs : List Loc) (ls : Array Slot), wp_O_isOne_39 F x0 x1 Q   M x2  → ow_B D cA ad (ow_A ad) M s s.heap H locs → lv_has ls 4 [(1, .int x1), (2, .int x2)] → W p l e rm_O_isOne s m ([.int x0, .int x1] : List Value).toArray below meth c H locs 0 0 (MQ below (ow_Qi D cA ad Q) ([.int x0, .int x1] : List Value).toArray s 0 0 (ow_A ad)) (F0 m 39 ls []) := by
    intro   M x2 H locs ls h hB hl
    refine lv_iload_n hx hb dc_O_isOne_39 rfl (lv_at hl 1 rfl) ?_
    refine lv_iconst (v := 1) hx hb dc_O_isOne_40 rfl ?_
    refine lv_iload_n hx hb dc_O_isOne_41 rfl (lv_at hl 0 rfl) ?_
    refine lv_ishl hx hb dc_O_isOne_42 ?_
    refine lv_iconst (v := 1) hx hb dc_O_isOne_43 rfl ?_
    refine lv_isub hx hb dc_O_isOne_44 ?_
    obtain ⟨h1, h2⟩ := h
    refine lv_icmp_ne hx hb dc_O_isOne_45 rfl (fun hc => ?_) (fun hc => ?_)
    · have h := h2 hc
      refine lv_iconst (v := 0) hx hb dc_O_isOne_52 rfl ?_
      exact ow_zret hx hb hr hlocks (by decide) hB h dc_O_isOne_53
    · have h := h1 hc
      refine lv_iconst (v := 1) hx hb dc_O_isOne_48 rfl ?_
      refine lv_goto hx hb dc_O_isOne_49 rfl ?_
      exact ow_zret hx hb hr hlocks (by decide) hB h dc_O_isOne_53
  have B18 : ∀   (K18 : om_M × Int32 × Int32 → Prop) (hK18 : ∀ (M : om_M) (x2 : Int32) (x3 : Int32) (H : Heap) (locs : List Loc) (ls : Array Slot), K18 (M, x2, x3) → ow_B D cA ad (ow_A ad) M s s.heap H locs → lv_has ls 4 [(0, .int x0), (1, .int x1), (2, .int x2), (3, .int x3)] → W p l e rm_O_isOne s m ([.int x0, .int x1] : List Value).toArray below meth c H locs 0 0 (MQ below (ow_Qi D cA ad Q) ([.int x0, .int x1] : List Value).toArray s 0 0 (ow_A ad)) (F0 m 18 ls [])) (M : om_M) (x2 : Int32) (x3 : Int32) (H : Heap) (locs : List Loc) (ls : Array Slot), wp_O_isOne_18b F x0 x1 Q   K18 M x2 x3 → ow_B D cA ad (ow_A ad) M s s.heap H locs → lv_has ls 4 [(0, .int x0), (1, .int x1), (2, .int x2), (3, .int x3)] → W p l e rm_O_isOne s m ([.int x0, .int x1] : List Value).toArray below meth c H locs 0 0 (MQ below (ow_Qi D cA ad Q) ([.int x0, .int x1] : List Value).toArray s 0 0 (ow_A ad)) (F0 m 18 ls []) := by
    intro   K18 hK18 M x2 x3 H locs ls h hB hl
    refine lv_iload_n hx hb dc_O_isOne_18 rfl (lv_at hl 3 rfl) ?_
    refine lv_iload_n hx hb dc_O_isOne_19 rfl (lv_at hl 1 rfl) ?_
    obtain ⟨h1, h2⟩ := h
    refine lv_icmp_ge hx hb dc_O_isOne_20 rfl (fun hc => ?_) (fun hc => ?_)
    · have h := h1 hc
      exact L39 _ _ _ _ _ h hB (lv_sub hl [1, 2] rfl)
    · have h := h2 hc
      refine lv_iload_n hx hb dc_O_isOne_23 rfl (lv_at hl 2 rfl) ?_
      refine lv_iconst (v := 1) hx hb dc_O_isOne_24 rfl ?_
      refine lv_iload_n hx hb dc_O_isOne_25 rfl (lv_at hl 0 rfl) ?_
      refine lv_iload_n hx hb dc_O_isOne_26 rfl (lv_at hl 3 rfl) ?_
      refine ow_calli (va_runS (As := [.int x0, .int x3]) (rest := [.int 1, .int x2]) ⟨hx, hb, hml, hown, hts⟩ (ct_O_at l D cA ad F _ _ _ _ h) ⟨ow_cb 2 hts mw_314 mw_3 mw_408 rfl rfl hd_O_at ⟨Nat.le_of_ble_eq_true rfl, Nat.le_of_ble_eq_true rfl⟩, hts _ mw_313⟩ (ow_preS hB) rfl rfl hl.1 rfl (lv_room (Nat.le_of_ble_eq_true rfl)) dc_O_isOne_27 ⟨Nat.zero_le _, Nat.zero_le _⟩) hB (fun r2 M1 H locs h hB => ?_)
      refine lv_ishl hx hb dc_O_isOne_30 ?_
      refine lv_ior hx hb dc_O_isOne_31 ?_
      refine lv_istore_n hx hb dc_O_isOne_32 rfl hl (by decide) rfl (fun ls hl => ?_)
      refine lv_iinc hx hb dc_O_isOne_33 hl (k := 3) rfl rfl (by decide) rfl (fun ls hl => ?_)
      refine lv_goto hx hb dc_O_isOne_36 rfl ?_
      exact hK18 _ _ _ _ _ _ h hB (lv_sub hl [2, 3, 1, 0] rfl)
  have L18 : ∀   (M : om_M) (x2 : Int32) (x3 : Int32) (H : Heap) (locs : List Loc) (ls : Array Slot), wp_O_isOne_18 F x0 x1 Q   M x2 x3 → ow_B D cA ad (ow_A ad) M s s.heap H locs → lv_has ls 4 [(0, .int x0), (1, .int x1), (2, .int x2), (3, .int x3)] → W p l e rm_O_isOne s m ([.int x0, .int x1] : List Value).toArray below meth c H locs 0 0 (MQ below (ow_Qi D cA ad Q) ([.int x0, .int x1] : List Value).toArray s 0 0 (ow_A ad)) (F0 m 18 ls []) := by
    have step : ∀ (k : Nat) (M : om_M) (x2 : Int32) (x3 : Int32) (H : Heap) (locs : List Loc) (ls : Array Slot), ow_lp (fun (z : om_M × Int32 × Int32) K => wp_O_isOne_18b F x0 x1 Q   K z.1 z.2.1 z.2.2) k (M, x2, x3) → ow_B D cA ad (ow_A ad) M s s.heap H locs → lv_has ls 4 [(0, .int x0), (1, .int x1), (2, .int x2), (3, .int x3)] → W p l e rm_O_isOne s m ([.int x0, .int x1] : List Value).toArray below meth c H locs 0 0 (MQ below (ow_Qi D cA ad Q) ([.int x0, .int x1] : List Value).toArray s 0 0 (ow_A ad)) (F0 m 18 ls []) := by
      intro k
      induction k with
      | zero => intro M x2 x3 H locs ls h hB hl; exact False.elim h
      | succ k ih => intro M x2 x3 H locs ls h hB hl; exact B18   (ow_lp _ k) (fun M x2 x3 H locs ls h hB  hl => ih M x2 x3  H locs ls h hB hl) M x2 x3 H locs ls h hB hl
    intro M x2 x3 H locs ls h hB hl
    exact step F M x2 x3 H locs ls h hB hl
  have hl := lv_entry ([.int x0, .int x1]) (n := 4) (Nat.le_of_ble_eq_true rfl)
  rw [lg_entry_eq]
  generalize (lg_sl ([.int x0, .int x1]) ++ List.replicate (4 - (lg_sl ([.int x0, .int x1])).length) Slot.unset).toArray = ls at hl ⊢
  have hl : lv_has ls 4 [(0, .int x0), (1, .int x1)] := hl
  show W p l e rm_O_isOne s m _ below meth c s.heap [] 0 0 _ _
  refine lv_iload_n hx hb dc_O_isOne_0 rfl (lv_at hl 0 rfl) ?_
  obtain ⟨h1, h2⟩ := h
  refine lv_if_lt hx hb dc_O_isOne_1 rfl (fun hc => ?_) (fun hc => ?_)
  · have h := h1 hc
    refine lv_iconst (v := 0) hx hb dc_O_isOne_12 rfl ?_
    exact ow_zret hx hb hr hlocks (by decide) hB h dc_O_isOne_13
  · have h := h2 hc
    refine lv_iload_n hx hb dc_O_isOne_4 rfl (lv_at hl 0 rfl) ?_
    refine lv_iconst (v := 3) hx hb dc_O_isOne_5 rfl ?_
    refine lv_iload_n hx hb dc_O_isOne_6 rfl (lv_at hl 1 rfl) ?_
    refine lv_imul hx hb dc_O_isOne_7 ?_
    refine lv_ishr hx hb dc_O_isOne_8 ?_
    obtain ⟨h1, h2⟩ := h
    refine lv_if_eq hx hb dc_O_isOne_9 rfl (fun hc => ?_) (fun hc => ?_)
    · have h := h1 hc
      refine lv_iconst (v := 0) hx hb dc_O_isOne_14 rfl ?_
      refine lv_istore_n hx hb dc_O_isOne_15 rfl hl (by decide) rfl (fun ls hl => ?_)
      refine lv_iconst (v := 0) hx hb dc_O_isOne_16 rfl ?_
      refine lv_istore_n hx hb dc_O_isOne_17 rfl hl (by decide) rfl (fun ls hl => ?_)
      exact L18 _ _ _ _ _ _ h hB (lv_sub hl [2, 3, 1, 0] rfl)
    · have h := h2 hc
      refine lv_iconst (v := 0) hx hb dc_O_isOne_12 rfl ?_
      exact ow_zret hx hb hr hlocks (by decide) hB h dc_O_isOne_13
abbrev rm_O_placeOf : Room := { frames := 1, cells := 0, slots := 0, locals := 21 }
theorem hd_O_placeOf : yn_O_placeOf.cls ≠ "java/lang/invoke/MethodHandle" ∧ yn_O_placeOf.cls ≠ "java/lang/invoke/VarHandle" ∧ (parseMethodDescriptor yn_O_placeOf.desc).map (fun d => d.parameters.length) = some 3 := by decide +kernel
set_option maxHeartbeats 4000000 in
set_option maxRecDepth 100000 in
theorem ct_O_placeOf (l : Launch) (D : va_G) (cA : Nat → ClassId) (ad : Nat → Nat) (F : Nat) (x0 : Int32) (x1 : Int32) (x2 : Int32) (M : om_M) (Q : Int32 → om_M → Prop) (h : wp_O_placeOf F x0 x1 x2 M Q) : Met l yn_O_placeOf (ow_ws yn_O_placeOf cb_O_placeOf 4 (some .int)) rm_O_placeOf (ow_Pc D cA ad M [.int x0, .int x1, .int x2]) (ow_Qi D cA ad Q) 0 0 (ow_A ad) := by
  refine Met.ofW (cc := cb_O_placeOf) (maxL := 4) (ret := (some .int)) (by decide) rfl ?_
  intro p e s m args below meth c s₁ B hml hv
  obtain ⟨rfl, hB⟩ := hv
  have hx := B.exec
  have hb := B.bytes
  have hr := B.returns
  have hlocks := B.notSynchronized
  have hts : ∀ w ∈ lw_g, w.before ([.int x0, .int x1, .int x2] : List Value).toArray s = true := fun w h => atoms_spec (ws := ow_ws yn_O_placeOf cb_O_placeOf 4 (some .int)) B.pre w (List.mem_cons_of_mem _ h)
  have hown : s.vm.findClass "BallotDesk$Order" = some m.cls := findClass_of_methodNamed B.named
  clear B
  have B2 : ∀   (K2 : om_M × Int32 → Prop) (hK2 : ∀ (M : om_M) (x3 : Int32) (H : Heap) (locs : List Loc) (ls : Array Slot), K2 (M, x3) → ow_B D cA ad (ow_A ad) M s s.heap H locs → lv_has ls 4 [(0, .int x0), (1, .int x1), (2, .int x2), (3, .int x3)] → W p l e rm_O_placeOf s m ([.int x0, .int x1, .int x2] : List Value).toArray below meth c H locs 0 0 (MQ below (ow_Qi D cA ad Q) ([.int x0, .int x1, .int x2] : List Value).toArray s 0 0 (ow_A ad)) (F0 m 2 ls [])) (M : om_M) (x3 : Int32) (H : Heap) (locs : List Loc) (ls : Array Slot), wp_O_placeOf_2b F x0 x1 x2 Q   K2 M x3 → ow_B D cA ad (ow_A ad) M s s.heap H locs → lv_has ls 4 [(0, .int x0), (1, .int x1), (2, .int x2), (3, .int x3)] → W p l e rm_O_placeOf s m ([.int x0, .int x1, .int x2] : List Value).toArray below meth c H locs 0 0 (MQ below (ow_Qi D cA ad Q) ([.int x0, .int x1, .int x2] : List Value).toArray s 0 0 (ow_A ad)) (F0 m 2 ls []) := by
    intro   K2 hK2 M x3 H locs ls h hB hl
    refine lv_iload_n hx hb dc_O_placeOf_2 rfl (lv_at hl 3 rfl) ?_
    refine lv_iload_n hx hb dc_O_placeOf_3 rfl (lv_at hl 2 rfl) ?_
    obtain ⟨h1, h2⟩ := h
    refine lv_icmp_ge hx hb dc_O_placeOf_4 rfl (fun hc => ?_) (fun hc => ?_)
    · have h := h1 hc
      refine lv_iload_n hx hb dc_O_placeOf_24 rfl (lv_at hl 2 rfl) ?_
      exact ow_iret hx hb hr hlocks hB h dc_O_placeOf_25
    · have h := h2 hc
      refine lv_iload_n hx hb dc_O_placeOf_7 rfl (lv_at hl 0 rfl) ?_
      refine lv_iload_n hx hb dc_O_placeOf_8 rfl (lv_at hl 3 rfl) ?_
      refine ow_calli (va_runS (As := [.int x0, .int x3]) (rest := []) ⟨hx, hb, hml, hown, hts⟩ (ct_O_at l D cA ad F _ _ _ _ h) ⟨ow_cb 2 hts mw_314 mw_3 mw_408 rfl rfl hd_O_at ⟨Nat.le_of_ble_eq_true rfl, Nat.le_of_ble_eq_true rfl⟩, hts _ mw_313⟩ (ow_preS hB) rfl rfl hl.1 rfl (lv_room (Nat.le_of_ble_eq_true rfl)) dc_O_placeOf_9 ⟨Nat.zero_le _, Nat.zero_le _⟩) hB (fun r2 M1 H locs h hB => ?_)
      refine lv_iload_n hx hb dc_O_placeOf_12 rfl (lv_at hl 1 rfl) ?_
      obtain ⟨h1, h2⟩ := h
      refine lv_icmp_ne hx hb dc_O_placeOf_13 rfl (fun hc => ?_) (fun hc => ?_)
      · have h := h2 hc
        refine lv_iinc hx hb dc_O_placeOf_18 hl (k := 3) rfl rfl (by decide) rfl (fun ls hl => ?_)
        refine lv_goto hx hb dc_O_placeOf_21 rfl ?_
        exact hK2 _ _ _ _ _ h hB (lv_sub hl [1, 2, 3, 0] rfl)
      · have h := h1 hc
        refine lv_iload_n hx hb dc_O_placeOf_16 rfl (lv_at hl 3 rfl) ?_
        exact ow_iret hx hb hr hlocks hB h dc_O_placeOf_17
  have L2 : ∀   (M : om_M) (x3 : Int32) (H : Heap) (locs : List Loc) (ls : Array Slot), wp_O_placeOf_2 F x0 x1 x2 Q   M x3 → ow_B D cA ad (ow_A ad) M s s.heap H locs → lv_has ls 4 [(0, .int x0), (1, .int x1), (2, .int x2), (3, .int x3)] → W p l e rm_O_placeOf s m ([.int x0, .int x1, .int x2] : List Value).toArray below meth c H locs 0 0 (MQ below (ow_Qi D cA ad Q) ([.int x0, .int x1, .int x2] : List Value).toArray s 0 0 (ow_A ad)) (F0 m 2 ls []) := by
    have step : ∀ (k : Nat) (M : om_M) (x3 : Int32) (H : Heap) (locs : List Loc) (ls : Array Slot), ow_lp (fun (z : om_M × Int32) K => wp_O_placeOf_2b F x0 x1 x2 Q   K z.1 z.2) k (M, x3) → ow_B D cA ad (ow_A ad) M s s.heap H locs → lv_has ls 4 [(0, .int x0), (1, .int x1), (2, .int x2), (3, .int x3)] → W p l e rm_O_placeOf s m ([.int x0, .int x1, .int x2] : List Value).toArray below meth c H locs 0 0 (MQ below (ow_Qi D cA ad Q) ([.int x0, .int x1, .int x2] : List Value).toArray s 0 0 (ow_A ad)) (F0 m 2 ls []) := by
      intro k
      induction k with
      | zero => intro M x3 H locs ls h hB hl; exact False.elim h
      | succ k ih => intro M x3 H locs ls h hB hl; exact B2   (ow_lp _ k) (fun M x3 H locs ls h hB  hl => ih M x3  H locs ls h hB hl) M x3 H locs ls h hB hl
    intro M x3 H locs ls h hB hl
    exact step F M x3 H locs ls h hB hl
  have hl := lv_entry ([.int x0, .int x1, .int x2]) (n := 4) (Nat.le_of_ble_eq_true rfl)
  rw [lg_entry_eq]
  generalize (lg_sl ([.int x0, .int x1, .int x2]) ++ List.replicate (4 - (lg_sl ([.int x0, .int x1, .int x2])).length) Slot.unset).toArray = ls at hl ⊢
  have hl : lv_has ls 4 [(0, .int x0), (1, .int x1), (2, .int x2)] := hl
  show W p l e rm_O_placeOf s m _ below meth c s.heap [] 0 0 _ _
  refine lv_iconst (v := 0) hx hb dc_O_placeOf_0 rfl ?_
  refine lv_istore_n hx hb dc_O_placeOf_1 rfl hl (by decide) rfl (fun ls hl => ?_)
  exact L2 _ _ _ _ _ h hB (lv_sub hl [1, 2, 3, 0] rfl)
