def wp_M_clones_175 (F : Nat) (o0 : Nat) (x1 : Int32) (Q : Int32 → om_M → Prop)  (K40 : om_M × Int32 × Int32 → Prop) (M : om_M) (x3 : Int32) (t0 : Int32) : Prop := K40 (M, t0, x3 + 1)
def wp_M_clones_174 (F : Nat) (o0 : Nat) (x1 : Int32) (Q : Int32 → om_M → Prop)  (K40 : om_M × Int32 × Int32 → Prop) (M : om_M) (x3 : Int32)  : Prop := wp_M_clones_175 F o0 x1 Q K40 M x3 0
def wp_M_clones_170 (F : Nat) (o0 : Nat) (x1 : Int32) (Q : Int32 → om_M → Prop)  (K40 : om_M × Int32 × Int32 → Prop) (M : om_M) (x3 : Int32)  : Prop := wp_M_clones_175 F o0 x1 Q K40 M x3 1
def wp_M_clones_151 (F : Nat) (o0 : Nat) (x1 : Int32) (Q : Int32 → om_M → Prop)  (K40 : om_M × Int32 × Int32 → Prop) (M : om_M) (x2 : Int32) (x3 : Int32) (x4 : Int32)  : Prop := ((x2 = 0 → wp_M_clones_174 F o0 x1 Q K40 M x3) ∧ (¬ x2 = 0 → vp_in x3 20 ∧ (((M.1 (o0 + 2) x3.toNatClampNeg) = 0 → wp_M_clones_170 F o0 x1 Q K40 M x3) ∧ (¬ (M.1 (o0 + 2) x3.toNatClampNeg) = 0 → ((x4 = 1 → wp_M_clones_170 F o0 x1 Q K40 M x3) ∧ (¬ x4 = 1 → wp_M_clones_174 F o0 x1 Q K40 M x3))))))
def wp_M_clones_143 (F : Nat) (o0 : Nat) (x1 : Int32) (Q : Int32 → om_M → Prop) (x2 : Int32) (x3 : Int32) (K40 : om_M × Int32 × Int32 → Prop) (K54 : om_M × Int32 × Int32 → Prop) (M : om_M) (x5 : Int32) (t0 : Int32) : Prop := K54 (M, t0, x5 + 1)
def wp_M_clones_141 (F : Nat) (o0 : Nat) (x1 : Int32) (Q : Int32 → om_M → Prop) (x2 : Int32) (x3 : Int32) (K40 : om_M × Int32 × Int32 → Prop) (K54 : om_M × Int32 × Int32 → Prop) (M : om_M) (x4 : Int32) (x5 : Int32)  : Prop := wp_M_clones_143 F o0 x1 Q x2 x3 K40 K54 M x5 x4
def wp_M_clones_122 (F : Nat) (o0 : Nat) (x1 : Int32) (Q : Int32 → om_M → Prop) (x2 : Int32) (x3 : Int32) (K40 : om_M × Int32 × Int32 → Prop) (K54 : om_M × Int32 × Int32 → Prop) (M : om_M) (x4 : Int32) (x5 : Int32) (x6 : Int32) (t0 : Int32) : Prop := ((x6 = 0 → wp_M_clones_141 F o0 x1 Q x2 x3 K40 K54 M x4 x5) ∧ (¬ x6 = 0 → ((t0 = 0 → wp_M_clones_143 F o0 x1 Q x2 x3 K40 K54 M x5 (x4 + 1)) ∧ (¬ t0 = 0 → wp_M_clones_141 F o0 x1 Q x2 x3 K40 K54 M x4 x5))))
def wp_M_clones_121 (F : Nat) (o0 : Nat) (x1 : Int32) (Q : Int32 → om_M → Prop) (x2 : Int32) (x3 : Int32) (K40 : om_M × Int32 × Int32 → Prop) (K54 : om_M × Int32 × Int32 → Prop) (M : om_M) (x4 : Int32) (x5 : Int32) (x6 : Int32)  : Prop := wp_M_clones_122 F o0 x1 Q x2 x3 K40 K54 M x4 x5 x6 0
def wp_M_clones_88 (F : Nat) (o0 : Nat) (x1 : Int32) (Q : Int32 → om_M → Prop) (x2 : Int32) (x3 : Int32) (K40 : om_M × Int32 × Int32 → Prop) (K54 : om_M × Int32 × Int32 → Prop) (M : om_M) (x4 : Int32) (x5 : Int32) (t0 : Int32) : Prop := ((x5 ≤ 0 → wp_M_clones_121 F o0 x1 Q x2 x3 K40 K54 M x4 x5 t0) ∧ (¬ x5 ≤ 0 → vp_in ((((7 : Int32) * x3) + x5) - 1) 140 ∧ ((((x1 >>> ((M.1 (o0 + 1) ((((7 : Int32) * x3) + x5) - 1).toNatClampNeg) &&& 31)) &&& 1) = 1 → wp_M_clones_122 F o0 x1 Q x2 x3 K40 K54 M x4 x5 t0 1) ∧ (¬ ((x1 >>> ((M.1 (o0 + 1) ((((7 : Int32) * x3) + x5) - 1).toNatClampNeg) &&& 31)) &&& 1) = 1 → wp_M_clones_121 F o0 x1 Q x2 x3 K40 K54 M x4 x5 t0))))
def wp_M_clones_54b (F : Nat) (o0 : Nat) (x1 : Int32) (Q : Int32 → om_M → Prop) (x2 : Int32) (x3 : Int32) (K40 : om_M × Int32 × Int32 → Prop) (K54 : om_M × Int32 × Int32 → Prop) (M : om_M) (x4 : Int32) (x5 : Int32) : Prop := (((M.1 o0 1) ≤ x5 → wp_M_clones_151 F o0 x1 Q K40 M x2 x3 x4) ∧ (¬ (M.1 o0 1) ≤ x5 → vp_in (((7 : Int32) * x3) + x5) 140 ∧ ((((x1 >>> ((M.1 (o0 + 1) (((7 : Int32) * x3) + x5).toNatClampNeg) &&& 31)) &&& 1) = 1 → wp_M_clones_88 F o0 x1 Q x2 x3 K40 K54 M x4 x5 1) ∧ (¬ ((x1 >>> ((M.1 (o0 + 1) (((7 : Int32) * x3) + x5).toNatClampNeg) &&& 31)) &&& 1) = 1 → wp_M_clones_88 F o0 x1 Q x2 x3 K40 K54 M x4 x5 0))))
def wp_M_clones_54 (F : Nat) (o0 : Nat) (x1 : Int32) (Q : Int32 → om_M → Prop) (x2 : Int32) (x3 : Int32) (K40 : om_M × Int32 × Int32 → Prop) (M : om_M) (x4 : Int32) (x5 : Int32) : Prop := ow_lp (fun (z : om_M × Int32 × Int32) K => wp_M_clones_54b F o0 x1 Q x2 x3 K40 K z.1 z.2.1 z.2.2) F (M, x4, x5)
def wp_M_clones_40b (F : Nat) (o0 : Nat) (x1 : Int32) (Q : Int32 → om_M → Prop)   (K40 : om_M × Int32 × Int32 → Prop) (M : om_M) (x2 : Int32) (x3 : Int32) : Prop := (((M.1 o0 2) ≤ x3 → vp_nar .boolean x2 = x2 ∧ Q x2 M) ∧ (¬ (M.1 o0 2) ≤ x3 → wp_M_clones_54 F o0 x1 Q x2 x3 K40 M 0 0))
def wp_M_clones_40 (F : Nat) (o0 : Nat) (x1 : Int32) (Q : Int32 → om_M → Prop)   (M : om_M) (x2 : Int32) (x3 : Int32) : Prop := ow_lp (fun (z : om_M × Int32 × Int32) K => wp_M_clones_40b F o0 x1 Q   K z.1 z.2.1 z.2.2) F (M, x2, x3)
def wp_M_clones_27 (F : Nat) (o0 : Nat) (x1 : Int32) (Q : Int32 → om_M → Prop)   (M : om_M)  (t0 : Nat) (t1 : Int32) : Prop := wp_M_goes F t0 t1 1 M (fun r5 M4 => ((r5 = 0 → Q 0 M4) ∧ (¬ r5 = 0 → wp_M_clones_40 F o0 x1 Q M4 1 0)))
def wp_M_clones_26 (F : Nat) (o0 : Nat) (x1 : Int32) (Q : Int32 → om_M → Prop)   (M : om_M)  (t0 : Nat) : Prop := wp_M_clones_27 F o0 x1 Q M t0 0
def wp_M_clones (F : Nat) (o0 : Nat) (x1 : Int32) (M : om_M) (Q : Int32 → om_M → Prop) : Prop := ((x1 ≤ 0 → wp_M_clones_26 F o0 x1 Q M o0) ∧ (¬ x1 ≤ 0 → ((((1 : Int32) <<< ((M.1 o0 1) &&& 31)) ≤ x1 → wp_M_clones_26 F o0 x1 Q M o0) ∧ (¬ ((1 : Int32) <<< ((M.1 o0 1) &&& 31)) ≤ x1 → wp_M_single F x1 M (fun r7 M6 => ((r7 = 0 → wp_M_clones_27 F o0 x1 Q M6 o0 1) ∧ (¬ r7 = 0 → wp_M_clones_26 F o0 x1 Q M6 o0)))))))
def wp_M_count_43 (F : Nat) (o0 : Nat) (x1 : Int32) (Q : Int32 → om_M → Prop)   (M : om_M) (x2 : Int32)  : Prop := ((x1 = 0 → Q (M.1 o0 1) M) ∧ (¬ x1 = 0 → ((x1 = 1 → Q (M.1 o0 2) M) ∧ (¬ x1 = 1 → Q x2 M))))
def wp_M_count_20b (F : Nat) (o0 : Nat) (x1 : Int32) (Q : Int32 → om_M → Prop)   (K20 : om_M × Int32 × Int32 → Prop) (M : om_M) (x2 : Int32) (x3 : Int32) : Prop := (((M.1 o0 2) ≤ x3 → wp_M_count_43 F o0 x1 Q M x2) ∧ (¬ (M.1 o0 2) ≤ x3 → vp_in x3 20 ∧ K20 (M, x2 + (M.1 (o0 + 2) x3.toNatClampNeg), x3 + 1)))
def wp_M_count_20 (F : Nat) (o0 : Nat) (x1 : Int32) (Q : Int32 → om_M → Prop)   (M : om_M) (x2 : Int32) (x3 : Int32) : Prop := ow_lp (fun (z : om_M × Int32 × Int32) K => wp_M_count_20b F o0 x1 Q   K z.1 z.2.1 z.2.2) F (M, x2, x3)
def wp_M_count (F : Nat) (o0 : Nat) (x1 : Int32) (M : om_M) (Q : Int32 → om_M → Prop) : Prop := wp_M_within F x1 0 2 M (fun r3 M2 => wp_M_goes F o0 r3 1 M2 (fun r5 M4 => ((r5 = 0 → Q 0 M4) ∧ (¬ r5 = 0 → wp_M_count_20 F o0 x1 Q M4 0 0))))
abbrev rm_M_clones : Room := { frames := 1, cells := 0, slots := 0, locals := 22 }
theorem hd_M_clones : yn_M_clones.cls ≠ "java/lang/invoke/MethodHandle" ∧ yn_M_clones.cls ≠ "java/lang/invoke/VarHandle" ∧ (parseMethodDescriptor yn_M_clones.desc).map (fun d => d.parameters.length) = some 1 := by decide +kernel
set_option maxHeartbeats 4000000 in
set_option maxRecDepth 100000 in
theorem ct_M_clones (l : Launch) (G : List (Nat × Nat)) (hG : ow_lay G) (D : va_G) (cA : Nat → ClassId) (ad : Nat → Nat) (F : Nat) (o0 : Nat) (k0 : ow_kd G o0 = (3, 9)) (x1 : Int32) (M : om_M) (Q : Int32 → om_M → Prop) (h : wp_M_clones F o0 x1 M Q) : Met l yn_M_clones (ow_ws yn_M_clones cb_M_clones 8 (some .boolean)) rm_M_clones (ow_Pc G D cA ad M [.ref (ad o0), .int x1]) (ow_Qi G D cA ad Q) 0 0 (ow_A G ad) := by
  refine Met.ofW (cc := cb_M_clones) (maxL := 8) (ret := (some .boolean)) (by decide) rfl ?_
  intro p e s m args below meth c s₁ B hml hv
  obtain ⟨rfl, hB⟩ := hv
  have hx := B.exec
  have hb := B.bytes
  have hr := B.returns
  have hlocks := B.notSynchronized
  have hts : ∀ w ∈ lw_g, w.before ([.ref (ad o0), .int x1] : List Value).toArray s = true := fun w h => atoms_spec (ws := ow_ws yn_M_clones cb_M_clones 8 (some .boolean)) B.pre w (List.mem_cons_of_mem _ h)
  have hown : s.vm.findClass "BallotDeskModel" = some m.cls := findClass_of_methodNamed B.named
  clear B
  have L175 : ∀  (K40 : om_M × Int32 × Int32 → Prop) (hK40 : ∀ (M : om_M) (x2 : Int32) (x3 : Int32) (H : Heap) (locs : List Loc) (ls : Array Slot), K40 (M, x2, x3) → ow_B G D cA ad (ow_A G ad) M s s.heap H locs → lv_has ls 8 [(0, .ref (ad o0)), (1, .int x1), (2, .int x2), (3, .int x3)] → W p l e rm_M_clones s m ([.ref (ad o0), .int x1] : List Value).toArray below meth c H locs 0 0 (MQ below (ow_Qi G D cA ad Q) ([.ref (ad o0), .int x1] : List Value).toArray s 0 0 (ow_A G ad)) (F0 m 40 ls [])) (M : om_M) (x3 : Int32) (t0 : Int32) (H : Heap) (locs : List Loc) (ls : Array Slot), wp_M_clones_175 F o0 x1 Q  K40 M x3 t0 → ow_B G D cA ad (ow_A G ad) M s s.heap H locs → lv_has ls 8 [(0, .ref (ad o0)), (1, .int x1), (3, .int x3)] → W p l e rm_M_clones s m ([.ref (ad o0), .int x1] : List Value).toArray below meth c H locs 0 0 (MQ below (ow_Qi G D cA ad Q) ([.ref (ad o0), .int x1] : List Value).toArray s 0 0 (ow_A G ad)) (F0 m 175 ls [.int t0]) := by
    intro  K40 hK40 M x3 t0 H locs ls h hB hl
    refine lv_istore_n hx hb dc_M_clones_175 rfl hl (by decide) rfl (fun ls hl => ?_)
    refine lv_iinc hx hb dc_M_clones_176 hl (k := 3) rfl rfl (by decide) rfl (fun ls hl => ?_)
    refine lv_goto hx hb dc_M_clones_179 rfl ?_
    exact hK40 _ _ _ _ _ _ h hB (lv_sub hl [2, 3, 1, 0] rfl)
  have L174 : ∀  (K40 : om_M × Int32 × Int32 → Prop) (hK40 : ∀ (M : om_M) (x2 : Int32) (x3 : Int32) (H : Heap) (locs : List Loc) (ls : Array Slot), K40 (M, x2, x3) → ow_B G D cA ad (ow_A G ad) M s s.heap H locs → lv_has ls 8 [(0, .ref (ad o0)), (1, .int x1), (2, .int x2), (3, .int x3)] → W p l e rm_M_clones s m ([.ref (ad o0), .int x1] : List Value).toArray below meth c H locs 0 0 (MQ below (ow_Qi G D cA ad Q) ([.ref (ad o0), .int x1] : List Value).toArray s 0 0 (ow_A G ad)) (F0 m 40 ls [])) (M : om_M) (x3 : Int32)  (H : Heap) (locs : List Loc) (ls : Array Slot), wp_M_clones_174 F o0 x1 Q  K40 M x3  → ow_B G D cA ad (ow_A G ad) M s s.heap H locs → lv_has ls 8 [(0, .ref (ad o0)), (1, .int x1), (3, .int x3)] → W p l e rm_M_clones s m ([.ref (ad o0), .int x1] : List Value).toArray below meth c H locs 0 0 (MQ below (ow_Qi G D cA ad Q) ([.ref (ad o0), .int x1] : List Value).toArray s 0 0 (ow_A G ad)) (F0 m 174 ls []) := by
    intro  K40 hK40 M x3 H locs ls h hB hl
    refine lv_iconst (v := 0) hx hb dc_M_clones_174 rfl ?_
    exact L175 K40 hK40 _ _ _ _ _ _ h hB (lv_sub hl [0, 1, 2] rfl)
  have L170 : ∀  (K40 : om_M × Int32 × Int32 → Prop) (hK40 : ∀ (M : om_M) (x2 : Int32) (x3 : Int32) (H : Heap) (locs : List Loc) (ls : Array Slot), K40 (M, x2, x3) → ow_B G D cA ad (ow_A G ad) M s s.heap H locs → lv_has ls 8 [(0, .ref (ad o0)), (1, .int x1), (2, .int x2), (3, .int x3)] → W p l e rm_M_clones s m ([.ref (ad o0), .int x1] : List Value).toArray below meth c H locs 0 0 (MQ below (ow_Qi G D cA ad Q) ([.ref (ad o0), .int x1] : List Value).toArray s 0 0 (ow_A G ad)) (F0 m 40 ls [])) (M : om_M) (x3 : Int32)  (H : Heap) (locs : List Loc) (ls : Array Slot), wp_M_clones_170 F o0 x1 Q  K40 M x3  → ow_B G D cA ad (ow_A G ad) M s s.heap H locs → lv_has ls 8 [(0, .ref (ad o0)), (1, .int x1), (3, .int x3)] → W p l e rm_M_clones s m ([.ref (ad o0), .int x1] : List Value).toArray below meth c H locs 0 0 (MQ below (ow_Qi G D cA ad Q) ([.ref (ad o0), .int x1] : List Value).toArray s 0 0 (ow_A G ad)) (F0 m 170 ls []) := by
    intro  K40 hK40 M x3 H locs ls h hB hl
    refine lv_iconst (v := 1) hx hb dc_M_clones_170 rfl ?_
    refine lv_goto hx hb dc_M_clones_171 rfl ?_
    exact L175 K40 hK40 _ _ _ _ _ _ h hB (lv_sub hl [0, 1, 2] rfl)
  have L151 : ∀  (K40 : om_M × Int32 × Int32 → Prop) (hK40 : ∀ (M : om_M) (x2 : Int32) (x3 : Int32) (H : Heap) (locs : List Loc) (ls : Array Slot), K40 (M, x2, x3) → ow_B G D cA ad (ow_A G ad) M s s.heap H locs → lv_has ls 8 [(0, .ref (ad o0)), (1, .int x1), (2, .int x2), (3, .int x3)] → W p l e rm_M_clones s m ([.ref (ad o0), .int x1] : List Value).toArray below meth c H locs 0 0 (MQ below (ow_Qi G D cA ad Q) ([.ref (ad o0), .int x1] : List Value).toArray s 0 0 (ow_A G ad)) (F0 m 40 ls [])) (M : om_M) (x2 : Int32) (x3 : Int32) (x4 : Int32)  (H : Heap) (locs : List Loc) (ls : Array Slot), wp_M_clones_151 F o0 x1 Q  K40 M x2 x3 x4  → ow_B G D cA ad (ow_A G ad) M s s.heap H locs → lv_has ls 8 [(0, .ref (ad o0)), (1, .int x1), (2, .int x2), (3, .int x3), (4, .int x4)] → W p l e rm_M_clones s m ([.ref (ad o0), .int x1] : List Value).toArray below meth c H locs 0 0 (MQ below (ow_Qi G D cA ad Q) ([.ref (ad o0), .int x1] : List Value).toArray s 0 0 (ow_A G ad)) (F0 m 151 ls []) := by
    intro  K40 hK40 M x2 x3 x4 H locs ls h hB hl
    refine lv_iload_n hx hb dc_M_clones_151 rfl (lv_at hl 2 rfl) ?_
    obtain ⟨h1, h2⟩ := h
    refine lv_if_eq hx hb dc_M_clones_152 rfl (fun hc => ?_) (fun hc => ?_)
    · have h := h1 hc
      exact L174 K40 hK40 _ _ _ _ _ h hB (lv_sub hl [0, 1, 3] rfl)
    · have h := h2 hc
      refine lv_aload_n hx hb dc_M_clones_155 rfl (lv_at hl 0 rfl) ?_
      refine ow_get hx hb hts iw_M hown hB k0 rfl 4 (by decide) mw_801 rfl dc_M_clones_156 ?_
      refine lv_iload_n hx hb dc_M_clones_159 rfl (lv_at hl 3 rfl) ?_
      obtain ⟨hi1, h⟩ := h
      refine ow_iald hx hb hB (ly_M_amounts hG k0) hi1 dc_M_clones_160 ?_
      obtain ⟨h1, h2⟩ := h
      refine lv_if_eq hx hb dc_M_clones_161 rfl (fun hc => ?_) (fun hc => ?_)
      · have h := h1 hc
        exact L170 K40 hK40 _ _ _ _ _ h hB (lv_sub hl [0, 1, 3] rfl)
      · have h := h2 hc
        refine lv_iload hx hb dc_M_clones_164 (lv_at hl 4 rfl) ?_
        refine lv_iconst (v := 1) hx hb dc_M_clones_166 rfl ?_
        obtain ⟨h1, h2⟩ := h
        refine lv_icmp_ne hx hb dc_M_clones_167 rfl (fun hc => ?_) (fun hc => ?_)
        · have h := h2 hc
          exact L174 K40 hK40 _ _ _ _ _ h hB (lv_sub hl [0, 1, 3] rfl)
        · have h := h1 hc
          exact L170 K40 hK40 _ _ _ _ _ h hB (lv_sub hl [0, 1, 3] rfl)
  have L143 : ∀ (x2 : Int32) (x3 : Int32) (K40 : om_M × Int32 × Int32 → Prop) (hK40 : ∀ (M : om_M) (x2 : Int32) (x3 : Int32) (H : Heap) (locs : List Loc) (ls : Array Slot), K40 (M, x2, x3) → ow_B G D cA ad (ow_A G ad) M s s.heap H locs → lv_has ls 8 [(0, .ref (ad o0)), (1, .int x1), (2, .int x2), (3, .int x3)] → W p l e rm_M_clones s m ([.ref (ad o0), .int x1] : List Value).toArray below meth c H locs 0 0 (MQ below (ow_Qi G D cA ad Q) ([.ref (ad o0), .int x1] : List Value).toArray s 0 0 (ow_A G ad)) (F0 m 40 ls [])) (K54 : om_M × Int32 × Int32 → Prop) (hK54 : ∀ (M : om_M) (x4 : Int32) (x5 : Int32) (H : Heap) (locs : List Loc) (ls : Array Slot), K54 (M, x4, x5) → ow_B G D cA ad (ow_A G ad) M s s.heap H locs → lv_has ls 8 [(0, .ref (ad o0)), (1, .int x1), (2, .int x2), (3, .int x3), (4, .int x4), (5, .int x5)] → W p l e rm_M_clones s m ([.ref (ad o0), .int x1] : List Value).toArray below meth c H locs 0 0 (MQ below (ow_Qi G D cA ad Q) ([.ref (ad o0), .int x1] : List Value).toArray s 0 0 (ow_A G ad)) (F0 m 54 ls [])) (M : om_M) (x5 : Int32) (t0 : Int32) (H : Heap) (locs : List Loc) (ls : Array Slot), wp_M_clones_143 F o0 x1 Q x2 x3 K40 K54 M x5 t0 → ow_B G D cA ad (ow_A G ad) M s s.heap H locs → lv_has ls 8 [(0, .ref (ad o0)), (1, .int x1), (2, .int x2), (3, .int x3), (5, .int x5)] → W p l e rm_M_clones s m ([.ref (ad o0), .int x1] : List Value).toArray below meth c H locs 0 0 (MQ below (ow_Qi G D cA ad Q) ([.ref (ad o0), .int x1] : List Value).toArray s 0 0 (ow_A G ad)) (F0 m 143 ls [.int t0]) := by
    intro x2 x3 K40 hK40 K54 hK54 M x5 t0 H locs ls h hB hl
    refine lv_istore hx hb dc_M_clones_143 hl (by decide) rfl (fun ls hl => ?_)
    refine lv_iinc hx hb dc_M_clones_145 hl (k := 5) rfl rfl (by decide) rfl (fun ls hl => ?_)
    refine lv_goto hx hb dc_M_clones_148 rfl ?_
    exact hK54 _ _ _ _ _ _ h hB (lv_sub hl [2, 3, 4, 5, 1, 0] rfl)
  have L141 : ∀ (x2 : Int32) (x3 : Int32) (K40 : om_M × Int32 × Int32 → Prop) (hK40 : ∀ (M : om_M) (x2 : Int32) (x3 : Int32) (H : Heap) (locs : List Loc) (ls : Array Slot), K40 (M, x2, x3) → ow_B G D cA ad (ow_A G ad) M s s.heap H locs → lv_has ls 8 [(0, .ref (ad o0)), (1, .int x1), (2, .int x2), (3, .int x3)] → W p l e rm_M_clones s m ([.ref (ad o0), .int x1] : List Value).toArray below meth c H locs 0 0 (MQ below (ow_Qi G D cA ad Q) ([.ref (ad o0), .int x1] : List Value).toArray s 0 0 (ow_A G ad)) (F0 m 40 ls [])) (K54 : om_M × Int32 × Int32 → Prop) (hK54 : ∀ (M : om_M) (x4 : Int32) (x5 : Int32) (H : Heap) (locs : List Loc) (ls : Array Slot), K54 (M, x4, x5) → ow_B G D cA ad (ow_A G ad) M s s.heap H locs → lv_has ls 8 [(0, .ref (ad o0)), (1, .int x1), (2, .int x2), (3, .int x3), (4, .int x4), (5, .int x5)] → W p l e rm_M_clones s m ([.ref (ad o0), .int x1] : List Value).toArray below meth c H locs 0 0 (MQ below (ow_Qi G D cA ad Q) ([.ref (ad o0), .int x1] : List Value).toArray s 0 0 (ow_A G ad)) (F0 m 54 ls [])) (M : om_M) (x4 : Int32) (x5 : Int32)  (H : Heap) (locs : List Loc) (ls : Array Slot), wp_M_clones_141 F o0 x1 Q x2 x3 K40 K54 M x4 x5  → ow_B G D cA ad (ow_A G ad) M s s.heap H locs → lv_has ls 8 [(0, .ref (ad o0)), (1, .int x1), (2, .int x2), (3, .int x3), (4, .int x4), (5, .int x5)] → W p l e rm_M_clones s m ([.ref (ad o0), .int x1] : List Value).toArray below meth c H locs 0 0 (MQ below (ow_Qi G D cA ad Q) ([.ref (ad o0), .int x1] : List Value).toArray s 0 0 (ow_A G ad)) (F0 m 141 ls []) := by
    intro x2 x3 K40 hK40 K54 hK54 M x4 x5 H locs ls h hB hl
    refine lv_iload hx hb dc_M_clones_141 (lv_at hl 4 rfl) ?_
    exact L143 _ _ K40 hK40 K54 hK54 _ _ _ _ _ _ h hB (lv_sub hl [0, 1, 2, 3, 5] rfl)
  have L122 : ∀ (x2 : Int32) (x3 : Int32) (K40 : om_M × Int32 × Int32 → Prop) (hK40 : ∀ (M : om_M) (x2 : Int32) (x3 : Int32) (H : Heap) (locs : List Loc) (ls : Array Slot), K40 (M, x2, x3) → ow_B G D cA ad (ow_A G ad) M s s.heap H locs → lv_has ls 8 [(0, .ref (ad o0)), (1, .int x1), (2, .int x2), (3, .int x3)] → W p l e rm_M_clones s m ([.ref (ad o0), .int x1] : List Value).toArray below meth c H locs 0 0 (MQ below (ow_Qi G D cA ad Q) ([.ref (ad o0), .int x1] : List Value).toArray s 0 0 (ow_A G ad)) (F0 m 40 ls [])) (K54 : om_M × Int32 × Int32 → Prop) (hK54 : ∀ (M : om_M) (x4 : Int32) (x5 : Int32) (H : Heap) (locs : List Loc) (ls : Array Slot), K54 (M, x4, x5) → ow_B G D cA ad (ow_A G ad) M s s.heap H locs → lv_has ls 8 [(0, .ref (ad o0)), (1, .int x1), (2, .int x2), (3, .int x3), (4, .int x4), (5, .int x5)] → W p l e rm_M_clones s m ([.ref (ad o0), .int x1] : List Value).toArray below meth c H locs 0 0 (MQ below (ow_Qi G D cA ad Q) ([.ref (ad o0), .int x1] : List Value).toArray s 0 0 (ow_A G ad)) (F0 m 54 ls [])) (M : om_M) (x4 : Int32) (x5 : Int32) (x6 : Int32) (t0 : Int32) (H : Heap) (locs : List Loc) (ls : Array Slot), wp_M_clones_122 F o0 x1 Q x2 x3 K40 K54 M x4 x5 x6 t0 → ow_B G D cA ad (ow_A G ad) M s s.heap H locs → lv_has ls 8 [(0, .ref (ad o0)), (1, .int x1), (2, .int x2), (3, .int x3), (4, .int x4), (5, .int x5), (6, .int x6)] → W p l e rm_M_clones s m ([.ref (ad o0), .int x1] : List Value).toArray below meth c H locs 0 0 (MQ below (ow_Qi G D cA ad Q) ([.ref (ad o0), .int x1] : List Value).toArray s 0 0 (ow_A G ad)) (F0 m 122 ls [.int t0]) := by
    intro x2 x3 K40 hK40 K54 hK54 M x4 x5 x6 t0 H locs ls h hB hl
    refine lv_istore hx hb dc_M_clones_122 hl (by decide) rfl (fun ls hl => ?_)
    refine lv_iload hx hb dc_M_clones_124 (lv_at hl 7 rfl) ?_
    obtain ⟨h1, h2⟩ := h
    refine lv_if_eq hx hb dc_M_clones_126 rfl (fun hc => ?_) (fun hc => ?_)
    · have h := h1 hc
      exact L141 _ _ K40 hK40 K54 hK54 _ _ _ _ _ _ h hB (lv_sub hl [1, 2, 3, 4, 5, 6] rfl)
    · have h := h2 hc
      refine lv_iload hx hb dc_M_clones_129 (lv_at hl 0 rfl) ?_
      obtain ⟨h1, h2⟩ := h
      refine lv_if_ne hx hb dc_M_clones_131 rfl (fun hc => ?_) (fun hc => ?_)
      · have h := h2 hc
        exact L141 _ _ K40 hK40 K54 hK54 _ _ _ _ _ _ h hB (lv_sub hl [1, 2, 3, 4, 5, 6] rfl)
      · have h := h1 hc
        refine lv_iload hx hb dc_M_clones_134 (lv_at hl 5 rfl) ?_
        refine lv_iconst (v := 1) hx hb dc_M_clones_136 rfl ?_
        refine lv_iadd hx hb dc_M_clones_137 ?_
        refine lv_goto hx hb dc_M_clones_138 rfl ?_
        exact L143 _ _ K40 hK40 K54 hK54 _ _ _ _ _ _ h hB (lv_sub hl [1, 2, 3, 4, 6] rfl)
  have L121 : ∀ (x2 : Int32) (x3 : Int32) (K40 : om_M × Int32 × Int32 → Prop) (hK40 : ∀ (M : om_M) (x2 : Int32) (x3 : Int32) (H : Heap) (locs : List Loc) (ls : Array Slot), K40 (M, x2, x3) → ow_B G D cA ad (ow_A G ad) M s s.heap H locs → lv_has ls 8 [(0, .ref (ad o0)), (1, .int x1), (2, .int x2), (3, .int x3)] → W p l e rm_M_clones s m ([.ref (ad o0), .int x1] : List Value).toArray below meth c H locs 0 0 (MQ below (ow_Qi G D cA ad Q) ([.ref (ad o0), .int x1] : List Value).toArray s 0 0 (ow_A G ad)) (F0 m 40 ls [])) (K54 : om_M × Int32 × Int32 → Prop) (hK54 : ∀ (M : om_M) (x4 : Int32) (x5 : Int32) (H : Heap) (locs : List Loc) (ls : Array Slot), K54 (M, x4, x5) → ow_B G D cA ad (ow_A G ad) M s s.heap H locs → lv_has ls 8 [(0, .ref (ad o0)), (1, .int x1), (2, .int x2), (3, .int x3), (4, .int x4), (5, .int x5)] → W p l e rm_M_clones s m ([.ref (ad o0), .int x1] : List Value).toArray below meth c H locs 0 0 (MQ below (ow_Qi G D cA ad Q) ([.ref (ad o0), .int x1] : List Value).toArray s 0 0 (ow_A G ad)) (F0 m 54 ls [])) (M : om_M) (x4 : Int32) (x5 : Int32) (x6 : Int32)  (H : Heap) (locs : List Loc) (ls : Array Slot), wp_M_clones_121 F o0 x1 Q x2 x3 K40 K54 M x4 x5 x6  → ow_B G D cA ad (ow_A G ad) M s s.heap H locs → lv_has ls 8 [(0, .ref (ad o0)), (1, .int x1), (2, .int x2), (3, .int x3), (4, .int x4), (5, .int x5), (6, .int x6)] → W p l e rm_M_clones s m ([.ref (ad o0), .int x1] : List Value).toArray below meth c H locs 0 0 (MQ below (ow_Qi G D cA ad Q) ([.ref (ad o0), .int x1] : List Value).toArray s 0 0 (ow_A G ad)) (F0 m 121 ls []) := by
    intro x2 x3 K40 hK40 K54 hK54 M x4 x5 x6 H locs ls h hB hl
    refine lv_iconst (v := 0) hx hb dc_M_clones_121 rfl ?_
    exact L122 _ _ K40 hK40 K54 hK54 _ _ _ _ _ _ _ _ h hB (lv_sub hl [0, 1, 2, 3, 4, 5, 6] rfl)
  have L88 : ∀ (x2 : Int32) (x3 : Int32) (K40 : om_M × Int32 × Int32 → Prop) (hK40 : ∀ (M : om_M) (x2 : Int32) (x3 : Int32) (H : Heap) (locs : List Loc) (ls : Array Slot), K40 (M, x2, x3) → ow_B G D cA ad (ow_A G ad) M s s.heap H locs → lv_has ls 8 [(0, .ref (ad o0)), (1, .int x1), (2, .int x2), (3, .int x3)] → W p l e rm_M_clones s m ([.ref (ad o0), .int x1] : List Value).toArray below meth c H locs 0 0 (MQ below (ow_Qi G D cA ad Q) ([.ref (ad o0), .int x1] : List Value).toArray s 0 0 (ow_A G ad)) (F0 m 40 ls [])) (K54 : om_M × Int32 × Int32 → Prop) (hK54 : ∀ (M : om_M) (x4 : Int32) (x5 : Int32) (H : Heap) (locs : List Loc) (ls : Array Slot), K54 (M, x4, x5) → ow_B G D cA ad (ow_A G ad) M s s.heap H locs → lv_has ls 8 [(0, .ref (ad o0)), (1, .int x1), (2, .int x2), (3, .int x3), (4, .int x4), (5, .int x5)] → W p l e rm_M_clones s m ([.ref (ad o0), .int x1] : List Value).toArray below meth c H locs 0 0 (MQ below (ow_Qi G D cA ad Q) ([.ref (ad o0), .int x1] : List Value).toArray s 0 0 (ow_A G ad)) (F0 m 54 ls [])) (M : om_M) (x4 : Int32) (x5 : Int32) (t0 : Int32) (H : Heap) (locs : List Loc) (ls : Array Slot), wp_M_clones_88 F o0 x1 Q x2 x3 K40 K54 M x4 x5 t0 → ow_B G D cA ad (ow_A G ad) M s s.heap H locs → lv_has ls 8 [(0, .ref (ad o0)), (1, .int x1), (2, .int x2), (3, .int x3), (4, .int x4), (5, .int x5)] → W p l e rm_M_clones s m ([.ref (ad o0), .int x1] : List Value).toArray below meth c H locs 0 0 (MQ below (ow_Qi G D cA ad Q) ([.ref (ad o0), .int x1] : List Value).toArray s 0 0 (ow_A G ad)) (F0 m 88 ls [.int t0]) := by
    intro x2 x3 K40 hK40 K54 hK54 M x4 x5 t0 H locs ls h hB hl
    refine lv_istore hx hb dc_M_clones_88 hl (by decide) rfl (fun ls hl => ?_)
    refine lv_iload hx hb dc_M_clones_90 (lv_at hl 6 rfl) ?_
    obtain ⟨h1, h2⟩ := h
    refine lv_if_le hx hb dc_M_clones_92 rfl (fun hc => ?_) (fun hc => ?_)
    · have h := h1 hc
      exact L121 _ _ K40 hK40 K54 hK54 _ _ _ _ _ _ _ h hB (lv_sub hl [1, 2, 3, 4, 5, 6, 0] rfl)
    · have h := h2 hc
      refine lv_iload_n hx hb dc_M_clones_95 rfl (lv_at hl 2 rfl) ?_
      refine lv_aload_n hx hb dc_M_clones_96 rfl (lv_at hl 1 rfl) ?_
      refine ow_get hx hb hts iw_M hown hB k0 rfl 3 (by decide) mw_800 rfl dc_M_clones_97 ?_
      refine lv_bipush (v := 7) hx hb dc_M_clones_100 rfl ?_
      refine lv_iload_n hx hb dc_M_clones_102 rfl (lv_at hl 4 rfl) ?_
      refine lv_imul hx hb dc_M_clones_103 ?_
      refine lv_iload hx hb dc_M_clones_104 (lv_at hl 6 rfl) ?_
      refine lv_iadd hx hb dc_M_clones_106 ?_
      refine lv_iconst (v := 1) hx hb dc_M_clones_107 rfl ?_
      refine lv_isub hx hb dc_M_clones_108 ?_
      obtain ⟨hi2, h⟩ := h
      refine ow_iald hx hb hB (ly_M_orders hG k0) hi2 dc_M_clones_109 ?_
      refine lv_ishr hx hb dc_M_clones_110 ?_
      refine lv_iconst (v := 1) hx hb dc_M_clones_111 rfl ?_
      refine lv_iand hx hb dc_M_clones_112 ?_
      refine lv_iconst (v := 1) hx hb dc_M_clones_113 rfl ?_
      obtain ⟨h1, h2⟩ := h
      refine lv_icmp_ne hx hb dc_M_clones_114 rfl (fun hc => ?_) (fun hc => ?_)
      · have h := h2 hc
        exact L121 _ _ K40 hK40 K54 hK54 _ _ _ _ _ _ _ h hB (lv_sub hl [1, 2, 3, 4, 5, 6, 0] rfl)
      · have h := h1 hc
        refine lv_iconst (v := 1) hx hb dc_M_clones_117 rfl ?_
        refine lv_goto hx hb dc_M_clones_118 rfl ?_
        exact L122 _ _ K40 hK40 K54 hK54 _ _ _ _ _ _ _ _ h hB (lv_sub hl [1, 2, 3, 4, 5, 6, 0] rfl)
  have B54 : ∀ (x2 : Int32) (x3 : Int32) (K40 : om_M × Int32 × Int32 → Prop) (hK40 : ∀ (M : om_M) (x2 : Int32) (x3 : Int32) (H : Heap) (locs : List Loc) (ls : Array Slot), K40 (M, x2, x3) → ow_B G D cA ad (ow_A G ad) M s s.heap H locs → lv_has ls 8 [(0, .ref (ad o0)), (1, .int x1), (2, .int x2), (3, .int x3)] → W p l e rm_M_clones s m ([.ref (ad o0), .int x1] : List Value).toArray below meth c H locs 0 0 (MQ below (ow_Qi G D cA ad Q) ([.ref (ad o0), .int x1] : List Value).toArray s 0 0 (ow_A G ad)) (F0 m 40 ls [])) (K54 : om_M × Int32 × Int32 → Prop) (hK54 : ∀ (M : om_M) (x4 : Int32) (x5 : Int32) (H : Heap) (locs : List Loc) (ls : Array Slot), K54 (M, x4, x5) → ow_B G D cA ad (ow_A G ad) M s s.heap H locs → lv_has ls 8 [(0, .ref (ad o0)), (1, .int x1), (2, .int x2), (3, .int x3), (4, .int x4), (5, .int x5)] → W p l e rm_M_clones s m ([.ref (ad o0), .int x1] : List Value).toArray below meth c H locs 0 0 (MQ below (ow_Qi G D cA ad Q) ([.ref (ad o0), .int x1] : List Value).toArray s 0 0 (ow_A G ad)) (F0 m 54 ls [])) (M : om_M) (x4 : Int32) (x5 : Int32) (H : Heap) (locs : List Loc) (ls : Array Slot), wp_M_clones_54b F o0 x1 Q x2 x3 K40 K54 M x4 x5 → ow_B G D cA ad (ow_A G ad) M s s.heap H locs → lv_has ls 8 [(0, .ref (ad o0)), (1, .int x1), (2, .int x2), (3, .int x3), (4, .int x4), (5, .int x5)] → W p l e rm_M_clones s m ([.ref (ad o0), .int x1] : List Value).toArray below meth c H locs 0 0 (MQ below (ow_Qi G D cA ad Q) ([.ref (ad o0), .int x1] : List Value).toArray s 0 0 (ow_A G ad)) (F0 m 54 ls []) := by
    intro x2 x3 K40 hK40 K54 hK54 M x4 x5 H locs ls h hB hl
    refine lv_iload hx hb dc_M_clones_54 (lv_at hl 5 rfl) ?_
    refine lv_aload_n hx hb dc_M_clones_56 rfl (lv_at hl 0 rfl) ?_
    refine ow_get hx hb hts iw_M hown hB k0 rfl 1 (by decide) mw_798 rfl dc_M_clones_57 ?_
    obtain ⟨h1, h2⟩ := h
    refine lv_icmp_ge hx hb dc_M_clones_60 rfl (fun hc => ?_) (fun hc => ?_)
    · have h := h1 hc
      exact L151 K40 hK40 _ _ _ _ _ _ _ h hB (lv_sub hl [0, 1, 2, 3, 4] rfl)
    · have h := h2 hc
      refine lv_iload_n hx hb dc_M_clones_63 rfl (lv_at hl 1 rfl) ?_
      refine lv_aload_n hx hb dc_M_clones_64 rfl (lv_at hl 0 rfl) ?_
      refine ow_get hx hb hts iw_M hown hB k0 rfl 3 (by decide) mw_800 rfl dc_M_clones_65 ?_
      refine lv_bipush (v := 7) hx hb dc_M_clones_68 rfl ?_
      refine lv_iload_n hx hb dc_M_clones_70 rfl (lv_at hl 3 rfl) ?_
      refine lv_imul hx hb dc_M_clones_71 ?_
      refine lv_iload hx hb dc_M_clones_72 (lv_at hl 5 rfl) ?_
      refine lv_iadd hx hb dc_M_clones_74 ?_
      obtain ⟨hi3, h⟩ := h
      refine ow_iald hx hb hB (ly_M_orders hG k0) hi3 dc_M_clones_75 ?_
      refine lv_ishr hx hb dc_M_clones_76 ?_
      refine lv_iconst (v := 1) hx hb dc_M_clones_77 rfl ?_
      refine lv_iand hx hb dc_M_clones_78 ?_
      refine lv_iconst (v := 1) hx hb dc_M_clones_79 rfl ?_
      obtain ⟨h1, h2⟩ := h
      refine lv_icmp_ne hx hb dc_M_clones_80 rfl (fun hc => ?_) (fun hc => ?_)
      · have h := h2 hc
        refine lv_iconst (v := 0) hx hb dc_M_clones_87 rfl ?_
        exact L88 _ _ K40 hK40 K54 hK54 _ _ _ _ _ _ _ h hB (lv_sub hl [0, 1, 2, 3, 4, 5] rfl)
      · have h := h1 hc
        refine lv_iconst (v := 1) hx hb dc_M_clones_83 rfl ?_
        refine lv_goto hx hb dc_M_clones_84 rfl ?_
        exact L88 _ _ K40 hK40 K54 hK54 _ _ _ _ _ _ _ h hB (lv_sub hl [0, 1, 2, 3, 4, 5] rfl)
  have L54 : ∀ (x2 : Int32) (x3 : Int32) (K40 : om_M × Int32 × Int32 → Prop) (hK40 : ∀ (M : om_M) (x2 : Int32) (x3 : Int32) (H : Heap) (locs : List Loc) (ls : Array Slot), K40 (M, x2, x3) → ow_B G D cA ad (ow_A G ad) M s s.heap H locs → lv_has ls 8 [(0, .ref (ad o0)), (1, .int x1), (2, .int x2), (3, .int x3)] → W p l e rm_M_clones s m ([.ref (ad o0), .int x1] : List Value).toArray below meth c H locs 0 0 (MQ below (ow_Qi G D cA ad Q) ([.ref (ad o0), .int x1] : List Value).toArray s 0 0 (ow_A G ad)) (F0 m 40 ls [])) (M : om_M) (x4 : Int32) (x5 : Int32) (H : Heap) (locs : List Loc) (ls : Array Slot), wp_M_clones_54 F o0 x1 Q x2 x3 K40 M x4 x5 → ow_B G D cA ad (ow_A G ad) M s s.heap H locs → lv_has ls 8 [(0, .ref (ad o0)), (1, .int x1), (2, .int x2), (3, .int x3), (4, .int x4), (5, .int x5)] → W p l e rm_M_clones s m ([.ref (ad o0), .int x1] : List Value).toArray below meth c H locs 0 0 (MQ below (ow_Qi G D cA ad Q) ([.ref (ad o0), .int x1] : List Value).toArray s 0 0 (ow_A G ad)) (F0 m 54 ls []) := by
    intro x2 x3 K40 hK40
    have step : ∀ (k : Nat) (M : om_M) (x4 : Int32) (x5 : Int32) (H : Heap) (locs : List Loc) (ls : Array Slot), ow_lp (fun (z : om_M × Int32 × Int32) K => wp_M_clones_54b F o0 x1 Q x2 x3 K40 K z.1 z.2.1 z.2.2) k (M, x4, x5) → ow_B G D cA ad (ow_A G ad) M s s.heap H locs → lv_has ls 8 [(0, .ref (ad o0)), (1, .int x1), (2, .int x2), (3, .int x3), (4, .int x4), (5, .int x5)] → W p l e rm_M_clones s m ([.ref (ad o0), .int x1] : List Value).toArray below meth c H locs 0 0 (MQ below (ow_Qi G D cA ad Q) ([.ref (ad o0), .int x1] : List Value).toArray s 0 0 (ow_A G ad)) (F0 m 54 ls []) := by
      intro k
      induction k with
      | zero => intro M x4 x5 H locs ls h hB hl; exact False.elim h
      | succ k ih => intro M x4 x5 H locs ls h hB hl; exact B54 x2 x3 K40 hK40 (ow_lp _ k) (fun M x4 x5 H locs ls h hB  hl => ih M x4 x5  H locs ls h hB hl) M x4 x5 H locs ls h hB hl
    intro M x4 x5 H locs ls h hB hl
    exact step F M x4 x5 H locs ls h hB hl
  have B40 : ∀   (K40 : om_M × Int32 × Int32 → Prop) (hK40 : ∀ (M : om_M) (x2 : Int32) (x3 : Int32) (H : Heap) (locs : List Loc) (ls : Array Slot), K40 (M, x2, x3) → ow_B G D cA ad (ow_A G ad) M s s.heap H locs → lv_has ls 8 [(0, .ref (ad o0)), (1, .int x1), (2, .int x2), (3, .int x3)] → W p l e rm_M_clones s m ([.ref (ad o0), .int x1] : List Value).toArray below meth c H locs 0 0 (MQ below (ow_Qi G D cA ad Q) ([.ref (ad o0), .int x1] : List Value).toArray s 0 0 (ow_A G ad)) (F0 m 40 ls [])) (M : om_M) (x2 : Int32) (x3 : Int32) (H : Heap) (locs : List Loc) (ls : Array Slot), wp_M_clones_40b F o0 x1 Q   K40 M x2 x3 → ow_B G D cA ad (ow_A G ad) M s s.heap H locs → lv_has ls 8 [(0, .ref (ad o0)), (1, .int x1), (2, .int x2), (3, .int x3)] → W p l e rm_M_clones s m ([.ref (ad o0), .int x1] : List Value).toArray below meth c H locs 0 0 (MQ below (ow_Qi G D cA ad Q) ([.ref (ad o0), .int x1] : List Value).toArray s 0 0 (ow_A G ad)) (F0 m 40 ls []) := by
    intro   K40 hK40 M x2 x3 H locs ls h hB hl
    refine lv_iload_n hx hb dc_M_clones_40 rfl (lv_at hl 3 rfl) ?_
    refine lv_aload_n hx hb dc_M_clones_41 rfl (lv_at hl 0 rfl) ?_
    refine ow_get hx hb hts iw_M hown hB k0 rfl 2 (by decide) mw_799 rfl dc_M_clones_42 ?_
    obtain ⟨h1, h2⟩ := h
    refine lv_icmp_ge hx hb dc_M_clones_45 rfl (fun hc => ?_) (fun hc => ?_)
    · have h := h1 hc
      refine lv_iload_n hx hb dc_M_clones_182 rfl (lv_at hl 2 rfl) ?_
      obtain ⟨hz, h⟩ := h
      exact ow_zret hx hb hr hlocks hz hB h dc_M_clones_183
    · have h := h2 hc
      refine lv_iconst (v := 0) hx hb dc_M_clones_48 rfl ?_
      refine lv_istore hx hb dc_M_clones_49 hl (by decide) rfl (fun ls hl => ?_)
      refine lv_iconst (v := 0) hx hb dc_M_clones_51 rfl ?_
      refine lv_istore hx hb dc_M_clones_52 hl (by decide) rfl (fun ls hl => ?_)
      exact L54 _ _ K40 hK40 _ _ _ _ _ _ h hB (lv_sub hl [2, 3, 4, 5, 1, 0] rfl)
  have L40 : ∀   (M : om_M) (x2 : Int32) (x3 : Int32) (H : Heap) (locs : List Loc) (ls : Array Slot), wp_M_clones_40 F o0 x1 Q   M x2 x3 → ow_B G D cA ad (ow_A G ad) M s s.heap H locs → lv_has ls 8 [(0, .ref (ad o0)), (1, .int x1), (2, .int x2), (3, .int x3)] → W p l e rm_M_clones s m ([.ref (ad o0), .int x1] : List Value).toArray below meth c H locs 0 0 (MQ below (ow_Qi G D cA ad Q) ([.ref (ad o0), .int x1] : List Value).toArray s 0 0 (ow_A G ad)) (F0 m 40 ls []) := by
    have step : ∀ (k : Nat) (M : om_M) (x2 : Int32) (x3 : Int32) (H : Heap) (locs : List Loc) (ls : Array Slot), ow_lp (fun (z : om_M × Int32 × Int32) K => wp_M_clones_40b F o0 x1 Q   K z.1 z.2.1 z.2.2) k (M, x2, x3) → ow_B G D cA ad (ow_A G ad) M s s.heap H locs → lv_has ls 8 [(0, .ref (ad o0)), (1, .int x1), (2, .int x2), (3, .int x3)] → W p l e rm_M_clones s m ([.ref (ad o0), .int x1] : List Value).toArray below meth c H locs 0 0 (MQ below (ow_Qi G D cA ad Q) ([.ref (ad o0), .int x1] : List Value).toArray s 0 0 (ow_A G ad)) (F0 m 40 ls []) := by
      intro k
      induction k with
      | zero => intro M x2 x3 H locs ls h hB hl; exact False.elim h
      | succ k ih => intro M x2 x3 H locs ls h hB hl; exact B40   (ow_lp _ k) (fun M x2 x3 H locs ls h hB  hl => ih M x2 x3  H locs ls h hB hl) M x2 x3 H locs ls h hB hl
    intro M x2 x3 H locs ls h hB hl
    exact step F M x2 x3 H locs ls h hB hl
  have L27 : ∀   (M : om_M)  (t0 : Nat) (t1 : Int32) (kt0 : ow_kd G t0 = (3, 9)) (H : Heap) (locs : List Loc) (ls : Array Slot), wp_M_clones_27 F o0 x1 Q   M  t0 t1 → ow_B G D cA ad (ow_A G ad) M s s.heap H locs → lv_has ls 8 [(0, .ref (ad o0)), (1, .int x1)] → W p l e rm_M_clones s m ([.ref (ad o0), .int x1] : List Value).toArray below meth c H locs 0 0 (MQ below (ow_Qi G D cA ad Q) ([.ref (ad o0), .int x1] : List Value).toArray s 0 0 (ow_A G ad)) (F0 m 27 ls [.int t1, .ref (ad t0)]) := by
    intro   M t0 t1 kt0 H locs ls h hB hl
    refine lv_iconst (v := 1) hx hb dc_M_clones_27 rfl ?_
    refine ow_calli (va_runV (As := [.int t1, .int 1]) (rest := []) ⟨hx, hb, hml, hown, hts⟩ (ct_M_goes l G hG D cA ad F _ kt0 _ _ _ _ h) ⟨ow_cb 2 hts mw_885 mw_12 mw_882 rfl rfl hd_M_goes ⟨Nat.le_of_ble_eq_true rfl, Nat.le_of_ble_eq_true rfl⟩, hts _ mw_884, hts _ ms_18⟩ (ow_preV hB kt0 rfl) rfl rfl hl.1 rfl (lv_room (Nat.le_of_ble_eq_true rfl)) dc_M_clones_28 ⟨Nat.zero_le _, Nat.zero_le _⟩) hB (fun r5 M4 H locs h hB => ?_)
    obtain ⟨h1, h2⟩ := h
    refine lv_if_ne hx hb dc_M_clones_31 rfl (fun hc => ?_) (fun hc => ?_)
    · have h := h2 hc
      refine lv_iconst (v := 1) hx hb dc_M_clones_36 rfl ?_
      refine lv_istore_n hx hb dc_M_clones_37 rfl hl (by decide) rfl (fun ls hl => ?_)
      refine lv_iconst (v := 0) hx hb dc_M_clones_38 rfl ?_
      refine lv_istore_n hx hb dc_M_clones_39 rfl hl (by decide) rfl (fun ls hl => ?_)
      exact L40 _ _ _ _ _ _ h hB (lv_sub hl [2, 3, 1, 0] rfl)
    · have h := h1 hc
      refine lv_iconst (v := 0) hx hb dc_M_clones_34 rfl ?_
      exact ow_zret hx hb hr hlocks (by decide) hB h dc_M_clones_35
  have L26 : ∀   (M : om_M)  (t0 : Nat) (kt0 : ow_kd G t0 = (3, 9)) (H : Heap) (locs : List Loc) (ls : Array Slot), wp_M_clones_26 F o0 x1 Q   M  t0 → ow_B G D cA ad (ow_A G ad) M s s.heap H locs → lv_has ls 8 [(0, .ref (ad o0)), (1, .int x1)] → W p l e rm_M_clones s m ([.ref (ad o0), .int x1] : List Value).toArray below meth c H locs 0 0 (MQ below (ow_Qi G D cA ad Q) ([.ref (ad o0), .int x1] : List Value).toArray s 0 0 (ow_A G ad)) (F0 m 26 ls [.ref (ad t0)]) := by
    intro   M t0 kt0 H locs ls h hB hl
    refine lv_iconst (v := 0) hx hb dc_M_clones_26 rfl ?_
    exact L27 _ _ _ kt0 _ _ _ h hB (lv_sub hl [0, 1] rfl)
  have hl := lv_entry ([.ref (ad o0), .int x1]) (n := 8) (Nat.le_of_ble_eq_true rfl)
  rw [lg_entry_eq]
  generalize (lg_sl ([.ref (ad o0), .int x1]) ++ List.replicate (8 - (lg_sl ([.ref (ad o0), .int x1])).length) Slot.unset).toArray = ls at hl ⊢
  have hl : lv_has ls 8 [(0, .ref (ad o0)), (1, .int x1)] := hl
  show W p l e rm_M_clones s m _ below meth c s.heap [] 0 0 _ _
  refine lv_aload_n hx hb dc_M_clones_0 rfl (lv_at hl 0 rfl) ?_
  refine lv_iload_n hx hb dc_M_clones_1 rfl (lv_at hl 1 rfl) ?_
  obtain ⟨h1, h2⟩ := h
  refine lv_if_le hx hb dc_M_clones_2 rfl (fun hc => ?_) (fun hc => ?_)
  · have h := h1 hc
    exact L26 _ _ k0 _ _ _ h hB (lv_sub hl [0, 1] rfl)
  · have h := h2 hc
    refine lv_iload_n hx hb dc_M_clones_5 rfl (lv_at hl 1 rfl) ?_
    refine lv_iconst (v := 1) hx hb dc_M_clones_6 rfl ?_
    refine lv_aload_n hx hb dc_M_clones_7 rfl (lv_at hl 0 rfl) ?_
    refine ow_get hx hb hts iw_M hown hB k0 rfl 1 (by decide) mw_798 rfl dc_M_clones_8 ?_
    refine lv_ishl hx hb dc_M_clones_11 ?_
    obtain ⟨h1, h2⟩ := h
    refine lv_icmp_ge hx hb dc_M_clones_12 rfl (fun hc => ?_) (fun hc => ?_)
    · have h := h1 hc
      exact L26 _ _ k0 _ _ _ h hB (lv_sub hl [0, 1] rfl)
    · have h := h2 hc
      refine lv_iload_n hx hb dc_M_clones_15 rfl (lv_at hl 1 rfl) ?_
      refine ow_calli (va_runS (As := [.int x1]) (rest := [.ref (ad o0)]) ⟨hx, hb, hml, hown, hts⟩ (ct_M_single l G hG D cA ad F _ _ _ h) ⟨ow_cb 1 hts mw_981 mw_12 mw_979 rfl rfl hd_M_single ⟨Nat.le_of_ble_eq_true rfl, Nat.le_of_ble_eq_true rfl⟩, hts _ mw_980⟩ (ow_preS hB) rfl rfl hl.1 rfl (lv_room (Nat.le_of_ble_eq_true rfl)) dc_M_clones_16 ⟨Nat.zero_le _, Nat.zero_le _⟩) hB (fun r7 M6 H locs h hB => ?_)
      obtain ⟨h1, h2⟩ := h
      refine lv_if_ne hx hb dc_M_clones_19 rfl (fun hc => ?_) (fun hc => ?_)
      · have h := h2 hc
        exact L26 _ _ k0 _ _ _ h hB (lv_sub hl [0, 1] rfl)
      · have h := h1 hc
        refine lv_iconst (v := 1) hx hb dc_M_clones_22 rfl ?_
        refine lv_goto hx hb dc_M_clones_23 rfl ?_
        exact L27 _ _ _ k0 _ _ _ h hB (lv_sub hl [0, 1] rfl)
abbrev rm_M_count : Room := { frames := 1, cells := 0, slots := 0, locals := 22 }
theorem hd_M_count : yn_M_count.cls ≠ "java/lang/invoke/MethodHandle" ∧ yn_M_count.cls ≠ "java/lang/invoke/VarHandle" ∧ (parseMethodDescriptor yn_M_count.desc).map (fun d => d.parameters.length) = some 1 := by decide +kernel
set_option maxHeartbeats 4000000 in
set_option maxRecDepth 100000 in
theorem ct_M_count (l : Launch) (G : List (Nat × Nat)) (hG : ow_lay G) (D : va_G) (cA : Nat → ClassId) (ad : Nat → Nat) (F : Nat) (o0 : Nat) (k0 : ow_kd G o0 = (3, 9)) (x1 : Int32) (M : om_M) (Q : Int32 → om_M → Prop) (h : wp_M_count F o0 x1 M Q) : Met l yn_M_count (ow_ws yn_M_count cb_M_count 4 (some .int)) rm_M_count (ow_Pc G D cA ad M [.ref (ad o0), .int x1]) (ow_Qi G D cA ad Q) 0 0 (ow_A G ad) := by
  refine Met.ofW (cc := cb_M_count) (maxL := 4) (ret := (some .int)) (by decide) rfl ?_
  intro p e s m args below meth c s₁ B hml hv
  obtain ⟨rfl, hB⟩ := hv
  have hx := B.exec
  have hb := B.bytes
  have hr := B.returns
  have hlocks := B.notSynchronized
  have hts : ∀ w ∈ lw_g, w.before ([.ref (ad o0), .int x1] : List Value).toArray s = true := fun w h => atoms_spec (ws := ow_ws yn_M_count cb_M_count 4 (some .int)) B.pre w (List.mem_cons_of_mem _ h)
  have hown : s.vm.findClass "BallotDeskModel" = some m.cls := findClass_of_methodNamed B.named
  clear B
  have L43 : ∀   (M : om_M) (x2 : Int32)  (H : Heap) (locs : List Loc) (ls : Array Slot), wp_M_count_43 F o0 x1 Q   M x2  → ow_B G D cA ad (ow_A G ad) M s s.heap H locs → lv_has ls 4 [(0, .ref (ad o0)), (1, .int x1), (2, .int x2)] → W p l e rm_M_count s m ([.ref (ad o0), .int x1] : List Value).toArray below meth c H locs 0 0 (MQ below (ow_Qi G D cA ad Q) ([.ref (ad o0), .int x1] : List Value).toArray s 0 0 (ow_A G ad)) (F0 m 43 ls []) := by
    intro   M x2 H locs ls h hB hl
    refine lv_iload_n hx hb dc_M_count_43 rfl (lv_at hl 1 rfl) ?_
    obtain ⟨h1, h2⟩ := h
    refine lv_if_ne hx hb dc_M_count_44 rfl (fun hc => ?_) (fun hc => ?_)
    · have h := h2 hc
      refine lv_iload_n hx hb dc_M_count_54 rfl (lv_at hl 1 rfl) ?_
      refine lv_iconst (v := 1) hx hb dc_M_count_55 rfl ?_
      obtain ⟨h1, h2⟩ := h
      refine lv_icmp_ne hx hb dc_M_count_56 rfl (fun hc => ?_) (fun hc => ?_)
      · have h := h2 hc
        refine lv_iload_n hx hb dc_M_count_66 rfl (lv_at hl 2 rfl) ?_
        exact ow_iret hx hb hr hlocks hB h dc_M_count_67
      · have h := h1 hc
        refine lv_aload_n hx hb dc_M_count_59 rfl (lv_at hl 0 rfl) ?_
        refine ow_get hx hb hts iw_M hown hB k0 rfl 2 (by decide) mw_799 rfl dc_M_count_60 ?_
        refine lv_goto hx hb dc_M_count_63 rfl ?_
        exact ow_iret hx hb hr hlocks hB h dc_M_count_67
    · have h := h1 hc
      refine lv_aload_n hx hb dc_M_count_47 rfl (lv_at hl 0 rfl) ?_
      refine ow_get hx hb hts iw_M hown hB k0 rfl 1 (by decide) mw_798 rfl dc_M_count_48 ?_
      refine lv_goto hx hb dc_M_count_51 rfl ?_
      exact ow_iret hx hb hr hlocks hB h dc_M_count_67
  have B20 : ∀   (K20 : om_M × Int32 × Int32 → Prop) (hK20 : ∀ (M : om_M) (x2 : Int32) (x3 : Int32) (H : Heap) (locs : List Loc) (ls : Array Slot), K20 (M, x2, x3) → ow_B G D cA ad (ow_A G ad) M s s.heap H locs → lv_has ls 4 [(0, .ref (ad o0)), (1, .int x1), (2, .int x2), (3, .int x3)] → W p l e rm_M_count s m ([.ref (ad o0), .int x1] : List Value).toArray below meth c H locs 0 0 (MQ below (ow_Qi G D cA ad Q) ([.ref (ad o0), .int x1] : List Value).toArray s 0 0 (ow_A G ad)) (F0 m 20 ls [])) (M : om_M) (x2 : Int32) (x3 : Int32) (H : Heap) (locs : List Loc) (ls : Array Slot), wp_M_count_20b F o0 x1 Q   K20 M x2 x3 → ow_B G D cA ad (ow_A G ad) M s s.heap H locs → lv_has ls 4 [(0, .ref (ad o0)), (1, .int x1), (2, .int x2), (3, .int x3)] → W p l e rm_M_count s m ([.ref (ad o0), .int x1] : List Value).toArray below meth c H locs 0 0 (MQ below (ow_Qi G D cA ad Q) ([.ref (ad o0), .int x1] : List Value).toArray s 0 0 (ow_A G ad)) (F0 m 20 ls []) := by
    intro   K20 hK20 M x2 x3 H locs ls h hB hl
    refine lv_iload_n hx hb dc_M_count_20 rfl (lv_at hl 3 rfl) ?_
    refine lv_aload_n hx hb dc_M_count_21 rfl (lv_at hl 0 rfl) ?_
    refine ow_get hx hb hts iw_M hown hB k0 rfl 2 (by decide) mw_799 rfl dc_M_count_22 ?_
    obtain ⟨h1, h2⟩ := h
    refine lv_icmp_ge hx hb dc_M_count_25 rfl (fun hc => ?_) (fun hc => ?_)
    · have h := h1 hc
      exact L43 _ _ _ _ _ h hB (lv_sub hl [0, 1, 2] rfl)
    · have h := h2 hc
      refine lv_iload_n hx hb dc_M_count_28 rfl (lv_at hl 2 rfl) ?_
      refine lv_aload_n hx hb dc_M_count_29 rfl (lv_at hl 0 rfl) ?_
      refine ow_get hx hb hts iw_M hown hB k0 rfl 4 (by decide) mw_801 rfl dc_M_count_30 ?_
      refine lv_iload_n hx hb dc_M_count_33 rfl (lv_at hl 3 rfl) ?_
      obtain ⟨hi1, h⟩ := h
      refine ow_iald hx hb hB (ly_M_amounts hG k0) hi1 dc_M_count_34 ?_
      refine lv_iadd hx hb dc_M_count_35 ?_
      refine lv_istore_n hx hb dc_M_count_36 rfl hl (by decide) rfl (fun ls hl => ?_)
      refine lv_iinc hx hb dc_M_count_37 hl (k := 3) rfl rfl (by decide) rfl (fun ls hl => ?_)
      refine lv_goto hx hb dc_M_count_40 rfl ?_
      exact hK20 _ _ _ _ _ _ h hB (lv_sub hl [2, 3, 1, 0] rfl)
  have L20 : ∀   (M : om_M) (x2 : Int32) (x3 : Int32) (H : Heap) (locs : List Loc) (ls : Array Slot), wp_M_count_20 F o0 x1 Q   M x2 x3 → ow_B G D cA ad (ow_A G ad) M s s.heap H locs → lv_has ls 4 [(0, .ref (ad o0)), (1, .int x1), (2, .int x2), (3, .int x3)] → W p l e rm_M_count s m ([.ref (ad o0), .int x1] : List Value).toArray below meth c H locs 0 0 (MQ below (ow_Qi G D cA ad Q) ([.ref (ad o0), .int x1] : List Value).toArray s 0 0 (ow_A G ad)) (F0 m 20 ls []) := by
    have step : ∀ (k : Nat) (M : om_M) (x2 : Int32) (x3 : Int32) (H : Heap) (locs : List Loc) (ls : Array Slot), ow_lp (fun (z : om_M × Int32 × Int32) K => wp_M_count_20b F o0 x1 Q   K z.1 z.2.1 z.2.2) k (M, x2, x3) → ow_B G D cA ad (ow_A G ad) M s s.heap H locs → lv_has ls 4 [(0, .ref (ad o0)), (1, .int x1), (2, .int x2), (3, .int x3)] → W p l e rm_M_count s m ([.ref (ad o0), .int x1] : List Value).toArray below meth c H locs 0 0 (MQ below (ow_Qi G D cA ad Q) ([.ref (ad o0), .int x1] : List Value).toArray s 0 0 (ow_A G ad)) (F0 m 20 ls []) := by
      intro k
      induction k with
      | zero => intro M x2 x3 H locs ls h hB hl; exact False.elim h
      | succ k ih => intro M x2 x3 H locs ls h hB hl; exact B20   (ow_lp _ k) (fun M x2 x3 H locs ls h hB  hl => ih M x2 x3  H locs ls h hB hl) M x2 x3 H locs ls h hB hl
    intro M x2 x3 H locs ls h hB hl
    exact step F M x2 x3 H locs ls h hB hl
  have hl := lv_entry ([.ref (ad o0), .int x1]) (n := 4) (Nat.le_of_ble_eq_true rfl)
  rw [lg_entry_eq]
  generalize (lg_sl ([.ref (ad o0), .int x1]) ++ List.replicate (4 - (lg_sl ([.ref (ad o0), .int x1])).length) Slot.unset).toArray = ls at hl ⊢
  have hl : lv_has ls 4 [(0, .ref (ad o0)), (1, .int x1)] := hl
  show W p l e rm_M_count s m _ below meth c s.heap [] 0 0 _ _
  refine lv_aload_n hx hb dc_M_count_0 rfl (lv_at hl 0 rfl) ?_
  refine lv_iload_n hx hb dc_M_count_1 rfl (lv_at hl 1 rfl) ?_
  refine lv_iconst (v := 0) hx hb dc_M_count_2 rfl ?_
  refine lv_iconst (v := 2) hx hb dc_M_count_3 rfl ?_
  refine ow_calli (va_runS (As := [.int x1, .int 0, .int 2]) (rest := [.ref (ad o0)]) ⟨hx, hb, hml, hown, hts⟩ (ct_M_within l G hG D cA ad F _ _ _ _ _ h) ⟨ow_cb 3 hts mw_881 mw_12 mw_879 rfl rfl hd_M_within ⟨Nat.le_of_ble_eq_true rfl, Nat.le_of_ble_eq_true rfl⟩, hts _ mw_880⟩ (ow_preS hB) rfl rfl hl.1 rfl (lv_room (Nat.le_of_ble_eq_true rfl)) dc_M_count_4 ⟨Nat.zero_le _, Nat.zero_le _⟩) hB (fun r3 M2 H locs h hB => ?_)
  refine lv_iconst (v := 1) hx hb dc_M_count_7 rfl ?_
  refine ow_calli (va_runV (As := [.int r3, .int 1]) (rest := []) ⟨hx, hb, hml, hown, hts⟩ (ct_M_goes l G hG D cA ad F _ k0 _ _ _ _ h) ⟨ow_cb 2 hts mw_885 mw_12 mw_882 rfl rfl hd_M_goes ⟨Nat.le_of_ble_eq_true rfl, Nat.le_of_ble_eq_true rfl⟩, hts _ mw_884, hts _ ms_18⟩ (ow_preV hB k0 rfl) rfl rfl hl.1 rfl (lv_room (Nat.le_of_ble_eq_true rfl)) dc_M_count_8 ⟨Nat.zero_le _, Nat.zero_le _⟩) hB (fun r5 M4 H locs h hB => ?_)
  obtain ⟨h1, h2⟩ := h
  refine lv_if_ne hx hb dc_M_count_11 rfl (fun hc => ?_) (fun hc => ?_)
  · have h := h2 hc
    refine lv_iconst (v := 0) hx hb dc_M_count_16 rfl ?_
    refine lv_istore_n hx hb dc_M_count_17 rfl hl (by decide) rfl (fun ls hl => ?_)
    refine lv_iconst (v := 0) hx hb dc_M_count_18 rfl ?_
    refine lv_istore_n hx hb dc_M_count_19 rfl hl (by decide) rfl (fun ls hl => ?_)
    exact L20 _ _ _ _ _ _ h hB (lv_sub hl [2, 3, 1, 0] rfl)
  · have h := h1 hc
    refine lv_iconst (v := 0) hx hb dc_M_count_14 rfl ?_
    exact ow_iret hx hb hr hlocks hB h dc_M_count_15
