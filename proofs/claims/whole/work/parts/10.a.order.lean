def wp_JI_bitCount (F : Nat) (x0 : Int32) (M : om_M) (Q : Int32 → om_M → Prop) : Prop := Q ((((((((x0 - (((x0.toUInt32 >>> (Int32.toUInt32 1 &&& Int32.toUInt32 31)).toInt32) &&& 1431655765)) &&& 858993459) + ((((x0 - (((x0.toUInt32 >>> (Int32.toUInt32 1 &&& Int32.toUInt32 31)).toInt32) &&& 1431655765)).toUInt32 >>> (Int32.toUInt32 2 &&& Int32.toUInt32 31)).toInt32) &&& 858993459)) + (((((x0 - (((x0.toUInt32 >>> (Int32.toUInt32 1 &&& Int32.toUInt32 31)).toInt32) &&& 1431655765)) &&& 858993459) + ((((x0 - (((x0.toUInt32 >>> (Int32.toUInt32 1 &&& Int32.toUInt32 31)).toInt32) &&& 1431655765)).toUInt32 >>> (Int32.toUInt32 2 &&& Int32.toUInt32 31)).toInt32) &&& 858993459)).toUInt32 >>> (Int32.toUInt32 4 &&& Int32.toUInt32 31)).toInt32)) &&& 252645135) + (((((((x0 - (((x0.toUInt32 >>> (Int32.toUInt32 1 &&& Int32.toUInt32 31)).toInt32) &&& 1431655765)) &&& 858993459) + ((((x0 - (((x0.toUInt32 >>> (Int32.toUInt32 1 &&& Int32.toUInt32 31)).toInt32) &&& 1431655765)).toUInt32 >>> (Int32.toUInt32 2 &&& Int32.toUInt32 31)).toInt32) &&& 858993459)) + (((((x0 - (((x0.toUInt32 >>> (Int32.toUInt32 1 &&& Int32.toUInt32 31)).toInt32) &&& 1431655765)) &&& 858993459) + ((((x0 - (((x0.toUInt32 >>> (Int32.toUInt32 1 &&& Int32.toUInt32 31)).toInt32) &&& 1431655765)).toUInt32 >>> (Int32.toUInt32 2 &&& Int32.toUInt32 31)).toInt32) &&& 858993459)).toUInt32 >>> (Int32.toUInt32 4 &&& Int32.toUInt32 31)).toInt32)) &&& 252645135).toUInt32 >>> (Int32.toUInt32 8 &&& Int32.toUInt32 31)).toInt32)) + ((((((((x0 - (((x0.toUInt32 >>> (Int32.toUInt32 1 &&& Int32.toUInt32 31)).toInt32) &&& 1431655765)) &&& 858993459) + ((((x0 - (((x0.toUInt32 >>> (Int32.toUInt32 1 &&& Int32.toUInt32 31)).toInt32) &&& 1431655765)).toUInt32 >>> (Int32.toUInt32 2 &&& Int32.toUInt32 31)).toInt32) &&& 858993459)) + (((((x0 - (((x0.toUInt32 >>> (Int32.toUInt32 1 &&& Int32.toUInt32 31)).toInt32) &&& 1431655765)) &&& 858993459) + ((((x0 - (((x0.toUInt32 >>> (Int32.toUInt32 1 &&& Int32.toUInt32 31)).toInt32) &&& 1431655765)).toUInt32 >>> (Int32.toUInt32 2 &&& Int32.toUInt32 31)).toInt32) &&& 858993459)).toUInt32 >>> (Int32.toUInt32 4 &&& Int32.toUInt32 31)).toInt32)) &&& 252645135) + (((((((x0 - (((x0.toUInt32 >>> (Int32.toUInt32 1 &&& Int32.toUInt32 31)).toInt32) &&& 1431655765)) &&& 858993459) + ((((x0 - (((x0.toUInt32 >>> (Int32.toUInt32 1 &&& Int32.toUInt32 31)).toInt32) &&& 1431655765)).toUInt32 >>> (Int32.toUInt32 2 &&& Int32.toUInt32 31)).toInt32) &&& 858993459)) + (((((x0 - (((x0.toUInt32 >>> (Int32.toUInt32 1 &&& Int32.toUInt32 31)).toInt32) &&& 1431655765)) &&& 858993459) + ((((x0 - (((x0.toUInt32 >>> (Int32.toUInt32 1 &&& Int32.toUInt32 31)).toInt32) &&& 1431655765)).toUInt32 >>> (Int32.toUInt32 2 &&& Int32.toUInt32 31)).toInt32) &&& 858993459)).toUInt32 >>> (Int32.toUInt32 4 &&& Int32.toUInt32 31)).toInt32)) &&& 252645135).toUInt32 >>> (Int32.toUInt32 8 &&& Int32.toUInt32 31)).toInt32)).toUInt32 >>> (Int32.toUInt32 16 &&& Int32.toUInt32 31)).toInt32)) &&& 63) M
def wp_JA_fill_5b (F : Nat) (o0 : Nat) (n0 : Nat) (x1 : Int32) (Q : om_M → Prop) (x3 : Int32)  (K5 : om_M × Int32 → Prop) (M : om_M) (x2 : Int32) : Prop := ((x3 ≤ x2 → Q M) ∧ (¬ x3 ≤ x2 → vp_in x2 n0 ∧ K5 (om_up M o0 x2.toNatClampNeg x1, x2 + 1)))
def wp_JA_fill_5 (F : Nat) (o0 : Nat) (n0 : Nat) (x1 : Int32) (Q : om_M → Prop) (x3 : Int32)  (M : om_M) (x2 : Int32) : Prop := ow_lp (fun (z : om_M × Int32) K => wp_JA_fill_5b F o0 n0 x1 Q x3  K z.1 z.2) F (M, x2)
def wp_JA_fill (F : Nat) (o0 : Nat) (n0 : Nat) (x1 : Int32) (M : om_M) (Q : om_M → Prop) : Prop := wp_JA_fill_5 F o0 n0 x1 Q (Int32.ofNat n0) M 0
def wp_O_at (F : Nat) (x0 : Int32) (x1 : Int32) (M : om_M) (Q : Int32 → om_M → Prop) : Prop := Q ((x0 >>> (((3 : Int32) * x1) &&& 31)) &&& 7) M
def wp_O_isOne_39 (F : Nat) (x0 : Int32) (x1 : Int32) (Q : Int32 → om_M → Prop)   (M : om_M) (x2 : Int32)  : Prop := ((x2 = (((1 : Int32) <<< (x1 &&& 31)) - 1) → Q 1 M) ∧ (¬ x2 = (((1 : Int32) <<< (x1 &&& 31)) - 1) → Q 0 M))
def wp_O_isOne_18b (F : Nat) (x0 : Int32) (x1 : Int32) (Q : Int32 → om_M → Prop)   (K18 : om_M × Int32 × Int32 → Prop) (M : om_M) (x2 : Int32) (x3 : Int32) : Prop := ((x1 ≤ x3 → wp_O_isOne_39 F x0 x1 Q M x2) ∧ (¬ x1 ≤ x3 → wp_O_at F x0 x3 M (fun r2 M1 => K18 (M1, x2 ||| ((1 : Int32) <<< (r2 &&& 31)), x3 + 1))))
def wp_O_isOne_18 (F : Nat) (x0 : Int32) (x1 : Int32) (Q : Int32 → om_M → Prop)   (M : om_M) (x2 : Int32) (x3 : Int32) : Prop := ow_lp (fun (z : om_M × Int32 × Int32) K => wp_O_isOne_18b F x0 x1 Q   K z.1 z.2.1 z.2.2) F (M, x2, x3)
def wp_O_isOne (F : Nat) (x0 : Int32) (x1 : Int32) (M : om_M) (Q : Int32 → om_M → Prop) : Prop := ((x0 < 0 → Q 0 M) ∧ (¬ x0 < 0 → (((x0 >>> (((3 : Int32) * x1) &&& 31)) = 0 → wp_O_isOne_18 F x0 x1 Q M 0 0) ∧ (¬ (x0 >>> (((3 : Int32) * x1) &&& 31)) = 0 → Q 0 M))))
def wp_O_ascending_4b (F : Nat) (x0 : Int32) (Q : Int32 → om_M → Prop)   (K4 : om_M × Int32 × Int32 → Prop) (M : om_M) (x1 : Int32) (x2 : Int32) : Prop := ((x0 ≤ x2 → Q x1 M) ∧ (¬ x0 ≤ x2 → K4 (M, x1 ||| (x2 <<< (((3 : Int32) * x2) &&& 31)), x2 + 1)))
def wp_O_ascending_4 (F : Nat) (x0 : Int32) (Q : Int32 → om_M → Prop)   (M : om_M) (x1 : Int32) (x2 : Int32) : Prop := ow_lp (fun (z : om_M × Int32 × Int32) K => wp_O_ascending_4b F x0 Q   K z.1 z.2.1 z.2.2) F (M, x1, x2)
def wp_O_ascending (F : Nat) (x0 : Int32) (M : om_M) (Q : Int32 → om_M → Prop) : Prop := wp_O_ascending_4 F x0 Q M 0 0
def wp_O_placeOf_2b (F : Nat) (x0 : Int32) (x1 : Int32) (x2 : Int32) (Q : Int32 → om_M → Prop)   (K2 : om_M × Int32 → Prop) (M : om_M) (x3 : Int32) : Prop := ((x2 ≤ x3 → Q x2 M) ∧ (¬ x2 ≤ x3 → wp_O_at F x0 x3 M (fun r2 M1 => ((r2 = x1 → Q x3 M1) ∧ (¬ r2 = x1 → K2 (M1, x3 + 1))))))
def wp_O_placeOf_2 (F : Nat) (x0 : Int32) (x1 : Int32) (x2 : Int32) (Q : Int32 → om_M → Prop)   (M : om_M) (x3 : Int32) : Prop := ow_lp (fun (z : om_M × Int32) K => wp_O_placeOf_2b F x0 x1 x2 Q   K z.1 z.2) F (M, x3)
def wp_O_placeOf (F : Nat) (x0 : Int32) (x1 : Int32) (x2 : Int32) (M : om_M) (Q : Int32 → om_M → Prop) : Prop := wp_O_placeOf_2 F x0 x1 x2 Q M 0
def wp_O_raised (F : Nat) (x0 : Int32) (x1 : Int32) (x2 : Int32) (M : om_M) (Q : Int32 → om_M → Prop) : Prop := wp_O_placeOf F x0 x1 x2 M (fun r2 M1 => ((r2 = 0 → Q x0 M1) ∧ (¬ r2 = 0 → ((r2 = x2 → Q x0 M1) ∧ (¬ r2 = x2 → wp_O_at F x0 r2 M1 (fun r4 M3 => wp_O_at F x0 (r2 - 1) M3 (fun r6 M5 => Q ((x0 ^^^ ((r4 ^^^ r6) <<< (((3 : Int32) * r2) &&& 31))) ^^^ ((r4 ^^^ r6) <<< (((3 : Int32) * (r2 - 1)) &&& 31))) M5)))))))
def wp_O_numberWithout (F : Nat) (x0 : Int32) (x1 : Int32) (M : om_M) (Q : Int32 → om_M → Prop) : Prop := ((x0 ≤ x1 → Q x0 M) ∧ (¬ x0 ≤ x1 → Q (x0 - 1) M))
def wp_O_without_45 (F : Nat) (x0 : Int32) (x1 : Int32) (x2 : Int32) (Q : Int32 → om_M → Prop)  (K8 : om_M × Int32 × Int32 × Int32 → Prop) (M : om_M) (x3 : Int32) (x4 : Int32) (x5 : Int32)  : Prop := K8 (M, x3, x4, x5 + 1)
def wp_O_without_8b (F : Nat) (x0 : Int32) (x1 : Int32) (x2 : Int32) (Q : Int32 → om_M → Prop)   (K8 : om_M × Int32 × Int32 × Int32 → Prop) (M : om_M) (x3 : Int32) (x4 : Int32) (x5 : Int32) : Prop := ((x2 ≤ x5 → Q x3 M) ∧ (¬ x2 ≤ x5 → wp_O_at F x0 x5 M (fun r2 M1 => ((r2 = x1 → wp_O_without_45 F x0 x1 x2 Q K8 M1 x3 x4 x5) ∧ (¬ r2 = x1 → wp_O_numberWithout F r2 x1 M1 (fun r4 M3 => wp_O_without_45 F x0 x1 x2 Q K8 M3 (x3 ||| (r4 <<< (((3 : Int32) * x4) &&& 31))) (x4 + 1) x5))))))
def wp_O_without_8 (F : Nat) (x0 : Int32) (x1 : Int32) (x2 : Int32) (Q : Int32 → om_M → Prop)   (M : om_M) (x3 : Int32) (x4 : Int32) (x5 : Int32) : Prop := ow_lp (fun (z : om_M × Int32 × Int32 × Int32) K => wp_O_without_8b F x0 x1 x2 Q   K z.1 z.2.1 z.2.2.1 z.2.2.2) F (M, x3, x4, x5)
def wp_O_without (F : Nat) (x0 : Int32) (x1 : Int32) (x2 : Int32) (M : om_M) (Q : Int32 → om_M → Prop) : Prop := wp_O_without_8 F x0 x1 x2 Q M 0 0 0
def wp_O_standTogether_44 (F : Nat) (x0 : Int32) (x1 : Int32) (x2 : Int32) (Q : Int32 → om_M → Prop)   (M : om_M) (x3 : Int32) (x4 : Int32)  : Prop := wp_JI_bitCount F x1 M (fun r2 M1 => ((((x4 - x3) + 1) = r2 → Q 1 M1) ∧ (¬ ((x4 - x3) + 1) = r2 → Q 0 M1)))
def wp_O_standTogether_38 (F : Nat) (x0 : Int32) (x1 : Int32) (x2 : Int32) (Q : Int32 → om_M → Prop)  (K8 : om_M × Int32 × Int32 × Int32 → Prop) (M : om_M) (x3 : Int32) (x4 : Int32) (x5 : Int32)  : Prop := K8 (M, x3, x4, x5 + 1)
def wp_O_standTogether_8b (F : Nat) (x0 : Int32) (x1 : Int32) (x2 : Int32) (Q : Int32 → om_M → Prop)   (K8 : om_M × Int32 × Int32 × Int32 → Prop) (M : om_M) (x3 : Int32) (x4 : Int32) (x5 : Int32) : Prop := ((x2 ≤ x5 → wp_O_standTogether_44 F x0 x1 x2 Q M x3 x4) ∧ (¬ x2 ≤ x5 → wp_O_at F x0 x5 M (fun r4 M3 => ((((x1 >>> (r4 &&& 31)) &&& 1) = 0 → wp_O_standTogether_38 F x0 x1 x2 Q K8 M3 x3 x4 x5) ∧ (¬ ((x1 >>> (r4 &&& 31)) &&& 1) = 0 → wp_O_standTogether_38 F x0 x1 x2 Q K8 M3 (if x5 < x3 then x5 else x3) x5 x5)))))
def wp_O_standTogether_8 (F : Nat) (x0 : Int32) (x1 : Int32) (x2 : Int32) (Q : Int32 → om_M → Prop)   (M : om_M) (x3 : Int32) (x4 : Int32) (x5 : Int32) : Prop := ow_lp (fun (z : om_M × Int32 × Int32 × Int32) K => wp_O_standTogether_8b F x0 x1 x2 Q   K z.1 z.2.1 z.2.2.1 z.2.2.2) F (M, x3, x4, x5)
def wp_O_standTogether (F : Nat) (x0 : Int32) (x1 : Int32) (x2 : Int32) (M : om_M) (Q : Int32 → om_M → Prop) : Prop := wp_O_standTogether_8 F x0 x1 x2 Q M x2 0 0
abbrev rm_JI_bitCount : Room := { frames := 0, cells := 0, slots := 0, locals := 0 }
theorem hd_JI_bitCount : yn_JI_bitCount.cls ≠ "java/lang/invoke/MethodHandle" ∧ yn_JI_bitCount.cls ≠ "java/lang/invoke/VarHandle" ∧ (parseMethodDescriptor yn_JI_bitCount.desc).map (fun d => d.parameters.length) = some 1 := by decide +kernel
set_option maxHeartbeats 4000000 in
set_option maxRecDepth 100000 in
theorem ct_JI_bitCount (l : Launch) (G : List (Nat × Nat)) (hG : ow_lay G) (D : va_G) (cA : Nat → ClassId) (ad : Nat → Nat) (F : Nat) (x0 : Int32) (M : om_M) (Q : Int32 → om_M → Prop) (h : wp_JI_bitCount F x0 M Q) : Met l yn_JI_bitCount (ow_ws yn_JI_bitCount cb_JI_bitCount 1 (some .int)) rm_JI_bitCount (ow_Pc G D cA ad M [.int x0]) (ow_Qi G D cA ad Q) 0 0 (ow_A G ad) := by
  refine Met.ofW (cc := cb_JI_bitCount) (maxL := 1) (ret := (some .int)) (by decide) rfl ?_
  intro p e s m args below meth c s₁ B hml hv
  obtain ⟨rfl, hB⟩ := hv
  have hx := B.exec
  have hb := B.bytes
  have hr := B.returns
  have hlocks := B.notSynchronized
  have hts : ∀ w ∈ lw_g, w.before ([.int x0] : List Value).toArray s = true := fun w h => atoms_spec (ws := ow_ws yn_JI_bitCount cb_JI_bitCount 1 (some .int)) B.pre w (List.mem_cons_of_mem _ h)
  have hown : s.vm.findClass "java/lang/Integer" = some m.cls := findClass_of_methodNamed B.named
  clear B
  have hl := lv_entry ([.int x0]) (n := 1) (Nat.le_of_ble_eq_true rfl)
  rw [lg_entry_eq]
  generalize (lg_sl ([.int x0]) ++ List.replicate (1 - (lg_sl ([.int x0])).length) Slot.unset).toArray = ls at hl ⊢
  have hl : lv_has ls 1 [(0, .int x0)] := hl
  show W p l e rm_JI_bitCount s m _ below meth c s.heap [] 0 0 _ _
  refine lv_iload_n hx hb dc_JI_bitCount_0 rfl (lv_at hl 0 rfl) ?_
  refine lv_iload_n hx hb dc_JI_bitCount_1 rfl (lv_at hl 0 rfl) ?_
  refine lv_iconst (v := 1) hx hb dc_JI_bitCount_2 rfl ?_
  refine lv_iushr hx hb dc_JI_bitCount_3 rfl ?_
  refine lv_ldcw hx hb hown (hts _ mw_264) dc_JI_bitCount_4 ?_
  refine lv_iand hx hb dc_JI_bitCount_7 ?_
  refine lv_isub hx hb dc_JI_bitCount_8 ?_
  refine lv_istore_n hx hb dc_JI_bitCount_9 rfl hl (by decide) rfl (fun ls hl => ?_)
  refine lv_iload_n hx hb dc_JI_bitCount_10 rfl (lv_at hl 0 rfl) ?_
  refine lv_ldcw hx hb hown (hts _ mw_265) dc_JI_bitCount_11 ?_
  refine lv_iand hx hb dc_JI_bitCount_14 ?_
  refine lv_iload_n hx hb dc_JI_bitCount_15 rfl (lv_at hl 0 rfl) ?_
  refine lv_iconst (v := 2) hx hb dc_JI_bitCount_16 rfl ?_
  refine lv_iushr hx hb dc_JI_bitCount_17 rfl ?_
  refine lv_ldcw hx hb hown (hts _ mw_265) dc_JI_bitCount_18 ?_
  refine lv_iand hx hb dc_JI_bitCount_21 ?_
  refine lv_iadd hx hb dc_JI_bitCount_22 ?_
  refine lv_istore_n hx hb dc_JI_bitCount_23 rfl hl (by decide) rfl (fun ls hl => ?_)
  refine lv_iload_n hx hb dc_JI_bitCount_24 rfl (lv_at hl 0 rfl) ?_
  refine lv_iload_n hx hb dc_JI_bitCount_25 rfl (lv_at hl 0 rfl) ?_
  refine lv_iconst (v := 4) hx hb dc_JI_bitCount_26 rfl ?_
  refine lv_iushr hx hb dc_JI_bitCount_27 rfl ?_
  refine lv_iadd hx hb dc_JI_bitCount_28 ?_
  refine lv_ldcw hx hb hown (hts _ mw_266) dc_JI_bitCount_29 ?_
  refine lv_iand hx hb dc_JI_bitCount_32 ?_
  refine lv_istore_n hx hb dc_JI_bitCount_33 rfl hl (by decide) rfl (fun ls hl => ?_)
  refine lv_iload_n hx hb dc_JI_bitCount_34 rfl (lv_at hl 0 rfl) ?_
  refine lv_iload_n hx hb dc_JI_bitCount_35 rfl (lv_at hl 0 rfl) ?_
  refine lv_bipush (v := 8) hx hb dc_JI_bitCount_36 rfl ?_
  refine lv_iushr hx hb dc_JI_bitCount_38 rfl ?_
  refine lv_iadd hx hb dc_JI_bitCount_39 ?_
  refine lv_istore_n hx hb dc_JI_bitCount_40 rfl hl (by decide) rfl (fun ls hl => ?_)
  refine lv_iload_n hx hb dc_JI_bitCount_41 rfl (lv_at hl 0 rfl) ?_
  refine lv_iload_n hx hb dc_JI_bitCount_42 rfl (lv_at hl 0 rfl) ?_
  refine lv_bipush (v := 16) hx hb dc_JI_bitCount_43 rfl ?_
  refine lv_iushr hx hb dc_JI_bitCount_45 rfl ?_
  refine lv_iadd hx hb dc_JI_bitCount_46 ?_
  refine lv_istore_n hx hb dc_JI_bitCount_47 rfl hl (by decide) rfl (fun ls hl => ?_)
  refine lv_iload_n hx hb dc_JI_bitCount_48 rfl (lv_at hl 0 rfl) ?_
  refine lv_bipush (v := 63) hx hb dc_JI_bitCount_49 rfl ?_
  refine lv_iand hx hb dc_JI_bitCount_51 ?_
  exact ow_iret hx hb hr hlocks hB h dc_JI_bitCount_52
abbrev rm_JA_fill : Room := { frames := 0, cells := 0, slots := 0, locals := 0 }
theorem hd_JA_fill : yn_JA_fill.cls ≠ "java/lang/invoke/MethodHandle" ∧ yn_JA_fill.cls ≠ "java/lang/invoke/VarHandle" ∧ (parseMethodDescriptor yn_JA_fill.desc).map (fun d => d.parameters.length) = some 2 := by decide +kernel
set_option maxHeartbeats 4000000 in
set_option maxRecDepth 100000 in
theorem ct_JA_fill (l : Launch) (G : List (Nat × Nat)) (hG : ow_lay G) (D : va_G) (cA : Nat → ClassId) (ad : Nat → Nat) (F : Nat) (o0 : Nat) (n0 : Nat) (k0 : ow_kd G o0 = (0, n0)) (x1 : Int32) (M : om_M) (Q : om_M → Prop) (h : wp_JA_fill F o0 n0 x1 M Q) : Met l yn_JA_fill (ow_ws yn_JA_fill cb_JA_fill 4 none) rm_JA_fill (ow_Pc G D cA ad M [.ref (ad o0), .int x1]) (ow_Qv G D cA ad Q) 0 0 (ow_A G ad) := by
  refine Met.ofW (cc := cb_JA_fill) (maxL := 4) (ret := none) (by decide) rfl ?_
  intro p e s m args below meth c s₁ B hml hv
  obtain ⟨rfl, hB⟩ := hv
  have hx := B.exec
  have hb := B.bytes
  have hr := B.returns
  have hlocks := B.notSynchronized
  have hts : ∀ w ∈ lw_g, w.before ([.ref (ad o0), .int x1] : List Value).toArray s = true := fun w h => atoms_spec (ws := ow_ws yn_JA_fill cb_JA_fill 4 none) B.pre w (List.mem_cons_of_mem _ h)
  have hown : s.vm.findClass "java/util/Arrays" = some m.cls := findClass_of_methodNamed B.named
  clear B
  have B5 : ∀ (x3 : Int32)  (K5 : om_M × Int32 → Prop) (hK5 : ∀ (M : om_M) (x2 : Int32) (H : Heap) (locs : List Loc) (ls : Array Slot), K5 (M, x2) → ow_B G D cA ad (ow_A G ad) M s s.heap H locs → lv_has ls 4 [(0, .ref (ad o0)), (1, .int x1), (2, .int x2), (3, .int x3)] → W p l e rm_JA_fill s m ([.ref (ad o0), .int x1] : List Value).toArray below meth c H locs 0 0 (MQ below (ow_Qv G D cA ad Q) ([.ref (ad o0), .int x1] : List Value).toArray s 0 0 (ow_A G ad)) (F0 m 5 ls [])) (M : om_M) (x2 : Int32) (H : Heap) (locs : List Loc) (ls : Array Slot), wp_JA_fill_5b F o0 n0 x1 Q x3  K5 M x2 → ow_B G D cA ad (ow_A G ad) M s s.heap H locs → lv_has ls 4 [(0, .ref (ad o0)), (1, .int x1), (2, .int x2), (3, .int x3)] → W p l e rm_JA_fill s m ([.ref (ad o0), .int x1] : List Value).toArray below meth c H locs 0 0 (MQ below (ow_Qv G D cA ad Q) ([.ref (ad o0), .int x1] : List Value).toArray s 0 0 (ow_A G ad)) (F0 m 5 ls []) := by
    intro x3  K5 hK5 M x2 H locs ls h hB hl
    refine lv_iload_n hx hb dc_JA_fill_5 rfl (lv_at hl 2 rfl) ?_
    refine lv_iload_n hx hb dc_JA_fill_6 rfl (lv_at hl 3 rfl) ?_
    obtain ⟨h1, h2⟩ := h
    refine lv_icmp_ge hx hb dc_JA_fill_7 rfl (fun hc => ?_) (fun hc => ?_)
    · have h := h1 hc
      exact ow_vret hx hb hr hlocks hB h dc_JA_fill_20
    · have h := h2 hc
      refine lv_aload_n hx hb dc_JA_fill_10 rfl (lv_at hl 0 rfl) ?_
      refine lv_iload_n hx hb dc_JA_fill_11 rfl (lv_at hl 2 rfl) ?_
      refine lv_iload_n hx hb dc_JA_fill_12 rfl (lv_at hl 1 rfl) ?_
      obtain ⟨hi1, h⟩ := h
      refine ow_iast hx hb hB k0 hi1 dc_JA_fill_13 (fun H locs hB => ?_)
      refine lv_iinc hx hb dc_JA_fill_14 hl (k := 2) rfl rfl (by decide) rfl (fun ls hl => ?_)
      refine lv_goto hx hb dc_JA_fill_17 rfl ?_
      exact hK5 _ _ _ _ _ h hB (lv_sub hl [1, 2, 0, 3] rfl)
  have L5 : ∀ (x3 : Int32)  (M : om_M) (x2 : Int32) (H : Heap) (locs : List Loc) (ls : Array Slot), wp_JA_fill_5 F o0 n0 x1 Q x3  M x2 → ow_B G D cA ad (ow_A G ad) M s s.heap H locs → lv_has ls 4 [(0, .ref (ad o0)), (1, .int x1), (2, .int x2), (3, .int x3)] → W p l e rm_JA_fill s m ([.ref (ad o0), .int x1] : List Value).toArray below meth c H locs 0 0 (MQ below (ow_Qv G D cA ad Q) ([.ref (ad o0), .int x1] : List Value).toArray s 0 0 (ow_A G ad)) (F0 m 5 ls []) := by
    intro x3 
    have step : ∀ (k : Nat) (M : om_M) (x2 : Int32) (H : Heap) (locs : List Loc) (ls : Array Slot), ow_lp (fun (z : om_M × Int32) K => wp_JA_fill_5b F o0 n0 x1 Q x3  K z.1 z.2) k (M, x2) → ow_B G D cA ad (ow_A G ad) M s s.heap H locs → lv_has ls 4 [(0, .ref (ad o0)), (1, .int x1), (2, .int x2), (3, .int x3)] → W p l e rm_JA_fill s m ([.ref (ad o0), .int x1] : List Value).toArray below meth c H locs 0 0 (MQ below (ow_Qv G D cA ad Q) ([.ref (ad o0), .int x1] : List Value).toArray s 0 0 (ow_A G ad)) (F0 m 5 ls []) := by
      intro k
      induction k with
      | zero => intro M x2 H locs ls h hB hl; exact False.elim h
      | succ k ih => intro M x2 H locs ls h hB hl; exact B5 x3  (ow_lp _ k) (fun M x2 H locs ls h hB  hl => ih M x2  H locs ls h hB hl) M x2 H locs ls h hB hl
    intro M x2 H locs ls h hB hl
    exact step F M x2 H locs ls h hB hl
  have hl := lv_entry ([.ref (ad o0), .int x1]) (n := 4) (Nat.le_of_ble_eq_true rfl)
  rw [lg_entry_eq]
  generalize (lg_sl ([.ref (ad o0), .int x1]) ++ List.replicate (4 - (lg_sl ([.ref (ad o0), .int x1])).length) Slot.unset).toArray = ls at hl ⊢
  have hl : lv_has ls 4 [(0, .ref (ad o0)), (1, .int x1)] := hl
  show W p l e rm_JA_fill s m _ below meth c s.heap [] 0 0 _ _
  refine lv_iconst (v := 0) hx hb dc_JA_fill_0 rfl ?_
  refine lv_istore_n hx hb dc_JA_fill_1 rfl hl (by decide) rfl (fun ls hl => ?_)
  refine lv_aload_n hx hb dc_JA_fill_2 rfl (lv_at hl 1 rfl) ?_
  refine ow_alen (v := (Int32.ofNat n0)) hx hb hB k0 rfl dc_JA_fill_3 ?_
  refine lv_istore_n hx hb dc_JA_fill_4 rfl hl (by decide) rfl (fun ls hl => ?_)
  exact L5 _ _ _ _ _ _ h hB (lv_sub hl [2, 3, 1, 0] rfl)
abbrev rm_O_at : Room := { frames := 0, cells := 0, slots := 0, locals := 0 }
theorem hd_O_at : yn_O_at.cls ≠ "java/lang/invoke/MethodHandle" ∧ yn_O_at.cls ≠ "java/lang/invoke/VarHandle" ∧ (parseMethodDescriptor yn_O_at.desc).map (fun d => d.parameters.length) = some 2 := by decide +kernel
set_option maxHeartbeats 4000000 in
set_option maxRecDepth 100000 in
theorem ct_O_at (l : Launch) (G : List (Nat × Nat)) (hG : ow_lay G) (D : va_G) (cA : Nat → ClassId) (ad : Nat → Nat) (F : Nat) (x0 : Int32) (x1 : Int32) (M : om_M) (Q : Int32 → om_M → Prop) (h : wp_O_at F x0 x1 M Q) : Met l yn_O_at (ow_ws yn_O_at cb_O_at 2 (some .int)) rm_O_at (ow_Pc G D cA ad M [.int x0, .int x1]) (ow_Qi G D cA ad Q) 0 0 (ow_A G ad) := by
  refine Met.ofW (cc := cb_O_at) (maxL := 2) (ret := (some .int)) (by decide) rfl ?_
  intro p e s m args below meth c s₁ B hml hv
  obtain ⟨rfl, hB⟩ := hv
  have hx := B.exec
  have hb := B.bytes
  have hr := B.returns
  have hlocks := B.notSynchronized
  have hts : ∀ w ∈ lw_g, w.before ([.int x0, .int x1] : List Value).toArray s = true := fun w h => atoms_spec (ws := ow_ws yn_O_at cb_O_at 2 (some .int)) B.pre w (List.mem_cons_of_mem _ h)
  have hown : s.vm.findClass "BallotDesk$Order" = some m.cls := findClass_of_methodNamed B.named
  clear B
  have hl := lv_entry ([.int x0, .int x1]) (n := 2) (Nat.le_of_ble_eq_true rfl)
  rw [lg_entry_eq]
  generalize (lg_sl ([.int x0, .int x1]) ++ List.replicate (2 - (lg_sl ([.int x0, .int x1])).length) Slot.unset).toArray = ls at hl ⊢
  have hl : lv_has ls 2 [(0, .int x0), (1, .int x1)] := hl
  show W p l e rm_O_at s m _ below meth c s.heap [] 0 0 _ _
  refine lv_iload_n hx hb dc_O_at_0 rfl (lv_at hl 0 rfl) ?_
  refine lv_iconst (v := 3) hx hb dc_O_at_1 rfl ?_
  refine lv_iload_n hx hb dc_O_at_2 rfl (lv_at hl 1 rfl) ?_
  refine lv_imul hx hb dc_O_at_3 ?_
  refine lv_ishr hx hb dc_O_at_4 ?_
  refine lv_bipush (v := 7) hx hb dc_O_at_5 rfl ?_
  refine lv_iand hx hb dc_O_at_7 ?_
  exact ow_iret hx hb hr hlocks hB h dc_O_at_8
abbrev rm_O_isOne : Room := { frames := 1, cells := 0, slots := 0, locals := 21 }
theorem hd_O_isOne : yn_O_isOne.cls ≠ "java/lang/invoke/MethodHandle" ∧ yn_O_isOne.cls ≠ "java/lang/invoke/VarHandle" ∧ (parseMethodDescriptor yn_O_isOne.desc).map (fun d => d.parameters.length) = some 2 := by decide +kernel
set_option maxHeartbeats 4000000 in
set_option maxRecDepth 100000 in
theorem ct_O_isOne (l : Launch) (G : List (Nat × Nat)) (hG : ow_lay G) (D : va_G) (cA : Nat → ClassId) (ad : Nat → Nat) (F : Nat) (x0 : Int32) (x1 : Int32) (M : om_M) (Q : Int32 → om_M → Prop) (h : wp_O_isOne F x0 x1 M Q) : Met l yn_O_isOne (ow_ws yn_O_isOne cb_O_isOne 4 (some .boolean)) rm_O_isOne (ow_Pc G D cA ad M [.int x0, .int x1]) (ow_Qi G D cA ad Q) 0 0 (ow_A G ad) := by
  refine Met.ofW (cc := cb_O_isOne) (maxL := 4) (ret := (some .boolean)) (by decide) rfl ?_
  intro p e s m args below meth c s₁ B hml hv
  obtain ⟨rfl, hB⟩ := hv
  have hx := B.exec
  have hb := B.bytes
  have hr := B.returns
  have hlocks := B.notSynchronized
  have hts : ∀ w ∈ lw_g, w.before ([.int x0, .int x1] : List Value).toArray s = true := fun w h => atoms_spec (ws := ow_ws yn_O_isOne cb_O_isOne 4 (some .boolean)) B.pre w (List.mem_cons_of_mem _ h)
  have hown : s.vm.findClass "BallotDesk$Order" = some m.cls := findClass_of_methodNamed B.named
  clear B
  have L39 : ∀   (M : om_M) (x2 : Int32)  (H : Heap) (locs : List Loc) (ls : Array Slot), wp_O_isOne_39 F x0 x1 Q   M x2  → ow_B G D cA ad (ow_A G ad) M s s.heap H locs → lv_has ls 4 [(1, .int x1), (2, .int x2)] → W p l e rm_O_isOne s m ([.int x0, .int x1] : List Value).toArray below meth c H locs 0 0 (MQ below (ow_Qi G D cA ad Q) ([.int x0, .int x1] : List Value).toArray s 0 0 (ow_A G ad)) (F0 m 39 ls []) := by
    intro   M x2 H locs ls h hB hl
    refine lv_iload_n hx hb dc_O_isOne_39 rfl (lv_at hl 1 rfl) ?_
    refine lv_iconst (v := 1) hx hb dc_O_isOne_40 rfl ?_
    refine lv_iload_n hx hb dc_O_isOne_41 rfl (lv_at hl 0 rfl) ?_
    refine lv_ishl hx hb dc_O_isOne_42 ?_
    refine lv_iconst (v := 1) hx hb dc_O_isOne_43 rfl ?_
    refine lv_isub hx hb dc_O_isOne_44 ?_
    obtain ⟨h1, h2⟩ := h
    refine lv_icmp_ne hx hb dc_O_isOne_45 rfl (fun hc => ?_) (fun hc => ?_)
    · have h := h2 hc
      refine lv_iconst (v := 0) hx hb dc_O_isOne_52 rfl ?_
      exact ow_zret hx hb hr hlocks (by decide) hB h dc_O_isOne_53
    · have h := h1 hc
      refine lv_iconst (v := 1) hx hb dc_O_isOne_48 rfl ?_
      refine lv_goto hx hb dc_O_isOne_49 rfl ?_
      exact ow_zret hx hb hr hlocks (by decide) hB h dc_O_isOne_53
  have B18 : ∀   (K18 : om_M × Int32 × Int32 → Prop) (hK18 : ∀ (M : om_M) (x2 : Int32) (x3 : Int32) (H : Heap) (locs : List Loc) (ls : Array Slot), K18 (M, x2, x3) → ow_B G D cA ad (ow_A G ad) M s s.heap H locs → lv_has ls 4 [(0, .int x0), (1, .int x1), (2, .int x2), (3, .int x3)] → W p l e rm_O_isOne s m ([.int x0, .int x1] : List Value).toArray below meth c H locs 0 0 (MQ below (ow_Qi G D cA ad Q) ([.int x0, .int x1] : List Value).toArray s 0 0 (ow_A G ad)) (F0 m 18 ls [])) (M : om_M) (x2 : Int32) (x3 : Int32) (H : Heap) (locs : List Loc) (ls : Array Slot), wp_O_isOne_18b F x0 x1 Q   K18 M x2 x3 → ow_B G D cA ad (ow_A G ad) M s s.heap H locs → lv_has ls 4 [(0, .int x0), (1, .int x1), (2, .int x2), (3, .int x3)] → W p l e rm_O_isOne s m ([.int x0, .int x1] : List Value).toArray below meth c H locs 0 0 (MQ below (ow_Qi G D cA ad Q) ([.int x0, .int x1] : List Value).toArray s 0 0 (ow_A G ad)) (F0 m 18 ls []) := by
    intro   K18 hK18 M x2 x3 H locs ls h hB hl
    refine lv_iload_n hx hb dc_O_isOne_18 rfl (lv_at hl 3 rfl) ?_
    refine lv_iload_n hx hb dc_O_isOne_19 rfl (lv_at hl 1 rfl) ?_
    obtain ⟨h1, h2⟩ := h
    refine lv_icmp_ge hx hb dc_O_isOne_20 rfl (fun hc => ?_) (fun hc => ?_)
    · have h := h1 hc
      exact L39 _ _ _ _ _ h hB (lv_sub hl [1, 2] rfl)
    · have h := h2 hc
      refine lv_iload_n hx hb dc_O_isOne_23 rfl (lv_at hl 2 rfl) ?_
      refine lv_iconst (v := 1) hx hb dc_O_isOne_24 rfl ?_
      refine lv_iload_n hx hb dc_O_isOne_25 rfl (lv_at hl 0 rfl) ?_
      refine lv_iload_n hx hb dc_O_isOne_26 rfl (lv_at hl 3 rfl) ?_
      refine ow_calli (va_runS (As := [.int x0, .int x3]) (rest := [.int 1, .int x2]) ⟨hx, hb, hml, hown, hts⟩ (ct_O_at l G hG D cA ad F _ _ _ _ h) ⟨ow_cb 2 hts mw_314 mw_3 mw_408 rfl rfl hd_O_at ⟨Nat.le_of_ble_eq_true rfl, Nat.le_of_ble_eq_true rfl⟩, hts _ mw_313⟩ (ow_preS hB) rfl rfl hl.1 rfl (lv_room (Nat.le_of_ble_eq_true rfl)) dc_O_isOne_27 ⟨Nat.zero_le _, Nat.zero_le _⟩) hB (fun r2 M1 H locs h hB => ?_)
      refine lv_ishl hx hb dc_O_isOne_30 ?_
      refine lv_ior hx hb dc_O_isOne_31 ?_
      refine lv_istore_n hx hb dc_O_isOne_32 rfl hl (by decide) rfl (fun ls hl => ?_)
      refine lv_iinc hx hb dc_O_isOne_33 hl (k := 3) rfl rfl (by decide) rfl (fun ls hl => ?_)
      refine lv_goto hx hb dc_O_isOne_36 rfl ?_
      exact hK18 _ _ _ _ _ _ h hB (lv_sub hl [2, 3, 1, 0] rfl)
  have L18 : ∀   (M : om_M) (x2 : Int32) (x3 : Int32) (H : Heap) (locs : List Loc) (ls : Array Slot), wp_O_isOne_18 F x0 x1 Q   M x2 x3 → ow_B G D cA ad (ow_A G ad) M s s.heap H locs → lv_has ls 4 [(0, .int x0), (1, .int x1), (2, .int x2), (3, .int x3)] → W p l e rm_O_isOne s m ([.int x0, .int x1] : List Value).toArray below meth c H locs 0 0 (MQ below (ow_Qi G D cA ad Q) ([.int x0, .int x1] : List Value).toArray s 0 0 (ow_A G ad)) (F0 m 18 ls []) := by
    have step : ∀ (k : Nat) (M : om_M) (x2 : Int32) (x3 : Int32) (H : Heap) (locs : List Loc) (ls : Array Slot), ow_lp (fun (z : om_M × Int32 × Int32) K => wp_O_isOne_18b F x0 x1 Q   K z.1 z.2.1 z.2.2) k (M, x2, x3) → ow_B G D cA ad (ow_A G ad) M s s.heap H locs → lv_has ls 4 [(0, .int x0), (1, .int x1), (2, .int x2), (3, .int x3)] → W p l e rm_O_isOne s m ([.int x0, .int x1] : List Value).toArray below meth c H locs 0 0 (MQ below (ow_Qi G D cA ad Q) ([.int x0, .int x1] : List Value).toArray s 0 0 (ow_A G ad)) (F0 m 18 ls []) := by
      intro k
      induction k with
      | zero => intro M x2 x3 H locs ls h hB hl; exact False.elim h
      | succ k ih => intro M x2 x3 H locs ls h hB hl; exact B18   (ow_lp _ k) (fun M x2 x3 H locs ls h hB  hl => ih M x2 x3  H locs ls h hB hl) M x2 x3 H locs ls h hB hl
    intro M x2 x3 H locs ls h hB hl
    exact step F M x2 x3 H locs ls h hB hl
  have hl := lv_entry ([.int x0, .int x1]) (n := 4) (Nat.le_of_ble_eq_true rfl)
  rw [lg_entry_eq]
  generalize (lg_sl ([.int x0, .int x1]) ++ List.replicate (4 - (lg_sl ([.int x0, .int x1])).length) Slot.unset).toArray = ls at hl ⊢
  have hl : lv_has ls 4 [(0, .int x0), (1, .int x1)] := hl
  show W p l e rm_O_isOne s m _ below meth c s.heap [] 0 0 _ _
  refine lv_iload_n hx hb dc_O_isOne_0 rfl (lv_at hl 0 rfl) ?_
  obtain ⟨h1, h2⟩ := h
  refine lv_if_lt hx hb dc_O_isOne_1 rfl (fun hc => ?_) (fun hc => ?_)
  · have h := h1 hc
    refine lv_iconst (v := 0) hx hb dc_O_isOne_12 rfl ?_
    exact ow_zret hx hb hr hlocks (by decide) hB h dc_O_isOne_13
  · have h := h2 hc
    refine lv_iload_n hx hb dc_O_isOne_4 rfl (lv_at hl 0 rfl) ?_
    refine lv_iconst (v := 3) hx hb dc_O_isOne_5 rfl ?_
    refine lv_iload_n hx hb dc_O_isOne_6 rfl (lv_at hl 1 rfl) ?_
    refine lv_imul hx hb dc_O_isOne_7 ?_
    refine lv_ishr hx hb dc_O_isOne_8 ?_
    obtain ⟨h1, h2⟩ := h
    refine lv_if_eq hx hb dc_O_isOne_9 rfl (fun hc => ?_) (fun hc => ?_)
    · have h := h1 hc
      refine lv_iconst (v := 0) hx hb dc_O_isOne_14 rfl ?_
      refine lv_istore_n hx hb dc_O_isOne_15 rfl hl (by decide) rfl (fun ls hl => ?_)
      refine lv_iconst (v := 0) hx hb dc_O_isOne_16 rfl ?_
      refine lv_istore_n hx hb dc_O_isOne_17 rfl hl (by decide) rfl (fun ls hl => ?_)
      exact L18 _ _ _ _ _ _ h hB (lv_sub hl [2, 3, 1, 0] rfl)
    · have h := h2 hc
      refine lv_iconst (v := 0) hx hb dc_O_isOne_12 rfl ?_
      exact ow_zret hx hb hr hlocks (by decide) hB h dc_O_isOne_13
abbrev rm_O_ascending : Room := { frames := 0, cells := 0, slots := 0, locals := 0 }
theorem hd_O_ascending : yn_O_ascending.cls ≠ "java/lang/invoke/MethodHandle" ∧ yn_O_ascending.cls ≠ "java/lang/invoke/VarHandle" ∧ (parseMethodDescriptor yn_O_ascending.desc).map (fun d => d.parameters.length) = some 1 := by decide +kernel
set_option maxHeartbeats 4000000 in
set_option maxRecDepth 100000 in
theorem ct_O_ascending (l : Launch) (G : List (Nat × Nat)) (hG : ow_lay G) (D : va_G) (cA : Nat → ClassId) (ad : Nat → Nat) (F : Nat) (x0 : Int32) (M : om_M) (Q : Int32 → om_M → Prop) (h : wp_O_ascending F x0 M Q) : Met l yn_O_ascending (ow_ws yn_O_ascending cb_O_ascending 3 (some .int)) rm_O_ascending (ow_Pc G D cA ad M [.int x0]) (ow_Qi G D cA ad Q) 0 0 (ow_A G ad) := by
  refine Met.ofW (cc := cb_O_ascending) (maxL := 3) (ret := (some .int)) (by decide) rfl ?_
  intro p e s m args below meth c s₁ B hml hv
  obtain ⟨rfl, hB⟩ := hv
  have hx := B.exec
  have hb := B.bytes
  have hr := B.returns
  have hlocks := B.notSynchronized
  have hts : ∀ w ∈ lw_g, w.before ([.int x0] : List Value).toArray s = true := fun w h => atoms_spec (ws := ow_ws yn_O_ascending cb_O_ascending 3 (some .int)) B.pre w (List.mem_cons_of_mem _ h)
  have hown : s.vm.findClass "BallotDesk$Order" = some m.cls := findClass_of_methodNamed B.named
  clear B
  have B4 : ∀   (K4 : om_M × Int32 × Int32 → Prop) (hK4 : ∀ (M : om_M) (x1 : Int32) (x2 : Int32) (H : Heap) (locs : List Loc) (ls : Array Slot), K4 (M, x1, x2) → ow_B G D cA ad (ow_A G ad) M s s.heap H locs → lv_has ls 3 [(0, .int x0), (1, .int x1), (2, .int x2)] → W p l e rm_O_ascending s m ([.int x0] : List Value).toArray below meth c H locs 0 0 (MQ below (ow_Qi G D cA ad Q) ([.int x0] : List Value).toArray s 0 0 (ow_A G ad)) (F0 m 4 ls [])) (M : om_M) (x1 : Int32) (x2 : Int32) (H : Heap) (locs : List Loc) (ls : Array Slot), wp_O_ascending_4b F x0 Q   K4 M x1 x2 → ow_B G D cA ad (ow_A G ad) M s s.heap H locs → lv_has ls 3 [(0, .int x0), (1, .int x1), (2, .int x2)] → W p l e rm_O_ascending s m ([.int x0] : List Value).toArray below meth c H locs 0 0 (MQ below (ow_Qi G D cA ad Q) ([.int x0] : List Value).toArray s 0 0 (ow_A G ad)) (F0 m 4 ls []) := by
    intro   K4 hK4 M x1 x2 H locs ls h hB hl
    refine lv_iload_n hx hb dc_O_ascending_4 rfl (lv_at hl 2 rfl) ?_
    refine lv_iload_n hx hb dc_O_ascending_5 rfl (lv_at hl 0 rfl) ?_
    obtain ⟨h1, h2⟩ := h
    refine lv_icmp_ge hx hb dc_O_ascending_6 rfl (fun hc => ?_) (fun hc => ?_)
    · have h := h1 hc
      refine lv_iload_n hx hb dc_O_ascending_23 rfl (lv_at hl 1 rfl) ?_
      exact ow_iret hx hb hr hlocks hB h dc_O_ascending_24
    · have h := h2 hc
      refine lv_iload_n hx hb dc_O_ascending_9 rfl (lv_at hl 1 rfl) ?_
      refine lv_iload_n hx hb dc_O_ascending_10 rfl (lv_at hl 2 rfl) ?_
      refine lv_iconst (v := 3) hx hb dc_O_ascending_11 rfl ?_
      refine lv_iload_n hx hb dc_O_ascending_12 rfl (lv_at hl 2 rfl) ?_
      refine lv_imul hx hb dc_O_ascending_13 ?_
      refine lv_ishl hx hb dc_O_ascending_14 ?_
      refine lv_ior hx hb dc_O_ascending_15 ?_
      refine lv_istore_n hx hb dc_O_ascending_16 rfl hl (by decide) rfl (fun ls hl => ?_)
      refine lv_iinc hx hb dc_O_ascending_17 hl (k := 2) rfl rfl (by decide) rfl (fun ls hl => ?_)
      refine lv_goto hx hb dc_O_ascending_20 rfl ?_
      exact hK4 _ _ _ _ _ _ h hB (lv_sub hl [2, 1, 0] rfl)
  have L4 : ∀   (M : om_M) (x1 : Int32) (x2 : Int32) (H : Heap) (locs : List Loc) (ls : Array Slot), wp_O_ascending_4 F x0 Q   M x1 x2 → ow_B G D cA ad (ow_A G ad) M s s.heap H locs → lv_has ls 3 [(0, .int x0), (1, .int x1), (2, .int x2)] → W p l e rm_O_ascending s m ([.int x0] : List Value).toArray below meth c H locs 0 0 (MQ below (ow_Qi G D cA ad Q) ([.int x0] : List Value).toArray s 0 0 (ow_A G ad)) (F0 m 4 ls []) := by
    have step : ∀ (k : Nat) (M : om_M) (x1 : Int32) (x2 : Int32) (H : Heap) (locs : List Loc) (ls : Array Slot), ow_lp (fun (z : om_M × Int32 × Int32) K => wp_O_ascending_4b F x0 Q   K z.1 z.2.1 z.2.2) k (M, x1, x2) → ow_B G D cA ad (ow_A G ad) M s s.heap H locs → lv_has ls 3 [(0, .int x0), (1, .int x1), (2, .int x2)] → W p l e rm_O_ascending s m ([.int x0] : List Value).toArray below meth c H locs 0 0 (MQ below (ow_Qi G D cA ad Q) ([.int x0] : List Value).toArray s 0 0 (ow_A G ad)) (F0 m 4 ls []) := by
      intro k
      induction k with
      | zero => intro M x1 x2 H locs ls h hB hl; exact False.elim h
      | succ k ih => intro M x1 x2 H locs ls h hB hl; exact B4   (ow_lp _ k) (fun M x1 x2 H locs ls h hB  hl => ih M x1 x2  H locs ls h hB hl) M x1 x2 H locs ls h hB hl
    intro M x1 x2 H locs ls h hB hl
    exact step F M x1 x2 H locs ls h hB hl
  have hl := lv_entry ([.int x0]) (n := 3) (Nat.le_of_ble_eq_true rfl)
  rw [lg_entry_eq]
  generalize (lg_sl ([.int x0]) ++ List.replicate (3 - (lg_sl ([.int x0])).length) Slot.unset).toArray = ls at hl ⊢
  have hl : lv_has ls 3 [(0, .int x0)] := hl
  show W p l e rm_O_ascending s m _ below meth c s.heap [] 0 0 _ _
  refine lv_iconst (v := 0) hx hb dc_O_ascending_0 rfl ?_
  refine lv_istore_n hx hb dc_O_ascending_1 rfl hl (by decide) rfl (fun ls hl => ?_)
  refine lv_iconst (v := 0) hx hb dc_O_ascending_2 rfl ?_
  refine lv_istore_n hx hb dc_O_ascending_3 rfl hl (by decide) rfl (fun ls hl => ?_)
  exact L4 _ _ _ _ _ _ h hB (lv_sub hl [2, 1, 0] rfl)
abbrev rm_O_placeOf : Room := { frames := 1, cells := 0, slots := 0, locals := 21 }
theorem hd_O_placeOf : yn_O_placeOf.cls ≠ "java/lang/invoke/MethodHandle" ∧ yn_O_placeOf.cls ≠ "java/lang/invoke/VarHandle" ∧ (parseMethodDescriptor yn_O_placeOf.desc).map (fun d => d.parameters.length) = some 3 := by decide +kernel
set_option maxHeartbeats 4000000 in
set_option maxRecDepth 100000 in
theorem ct_O_placeOf (l : Launch) (G : List (Nat × Nat)) (hG : ow_lay G) (D : va_G) (cA : Nat → ClassId) (ad : Nat → Nat) (F : Nat) (x0 : Int32) (x1 : Int32) (x2 : Int32) (M : om_M) (Q : Int32 → om_M → Prop) (h : wp_O_placeOf F x0 x1 x2 M Q) : Met l yn_O_placeOf (ow_ws yn_O_placeOf cb_O_placeOf 4 (some .int)) rm_O_placeOf (ow_Pc G D cA ad M [.int x0, .int x1, .int x2]) (ow_Qi G D cA ad Q) 0 0 (ow_A G ad) := by
  refine Met.ofW (cc := cb_O_placeOf) (maxL := 4) (ret := (some .int)) (by decide) rfl ?_
  intro p e s m args below meth c s₁ B hml hv
  obtain ⟨rfl, hB⟩ := hv
  have hx := B.exec
  have hb := B.bytes
  have hr := B.returns
  have hlocks := B.notSynchronized
  have hts : ∀ w ∈ lw_g, w.before ([.int x0, .int x1, .int x2] : List Value).toArray s = true := fun w h => atoms_spec (ws := ow_ws yn_O_placeOf cb_O_placeOf 4 (some .int)) B.pre w (List.mem_cons_of_mem _ h)
  have hown : s.vm.findClass "BallotDesk$Order" = some m.cls := findClass_of_methodNamed B.named
  clear B
  have B2 : ∀   (K2 : om_M × Int32 → Prop) (hK2 : ∀ (M : om_M) (x3 : Int32) (H : Heap) (locs : List Loc) (ls : Array Slot), K2 (M, x3) → ow_B G D cA ad (ow_A G ad) M s s.heap H locs → lv_has ls 4 [(0, .int x0), (1, .int x1), (2, .int x2), (3, .int x3)] → W p l e rm_O_placeOf s m ([.int x0, .int x1, .int x2] : List Value).toArray below meth c H locs 0 0 (MQ below (ow_Qi G D cA ad Q) ([.int x0, .int x1, .int x2] : List Value).toArray s 0 0 (ow_A G ad)) (F0 m 2 ls [])) (M : om_M) (x3 : Int32) (H : Heap) (locs : List Loc) (ls : Array Slot), wp_O_placeOf_2b F x0 x1 x2 Q   K2 M x3 → ow_B G D cA ad (ow_A G ad) M s s.heap H locs → lv_has ls 4 [(0, .int x0), (1, .int x1), (2, .int x2), (3, .int x3)] → W p l e rm_O_placeOf s m ([.int x0, .int x1, .int x2] : List Value).toArray below meth c H locs 0 0 (MQ below (ow_Qi G D cA ad Q) ([.int x0, .int x1, .int x2] : List Value).toArray s 0 0 (ow_A G ad)) (F0 m 2 ls []) := by
    intro   K2 hK2 M x3 H locs ls h hB hl
    refine lv_iload_n hx hb dc_O_placeOf_2 rfl (lv_at hl 3 rfl) ?_
    refine lv_iload_n hx hb dc_O_placeOf_3 rfl (lv_at hl 2 rfl) ?_
    obtain ⟨h1, h2⟩ := h
    refine lv_icmp_ge hx hb dc_O_placeOf_4 rfl (fun hc => ?_) (fun hc => ?_)
    · have h := h1 hc
      refine lv_iload_n hx hb dc_O_placeOf_24 rfl (lv_at hl 2 rfl) ?_
      exact ow_iret hx hb hr hlocks hB h dc_O_placeOf_25
    · have h := h2 hc
      refine lv_iload_n hx hb dc_O_placeOf_7 rfl (lv_at hl 0 rfl) ?_
      refine lv_iload_n hx hb dc_O_placeOf_8 rfl (lv_at hl 3 rfl) ?_
      refine ow_calli (va_runS (As := [.int x0, .int x3]) (rest := []) ⟨hx, hb, hml, hown, hts⟩ (ct_O_at l G hG D cA ad F _ _ _ _ h) ⟨ow_cb 2 hts mw_314 mw_3 mw_408 rfl rfl hd_O_at ⟨Nat.le_of_ble_eq_true rfl, Nat.le_of_ble_eq_true rfl⟩, hts _ mw_313⟩ (ow_preS hB) rfl rfl hl.1 rfl (lv_room (Nat.le_of_ble_eq_true rfl)) dc_O_placeOf_9 ⟨Nat.zero_le _, Nat.zero_le _⟩) hB (fun r2 M1 H locs h hB => ?_)
      refine lv_iload_n hx hb dc_O_placeOf_12 rfl (lv_at hl 1 rfl) ?_
      obtain ⟨h1, h2⟩ := h
      refine lv_icmp_ne hx hb dc_O_placeOf_13 rfl (fun hc => ?_) (fun hc => ?_)
      · have h := h2 hc
        refine lv_iinc hx hb dc_O_placeOf_18 hl (k := 3) rfl rfl (by decide) rfl (fun ls hl => ?_)
        refine lv_goto hx hb dc_O_placeOf_21 rfl ?_
        exact hK2 _ _ _ _ _ h hB (lv_sub hl [1, 2, 3, 0] rfl)
      · have h := h1 hc
        refine lv_iload_n hx hb dc_O_placeOf_16 rfl (lv_at hl 3 rfl) ?_
        exact ow_iret hx hb hr hlocks hB h dc_O_placeOf_17
  have L2 : ∀   (M : om_M) (x3 : Int32) (H : Heap) (locs : List Loc) (ls : Array Slot), wp_O_placeOf_2 F x0 x1 x2 Q   M x3 → ow_B G D cA ad (ow_A G ad) M s s.heap H locs → lv_has ls 4 [(0, .int x0), (1, .int x1), (2, .int x2), (3, .int x3)] → W p l e rm_O_placeOf s m ([.int x0, .int x1, .int x2] : List Value).toArray below meth c H locs 0 0 (MQ below (ow_Qi G D cA ad Q) ([.int x0, .int x1, .int x2] : List Value).toArray s 0 0 (ow_A G ad)) (F0 m 2 ls []) := by
    have step : ∀ (k : Nat) (M : om_M) (x3 : Int32) (H : Heap) (locs : List Loc) (ls : Array Slot), ow_lp (fun (z : om_M × Int32) K => wp_O_placeOf_2b F x0 x1 x2 Q   K z.1 z.2) k (M, x3) → ow_B G D cA ad (ow_A G ad) M s s.heap H locs → lv_has ls 4 [(0, .int x0), (1, .int x1), (2, .int x2), (3, .int x3)] → W p l e rm_O_placeOf s m ([.int x0, .int x1, .int x2] : List Value).toArray below meth c H locs 0 0 (MQ below (ow_Qi G D cA ad Q) ([.int x0, .int x1, .int x2] : List Value).toArray s 0 0 (ow_A G ad)) (F0 m 2 ls []) := by
      intro k
      induction k with
      | zero => intro M x3 H locs ls h hB hl; exact False.elim h
      | succ k ih => intro M x3 H locs ls h hB hl; exact B2   (ow_lp _ k) (fun M x3 H locs ls h hB  hl => ih M x3  H locs ls h hB hl) M x3 H locs ls h hB hl
    intro M x3 H locs ls h hB hl
    exact step F M x3 H locs ls h hB hl
  have hl := lv_entry ([.int x0, .int x1, .int x2]) (n := 4) (Nat.le_of_ble_eq_true rfl)
  rw [lg_entry_eq]
  generalize (lg_sl ([.int x0, .int x1, .int x2]) ++ List.replicate (4 - (lg_sl ([.int x0, .int x1, .int x2])).length) Slot.unset).toArray = ls at hl ⊢
  have hl : lv_has ls 4 [(0, .int x0), (1, .int x1), (2, .int x2)] := hl
  show W p l e rm_O_placeOf s m _ below meth c s.heap [] 0 0 _ _
  refine lv_iconst (v := 0) hx hb dc_O_placeOf_0 rfl ?_
  refine lv_istore_n hx hb dc_O_placeOf_1 rfl hl (by decide) rfl (fun ls hl => ?_)
  exact L2 _ _ _ _ _ h hB (lv_sub hl [1, 2, 3, 0] rfl)
abbrev rm_O_raised : Room := { frames := 2, cells := 0, slots := 0, locals := 44 }
theorem hd_O_raised : yn_O_raised.cls ≠ "java/lang/invoke/MethodHandle" ∧ yn_O_raised.cls ≠ "java/lang/invoke/VarHandle" ∧ (parseMethodDescriptor yn_O_raised.desc).map (fun d => d.parameters.length) = some 3 := by decide +kernel
set_option maxHeartbeats 4000000 in
set_option maxRecDepth 100000 in
theorem ct_O_raised (l : Launch) (G : List (Nat × Nat)) (hG : ow_lay G) (D : va_G) (cA : Nat → ClassId) (ad : Nat → Nat) (F : Nat) (x0 : Int32) (x1 : Int32) (x2 : Int32) (M : om_M) (Q : Int32 → om_M → Prop) (h : wp_O_raised F x0 x1 x2 M Q) : Met l yn_O_raised (ow_ws yn_O_raised cb_O_raised 5 (some .int)) rm_O_raised (ow_Pc G D cA ad M [.int x0, .int x1, .int x2]) (ow_Qi G D cA ad Q) 0 0 (ow_A G ad) := by
  refine Met.ofW (cc := cb_O_raised) (maxL := 5) (ret := (some .int)) (by decide) rfl ?_
  intro p e s m args below meth c s₁ B hml hv
  obtain ⟨rfl, hB⟩ := hv
  have hx := B.exec
  have hb := B.bytes
  have hr := B.returns
  have hlocks := B.notSynchronized
  have hts : ∀ w ∈ lw_g, w.before ([.int x0, .int x1, .int x2] : List Value).toArray s = true := fun w h => atoms_spec (ws := ow_ws yn_O_raised cb_O_raised 5 (some .int)) B.pre w (List.mem_cons_of_mem _ h)
  have hown : s.vm.findClass "BallotDesk$Order" = some m.cls := findClass_of_methodNamed B.named
  clear B
  have hl := lv_entry ([.int x0, .int x1, .int x2]) (n := 5) (Nat.le_of_ble_eq_true rfl)
  rw [lg_entry_eq]
  generalize (lg_sl ([.int x0, .int x1, .int x2]) ++ List.replicate (5 - (lg_sl ([.int x0, .int x1, .int x2])).length) Slot.unset).toArray = ls at hl ⊢
  have hl : lv_has ls 5 [(0, .int x0), (1, .int x1), (2, .int x2)] := hl
  show W p l e rm_O_raised s m _ below meth c s.heap [] 0 0 _ _
  refine lv_iload_n hx hb dc_O_raised_0 rfl (lv_at hl 0 rfl) ?_
  refine lv_iload_n hx hb dc_O_raised_1 rfl (lv_at hl 1 rfl) ?_
  refine lv_iload_n hx hb dc_O_raised_2 rfl (lv_at hl 2 rfl) ?_
  refine ow_calli (va_runS (As := [.int x0, .int x1, .int x2]) (rest := []) ⟨hx, hb, hml, hown, hts⟩ (ct_O_placeOf l G hG D cA ad F _ _ _ _ _ h) ⟨ow_cb 3 hts mw_676 mw_3 mw_729 rfl rfl hd_O_placeOf ⟨Nat.le_of_ble_eq_true rfl, Nat.le_of_ble_eq_true rfl⟩, hts _ mw_675⟩ (ow_preS hB) rfl rfl hl.1 rfl (lv_room (Nat.le_of_ble_eq_true rfl)) dc_O_raised_3 ⟨Nat.zero_le _, Nat.zero_le _⟩) hB (fun r2 M1 H locs h hB => ?_)
  refine lv_istore_n hx hb dc_O_raised_6 rfl hl (by decide) rfl (fun ls hl => ?_)
  refine lv_iload_n hx hb dc_O_raised_7 rfl (lv_at hl 0 rfl) ?_
  obtain ⟨h1, h2⟩ := h
  refine lv_if_eq hx hb dc_O_raised_8 rfl (fun hc => ?_) (fun hc => ?_)
  · have h := h1 hc
    refine lv_iload_n hx hb dc_O_raised_16 rfl (lv_at hl 1 rfl) ?_
    exact ow_iret hx hb hr hlocks hB h dc_O_raised_17
  · have h := h2 hc
    refine lv_iload_n hx hb dc_O_raised_11 rfl (lv_at hl 0 rfl) ?_
    refine lv_iload_n hx hb dc_O_raised_12 rfl (lv_at hl 3 rfl) ?_
    obtain ⟨h1, h2⟩ := h
    refine lv_icmp_ne hx hb dc_O_raised_13 rfl (fun hc => ?_) (fun hc => ?_)
    · have h := h2 hc
      refine lv_iload_n hx hb dc_O_raised_18 rfl (lv_at hl 1 rfl) ?_
      refine lv_iload_n hx hb dc_O_raised_19 rfl (lv_at hl 0 rfl) ?_
      refine ow_calli (va_runS (As := [.int x0, .int r2]) (rest := []) ⟨hx, hb, hml, hown, hts⟩ (ct_O_at l G hG D cA ad F _ _ _ _ h) ⟨ow_cb 2 hts mw_314 mw_3 mw_408 rfl rfl hd_O_at ⟨Nat.le_of_ble_eq_true rfl, Nat.le_of_ble_eq_true rfl⟩, hts _ mw_313⟩ (ow_preS hB) rfl rfl hl.1 rfl (lv_room (Nat.le_of_ble_eq_true rfl)) dc_O_raised_20 ⟨Nat.zero_le _, Nat.zero_le _⟩) hB (fun r4 M3 H locs h hB => ?_)
      refine lv_iload_n hx hb dc_O_raised_23 rfl (lv_at hl 1 rfl) ?_
      refine lv_iload_n hx hb dc_O_raised_24 rfl (lv_at hl 0 rfl) ?_
      refine lv_iconst (v := 1) hx hb dc_O_raised_25 rfl ?_
      refine lv_isub hx hb dc_O_raised_26 ?_
      refine ow_calli (va_runS (As := [.int x0, .int (r2 - 1)]) (rest := [.int r4]) ⟨hx, hb, hml, hown, hts⟩ (ct_O_at l G hG D cA ad F _ _ _ _ h) ⟨ow_cb 2 hts mw_314 mw_3 mw_408 rfl rfl hd_O_at ⟨Nat.le_of_ble_eq_true rfl, Nat.le_of_ble_eq_true rfl⟩, hts _ mw_313⟩ (ow_preS hB) rfl rfl hl.1 rfl (lv_room (Nat.le_of_ble_eq_true rfl)) dc_O_raised_27 ⟨Nat.zero_le _, Nat.zero_le _⟩) hB (fun r6 M5 H locs h hB => ?_)
      refine lv_ixor hx hb dc_O_raised_30 ?_
      refine lv_istore hx hb dc_O_raised_31 hl (by decide) rfl (fun ls hl => ?_)
      refine lv_iload_n hx hb dc_O_raised_33 rfl (lv_at hl 2 rfl) ?_
      refine lv_iload hx hb dc_O_raised_34 (lv_at hl 0 rfl) ?_
      refine lv_iconst (v := 3) hx hb dc_O_raised_36 rfl ?_
      refine lv_iload_n hx hb dc_O_raised_37 rfl (lv_at hl 1 rfl) ?_
      refine lv_imul hx hb dc_O_raised_38 ?_
      refine lv_ishl hx hb dc_O_raised_39 ?_
      refine lv_ixor hx hb dc_O_raised_40 ?_
      refine lv_iload hx hb dc_O_raised_41 (lv_at hl 0 rfl) ?_
      refine lv_iconst (v := 3) hx hb dc_O_raised_43 rfl ?_
      refine lv_iload_n hx hb dc_O_raised_44 rfl (lv_at hl 1 rfl) ?_
      refine lv_iconst (v := 1) hx hb dc_O_raised_45 rfl ?_
      refine lv_isub hx hb dc_O_raised_46 ?_
      refine lv_imul hx hb dc_O_raised_47 ?_
      refine lv_ishl hx hb dc_O_raised_48 ?_
      refine lv_ixor hx hb dc_O_raised_49 ?_
      exact ow_iret hx hb hr hlocks hB h dc_O_raised_50
    · have h := h1 hc
      refine lv_iload_n hx hb dc_O_raised_16 rfl (lv_at hl 1 rfl) ?_
      exact ow_iret hx hb hr hlocks hB h dc_O_raised_17
abbrev rm_O_numberWithout : Room := { frames := 0, cells := 0, slots := 0, locals := 0 }
theorem hd_O_numberWithout : yn_O_numberWithout.cls ≠ "java/lang/invoke/MethodHandle" ∧ yn_O_numberWithout.cls ≠ "java/lang/invoke/VarHandle" ∧ (parseMethodDescriptor yn_O_numberWithout.desc).map (fun d => d.parameters.length) = some 2 := by decide +kernel
set_option maxHeartbeats 4000000 in
set_option maxRecDepth 100000 in
theorem ct_O_numberWithout (l : Launch) (G : List (Nat × Nat)) (hG : ow_lay G) (D : va_G) (cA : Nat → ClassId) (ad : Nat → Nat) (F : Nat) (x0 : Int32) (x1 : Int32) (M : om_M) (Q : Int32 → om_M → Prop) (h : wp_O_numberWithout F x0 x1 M Q) : Met l yn_O_numberWithout (ow_ws yn_O_numberWithout cb_O_numberWithout 2 (some .int)) rm_O_numberWithout (ow_Pc G D cA ad M [.int x0, .int x1]) (ow_Qi G D cA ad Q) 0 0 (ow_A G ad) := by
  refine Met.ofW (cc := cb_O_numberWithout) (maxL := 2) (ret := (some .int)) (by decide) rfl ?_
  intro p e s m args below meth c s₁ B hml hv
  obtain ⟨rfl, hB⟩ := hv
  have hx := B.exec
  have hb := B.bytes
  have hr := B.returns
  have hlocks := B.notSynchronized
  have hts : ∀ w ∈ lw_g, w.before ([.int x0, .int x1] : List Value).toArray s = true := fun w h => atoms_spec (ws := ow_ws yn_O_numberWithout cb_O_numberWithout 2 (some .int)) B.pre w (List.mem_cons_of_mem _ h)
  have hown : s.vm.findClass "BallotDesk$Order" = some m.cls := findClass_of_methodNamed B.named
  clear B
  have hl := lv_entry ([.int x0, .int x1]) (n := 2) (Nat.le_of_ble_eq_true rfl)
  rw [lg_entry_eq]
  generalize (lg_sl ([.int x0, .int x1]) ++ List.replicate (2 - (lg_sl ([.int x0, .int x1])).length) Slot.unset).toArray = ls at hl ⊢
  have hl : lv_has ls 2 [(0, .int x0), (1, .int x1)] := hl
  show W p l e rm_O_numberWithout s m _ below meth c s.heap [] 0 0 _ _
  refine lv_iload_n hx hb dc_O_numberWithout_0 rfl (lv_at hl 0 rfl) ?_
  refine lv_iload_n hx hb dc_O_numberWithout_1 rfl (lv_at hl 1 rfl) ?_
  obtain ⟨h1, h2⟩ := h
  refine lv_icmp_le hx hb dc_O_numberWithout_2 rfl (fun hc => ?_) (fun hc => ?_)
  · have h := h1 hc
    refine lv_iload_n hx hb dc_O_numberWithout_11 rfl (lv_at hl 0 rfl) ?_
    exact ow_iret hx hb hr hlocks hB h dc_O_numberWithout_12
  · have h := h2 hc
    refine lv_iload_n hx hb dc_O_numberWithout_5 rfl (lv_at hl 0 rfl) ?_
    refine lv_iconst (v := 1) hx hb dc_O_numberWithout_6 rfl ?_
    refine lv_isub hx hb dc_O_numberWithout_7 ?_
    refine lv_goto hx hb dc_O_numberWithout_8 rfl ?_
    exact ow_iret hx hb hr hlocks hB h dc_O_numberWithout_12
abbrev rm_O_without : Room := { frames := 1, cells := 0, slots := 0, locals := 21 }
theorem hd_O_without : yn_O_without.cls ≠ "java/lang/invoke/MethodHandle" ∧ yn_O_without.cls ≠ "java/lang/invoke/VarHandle" ∧ (parseMethodDescriptor yn_O_without.desc).map (fun d => d.parameters.length) = some 3 := by decide +kernel
set_option maxHeartbeats 4000000 in
set_option maxRecDepth 100000 in
theorem ct_O_without (l : Launch) (G : List (Nat × Nat)) (hG : ow_lay G) (D : va_G) (cA : Nat → ClassId) (ad : Nat → Nat) (F : Nat) (x0 : Int32) (x1 : Int32) (x2 : Int32) (M : om_M) (Q : Int32 → om_M → Prop) (h : wp_O_without F x0 x1 x2 M Q) : Met l yn_O_without (ow_ws yn_O_without cb_O_without 7 (some .int)) rm_O_without (ow_Pc G D cA ad M [.int x0, .int x1, .int x2]) (ow_Qi G D cA ad Q) 0 0 (ow_A G ad) := by
  refine Met.ofW (cc := cb_O_without) (maxL := 7) (ret := (some .int)) (by decide) rfl ?_
  intro p e s m args below meth c s₁ B hml hv
  obtain ⟨rfl, hB⟩ := hv
  have hx := B.exec
  have hb := B.bytes
  have hr := B.returns
  have hlocks := B.notSynchronized
  have hts : ∀ w ∈ lw_g, w.before ([.int x0, .int x1, .int x2] : List Value).toArray s = true := fun w h => atoms_spec (ws := ow_ws yn_O_without cb_O_without 7 (some .int)) B.pre w (List.mem_cons_of_mem _ h)
  have hown : s.vm.findClass "BallotDesk$Order" = some m.cls := findClass_of_methodNamed B.named
  clear B
  have L45 : ∀  (K8 : om_M × Int32 × Int32 × Int32 → Prop) (hK8 : ∀ (M : om_M) (x3 : Int32) (x4 : Int32) (x5 : Int32) (H : Heap) (locs : List Loc) (ls : Array Slot), K8 (M, x3, x4, x5) → ow_B G D cA ad (ow_A G ad) M s s.heap H locs → lv_has ls 7 [(0, .int x0), (1, .int x1), (2, .int x2), (3, .int x3), (4, .int x4), (5, .int x5)] → W p l e rm_O_without s m ([.int x0, .int x1, .int x2] : List Value).toArray below meth c H locs 0 0 (MQ below (ow_Qi G D cA ad Q) ([.int x0, .int x1, .int x2] : List Value).toArray s 0 0 (ow_A G ad)) (F0 m 8 ls [])) (M : om_M) (x3 : Int32) (x4 : Int32) (x5 : Int32)  (H : Heap) (locs : List Loc) (ls : Array Slot), wp_O_without_45 F x0 x1 x2 Q  K8 M x3 x4 x5  → ow_B G D cA ad (ow_A G ad) M s s.heap H locs → lv_has ls 7 [(0, .int x0), (1, .int x1), (2, .int x2), (3, .int x3), (4, .int x4), (5, .int x5)] → W p l e rm_O_without s m ([.int x0, .int x1, .int x2] : List Value).toArray below meth c H locs 0 0 (MQ below (ow_Qi G D cA ad Q) ([.int x0, .int x1, .int x2] : List Value).toArray s 0 0 (ow_A G ad)) (F0 m 45 ls []) := by
    intro  K8 hK8 M x3 x4 x5 H locs ls h hB hl
    refine lv_iinc hx hb dc_O_without_45 hl (k := 5) rfl rfl (by decide) rfl (fun ls hl => ?_)
    refine lv_goto hx hb dc_O_without_48 rfl ?_
    exact hK8 _ _ _ _ _ _ _ h hB (lv_sub hl [1, 2, 3, 4, 5, 0] rfl)
  have B8 : ∀   (K8 : om_M × Int32 × Int32 × Int32 → Prop) (hK8 : ∀ (M : om_M) (x3 : Int32) (x4 : Int32) (x5 : Int32) (H : Heap) (locs : List Loc) (ls : Array Slot), K8 (M, x3, x4, x5) → ow_B G D cA ad (ow_A G ad) M s s.heap H locs → lv_has ls 7 [(0, .int x0), (1, .int x1), (2, .int x2), (3, .int x3), (4, .int x4), (5, .int x5)] → W p l e rm_O_without s m ([.int x0, .int x1, .int x2] : List Value).toArray below meth c H locs 0 0 (MQ below (ow_Qi G D cA ad Q) ([.int x0, .int x1, .int x2] : List Value).toArray s 0 0 (ow_A G ad)) (F0 m 8 ls [])) (M : om_M) (x3 : Int32) (x4 : Int32) (x5 : Int32) (H : Heap) (locs : List Loc) (ls : Array Slot), wp_O_without_8b F x0 x1 x2 Q   K8 M x3 x4 x5 → ow_B G D cA ad (ow_A G ad) M s s.heap H locs → lv_has ls 7 [(0, .int x0), (1, .int x1), (2, .int x2), (3, .int x3), (4, .int x4), (5, .int x5)] → W p l e rm_O_without s m ([.int x0, .int x1, .int x2] : List Value).toArray below meth c H locs 0 0 (MQ below (ow_Qi G D cA ad Q) ([.int x0, .int x1, .int x2] : List Value).toArray s 0 0 (ow_A G ad)) (F0 m 8 ls []) := by
    intro   K8 hK8 M x3 x4 x5 H locs ls h hB hl
    refine lv_iload hx hb dc_O_without_8 (lv_at hl 5 rfl) ?_
    refine lv_iload_n hx hb dc_O_without_10 rfl (lv_at hl 2 rfl) ?_
    obtain ⟨h1, h2⟩ := h
    refine lv_icmp_ge hx hb dc_O_without_11 rfl (fun hc => ?_) (fun hc => ?_)
    · have h := h1 hc
      refine lv_iload_n hx hb dc_O_without_51 rfl (lv_at hl 3 rfl) ?_
      exact ow_iret hx hb hr hlocks hB h dc_O_without_52
    · have h := h2 hc
      refine lv_iload_n hx hb dc_O_without_14 rfl (lv_at hl 0 rfl) ?_
      refine lv_iload hx hb dc_O_without_15 (lv_at hl 5 rfl) ?_
      refine ow_calli (va_runS (As := [.int x0, .int x5]) (rest := []) ⟨hx, hb, hml, hown, hts⟩ (ct_O_at l G hG D cA ad F _ _ _ _ h) ⟨ow_cb 2 hts mw_314 mw_3 mw_408 rfl rfl hd_O_at ⟨Nat.le_of_ble_eq_true rfl, Nat.le_of_ble_eq_true rfl⟩, hts _ mw_313⟩ (ow_preS hB) rfl rfl hl.1 rfl (lv_room (Nat.le_of_ble_eq_true rfl)) dc_O_without_17 ⟨Nat.zero_le _, Nat.zero_le _⟩) hB (fun r2 M1 H locs h hB => ?_)
      refine lv_istore hx hb dc_O_without_20 hl (by decide) rfl (fun ls hl => ?_)
      refine lv_iload hx hb dc_O_without_22 (lv_at hl 0 rfl) ?_
      refine lv_iload_n hx hb dc_O_without_24 rfl (lv_at hl 2 rfl) ?_
      obtain ⟨h1, h2⟩ := h
      refine lv_icmp_eq hx hb dc_O_without_25 rfl (fun hc => ?_) (fun hc => ?_)
      · have h := h1 hc
        exact L45 K8 hK8 _ _ _ _ _ _ _ h hB (lv_sub hl [1, 2, 3, 4, 5, 6] rfl)
      · have h := h2 hc
        refine lv_iload_n hx hb dc_O_without_28 rfl (lv_at hl 4 rfl) ?_
        refine lv_iload hx hb dc_O_without_29 (lv_at hl 0 rfl) ?_
        refine lv_iload_n hx hb dc_O_without_31 rfl (lv_at hl 2 rfl) ?_
        refine ow_calli (va_runS (As := [.int r2, .int x1]) (rest := [.int x3]) ⟨hx, hb, hml, hown, hts⟩ (ct_O_numberWithout l G hG D cA ad F _ _ _ _ h) ⟨ow_cb 2 hts mw_748 mw_3 mw_746 rfl rfl hd_O_numberWithout ⟨Nat.le_of_ble_eq_true rfl, Nat.le_of_ble_eq_true rfl⟩, hts _ mw_747⟩ (ow_preS hB) rfl rfl hl.1 rfl (lv_room (Nat.le_of_ble_eq_true rfl)) dc_O_without_32 ⟨Nat.zero_le _, Nat.zero_le _⟩) hB (fun r4 M3 H locs h hB => ?_)
        refine lv_iconst (v := 3) hx hb dc_O_without_35 rfl ?_
        refine lv_iload hx hb dc_O_without_36 (lv_at hl 5 rfl) ?_
        refine lv_imul hx hb dc_O_without_38 ?_
        refine lv_ishl hx hb dc_O_without_39 ?_
        refine lv_ior hx hb dc_O_without_40 ?_
        refine lv_istore_n hx hb dc_O_without_41 rfl hl (by decide) rfl (fun ls hl => ?_)
        refine lv_iinc hx hb dc_O_without_42 hl (k := 5) rfl rfl (by decide) rfl (fun ls hl => ?_)
        exact L45 K8 hK8 _ _ _ _ _ _ _ h hB (lv_sub hl [3, 4, 5, 1, 0, 6] rfl)
  have L8 : ∀   (M : om_M) (x3 : Int32) (x4 : Int32) (x5 : Int32) (H : Heap) (locs : List Loc) (ls : Array Slot), wp_O_without_8 F x0 x1 x2 Q   M x3 x4 x5 → ow_B G D cA ad (ow_A G ad) M s s.heap H locs → lv_has ls 7 [(0, .int x0), (1, .int x1), (2, .int x2), (3, .int x3), (4, .int x4), (5, .int x5)] → W p l e rm_O_without s m ([.int x0, .int x1, .int x2] : List Value).toArray below meth c H locs 0 0 (MQ below (ow_Qi G D cA ad Q) ([.int x0, .int x1, .int x2] : List Value).toArray s 0 0 (ow_A G ad)) (F0 m 8 ls []) := by
    have step : ∀ (k : Nat) (M : om_M) (x3 : Int32) (x4 : Int32) (x5 : Int32) (H : Heap) (locs : List Loc) (ls : Array Slot), ow_lp (fun (z : om_M × Int32 × Int32 × Int32) K => wp_O_without_8b F x0 x1 x2 Q   K z.1 z.2.1 z.2.2.1 z.2.2.2) k (M, x3, x4, x5) → ow_B G D cA ad (ow_A G ad) M s s.heap H locs → lv_has ls 7 [(0, .int x0), (1, .int x1), (2, .int x2), (3, .int x3), (4, .int x4), (5, .int x5)] → W p l e rm_O_without s m ([.int x0, .int x1, .int x2] : List Value).toArray below meth c H locs 0 0 (MQ below (ow_Qi G D cA ad Q) ([.int x0, .int x1, .int x2] : List Value).toArray s 0 0 (ow_A G ad)) (F0 m 8 ls []) := by
      intro k
      induction k with
      | zero => intro M x3 x4 x5 H locs ls h hB hl; exact False.elim h
      | succ k ih => intro M x3 x4 x5 H locs ls h hB hl; exact B8   (ow_lp _ k) (fun M x3 x4 x5 H locs ls h hB  hl => ih M x3 x4 x5  H locs ls h hB hl) M x3 x4 x5 H locs ls h hB hl
    intro M x3 x4 x5 H locs ls h hB hl
    exact step F M x3 x4 x5 H locs ls h hB hl
  have hl := lv_entry ([.int x0, .int x1, .int x2]) (n := 7) (Nat.le_of_ble_eq_true rfl)
  rw [lg_entry_eq]
  generalize (lg_sl ([.int x0, .int x1, .int x2]) ++ List.replicate (7 - (lg_sl ([.int x0, .int x1, .int x2])).length) Slot.unset).toArray = ls at hl ⊢
  have hl : lv_has ls 7 [(0, .int x0), (1, .int x1), (2, .int x2)] := hl
  show W p l e rm_O_without s m _ below meth c s.heap [] 0 0 _ _
  refine lv_iconst (v := 0) hx hb dc_O_without_0 rfl ?_
  refine lv_istore_n hx hb dc_O_without_1 rfl hl (by decide) rfl (fun ls hl => ?_)
  refine lv_iconst (v := 0) hx hb dc_O_without_2 rfl ?_
  refine lv_istore hx hb dc_O_without_3 hl (by decide) rfl (fun ls hl => ?_)
  refine lv_iconst (v := 0) hx hb dc_O_without_5 rfl ?_
  refine lv_istore hx hb dc_O_without_6 hl (by decide) rfl (fun ls hl => ?_)
  exact L8 _ _ _ _ _ _ _ h hB (lv_sub hl [3, 4, 5, 2, 1, 0] rfl)
abbrev rm_O_standTogether : Room := { frames := 1, cells := 0, slots := 0, locals := 21 }
theorem hd_O_standTogether : yn_O_standTogether.cls ≠ "java/lang/invoke/MethodHandle" ∧ yn_O_standTogether.cls ≠ "java/lang/invoke/VarHandle" ∧ (parseMethodDescriptor yn_O_standTogether.desc).map (fun d => d.parameters.length) = some 3 := by decide +kernel
set_option maxHeartbeats 4000000 in
set_option maxRecDepth 100000 in
theorem ct_O_standTogether (l : Launch) (G : List (Nat × Nat)) (hG : ow_lay G) (D : va_G) (cA : Nat → ClassId) (ad : Nat → Nat) (F : Nat) (x0 : Int32) (x1 : Int32) (x2 : Int32) (M : om_M) (Q : Int32 → om_M → Prop) (h : wp_O_standTogether F x0 x1 x2 M Q) : Met l yn_O_standTogether (ow_ws yn_O_standTogether cb_O_standTogether 6 (some .boolean)) rm_O_standTogether (ow_Pc G D cA ad M [.int x0, .int x1, .int x2]) (ow_Qi G D cA ad Q) 0 0 (ow_A G ad) := by
  refine Met.ofW (cc := cb_O_standTogether) (maxL := 6) (ret := (some .boolean)) (by decide) rfl ?_
  intro p e s m args below meth c s₁ B hml hv
  obtain ⟨rfl, hB⟩ := hv
  have hx := B.exec
  have hb := B.bytes
  have hr := B.returns
  have hlocks := B.notSynchronized
  have hts : ∀ w ∈ lw_g, w.before ([.int x0, .int x1, .int x2] : List Value).toArray s = true := fun w h => atoms_spec (ws := ow_ws yn_O_standTogether cb_O_standTogether 6 (some .boolean)) B.pre w (List.mem_cons_of_mem _ h)
  have hown : s.vm.findClass "BallotDesk$Order" = some m.cls := findClass_of_methodNamed B.named
  clear B
  have L44 : ∀   (M : om_M) (x3 : Int32) (x4 : Int32)  (H : Heap) (locs : List Loc) (ls : Array Slot), wp_O_standTogether_44 F x0 x1 x2 Q   M x3 x4  → ow_B G D cA ad (ow_A G ad) M s s.heap H locs → lv_has ls 6 [(1, .int x1), (3, .int x3), (4, .int x4)] → W p l e rm_O_standTogether s m ([.int x0, .int x1, .int x2] : List Value).toArray below meth c H locs 0 0 (MQ below (ow_Qi G D cA ad Q) ([.int x0, .int x1, .int x2] : List Value).toArray s 0 0 (ow_A G ad)) (F0 m 44 ls []) := by
    intro   M x3 x4 H locs ls h hB hl
    refine lv_iload hx hb dc_O_standTogether_44 (lv_at hl 2 rfl) ?_
    refine lv_iload_n hx hb dc_O_standTogether_46 rfl (lv_at hl 1 rfl) ?_
    refine lv_isub hx hb dc_O_standTogether_47 ?_
    refine lv_iconst (v := 1) hx hb dc_O_standTogether_48 rfl ?_
    refine lv_iadd hx hb dc_O_standTogether_49 ?_
    refine lv_iload_n hx hb dc_O_standTogether_50 rfl (lv_at hl 0 rfl) ?_
    refine ow_calli (va_runS (As := [.int x1]) (rest := [.int ((x4 - x3) + 1)]) ⟨hx, hb, hml, hown, hts⟩ (ct_JI_bitCount l G hG D cA ad F _ _ _ h) ⟨ow_cb 1 hts mw_263 mw_20 mw_775 rfl rfl hd_JI_bitCount ⟨Nat.le_of_ble_eq_true rfl, Nat.le_of_ble_eq_true rfl⟩, hts _ mw_262⟩ (ow_preS hB) rfl rfl hl.1 rfl (lv_room (Nat.le_of_ble_eq_true rfl)) dc_O_standTogether_51 ⟨Nat.zero_le _, Nat.zero_le _⟩) hB (fun r2 M1 H locs h hB => ?_)
    obtain ⟨h1, h2⟩ := h
    refine lv_icmp_ne hx hb dc_O_standTogether_54 rfl (fun hc => ?_) (fun hc => ?_)
    · have h := h2 hc
      refine lv_iconst (v := 0) hx hb dc_O_standTogether_61 rfl ?_
      exact ow_zret hx hb hr hlocks (by decide) hB h dc_O_standTogether_62
    · have h := h1 hc
      refine lv_iconst (v := 1) hx hb dc_O_standTogether_57 rfl ?_
      refine lv_goto hx hb dc_O_standTogether_58 rfl ?_
      exact ow_zret hx hb hr hlocks (by decide) hB h dc_O_standTogether_62
  have L38 : ∀  (K8 : om_M × Int32 × Int32 × Int32 → Prop) (hK8 : ∀ (M : om_M) (x3 : Int32) (x4 : Int32) (x5 : Int32) (H : Heap) (locs : List Loc) (ls : Array Slot), K8 (M, x3, x4, x5) → ow_B G D cA ad (ow_A G ad) M s s.heap H locs → lv_has ls 6 [(0, .int x0), (1, .int x1), (2, .int x2), (3, .int x3), (4, .int x4), (5, .int x5)] → W p l e rm_O_standTogether s m ([.int x0, .int x1, .int x2] : List Value).toArray below meth c H locs 0 0 (MQ below (ow_Qi G D cA ad Q) ([.int x0, .int x1, .int x2] : List Value).toArray s 0 0 (ow_A G ad)) (F0 m 8 ls [])) (M : om_M) (x3 : Int32) (x4 : Int32) (x5 : Int32)  (H : Heap) (locs : List Loc) (ls : Array Slot), wp_O_standTogether_38 F x0 x1 x2 Q  K8 M x3 x4 x5  → ow_B G D cA ad (ow_A G ad) M s s.heap H locs → lv_has ls 6 [(0, .int x0), (1, .int x1), (2, .int x2), (3, .int x3), (4, .int x4), (5, .int x5)] → W p l e rm_O_standTogether s m ([.int x0, .int x1, .int x2] : List Value).toArray below meth c H locs 0 0 (MQ below (ow_Qi G D cA ad Q) ([.int x0, .int x1, .int x2] : List Value).toArray s 0 0 (ow_A G ad)) (F0 m 38 ls []) := by
    intro  K8 hK8 M x3 x4 x5 H locs ls h hB hl
    refine lv_iinc hx hb dc_O_standTogether_38 hl (k := 5) rfl rfl (by decide) rfl (fun ls hl => ?_)
    refine lv_goto hx hb dc_O_standTogether_41 rfl ?_
    exact hK8 _ _ _ _ _ _ _ h hB (lv_sub hl [1, 2, 3, 4, 5, 0] rfl)
  have B8 : ∀   (K8 : om_M × Int32 × Int32 × Int32 → Prop) (hK8 : ∀ (M : om_M) (x3 : Int32) (x4 : Int32) (x5 : Int32) (H : Heap) (locs : List Loc) (ls : Array Slot), K8 (M, x3, x4, x5) → ow_B G D cA ad (ow_A G ad) M s s.heap H locs → lv_has ls 6 [(0, .int x0), (1, .int x1), (2, .int x2), (3, .int x3), (4, .int x4), (5, .int x5)] → W p l e rm_O_standTogether s m ([.int x0, .int x1, .int x2] : List Value).toArray below meth c H locs 0 0 (MQ below (ow_Qi G D cA ad Q) ([.int x0, .int x1, .int x2] : List Value).toArray s 0 0 (ow_A G ad)) (F0 m 8 ls [])) (M : om_M) (x3 : Int32) (x4 : Int32) (x5 : Int32) (H : Heap) (locs : List Loc) (ls : Array Slot), wp_O_standTogether_8b F x0 x1 x2 Q   K8 M x3 x4 x5 → ow_B G D cA ad (ow_A G ad) M s s.heap H locs → lv_has ls 6 [(0, .int x0), (1, .int x1), (2, .int x2), (3, .int x3), (4, .int x4), (5, .int x5)] → W p l e rm_O_standTogether s m ([.int x0, .int x1, .int x2] : List Value).toArray below meth c H locs 0 0 (MQ below (ow_Qi G D cA ad Q) ([.int x0, .int x1, .int x2] : List Value).toArray s 0 0 (ow_A G ad)) (F0 m 8 ls []) := by
    intro   K8 hK8 M x3 x4 x5 H locs ls h hB hl
    refine lv_iload hx hb dc_O_standTogether_8 (lv_at hl 5 rfl) ?_
    refine lv_iload_n hx hb dc_O_standTogether_10 rfl (lv_at hl 2 rfl) ?_
    obtain ⟨h1, h2⟩ := h
    refine lv_icmp_ge hx hb dc_O_standTogether_11 rfl (fun hc => ?_) (fun hc => ?_)
    · have h := h1 hc
      exact L44 _ _ _ _ _ _ h hB (lv_sub hl [1, 3, 4] rfl)
    · have h := h2 hc
      refine lv_iload_n hx hb dc_O_standTogether_14 rfl (lv_at hl 1 rfl) ?_
      refine lv_iload_n hx hb dc_O_standTogether_15 rfl (lv_at hl 0 rfl) ?_
      refine lv_iload hx hb dc_O_standTogether_16 (lv_at hl 5 rfl) ?_
      refine ow_calli (va_runS (As := [.int x0, .int x5]) (rest := [.int x1]) ⟨hx, hb, hml, hown, hts⟩ (ct_O_at l G hG D cA ad F _ _ _ _ h) ⟨ow_cb 2 hts mw_314 mw_3 mw_408 rfl rfl hd_O_at ⟨Nat.le_of_ble_eq_true rfl, Nat.le_of_ble_eq_true rfl⟩, hts _ mw_313⟩ (ow_preS hB) rfl rfl hl.1 rfl (lv_room (Nat.le_of_ble_eq_true rfl)) dc_O_standTogether_18 ⟨Nat.zero_le _, Nat.zero_le _⟩) hB (fun r4 M3 H locs h hB => ?_)
      refine lv_ishr hx hb dc_O_standTogether_21 ?_
      refine lv_iconst (v := 1) hx hb dc_O_standTogether_22 rfl ?_
      refine lv_iand hx hb dc_O_standTogether_23 ?_
      obtain ⟨h1, h2⟩ := h
      refine lv_if_eq hx hb dc_O_standTogether_24 rfl (fun hc => ?_) (fun hc => ?_)
      · have h := h1 hc
        exact L38 K8 hK8 _ _ _ _ _ _ _ h hB (lv_sub hl [0, 1, 2, 3, 4, 5] rfl)
      · have h := h2 hc
        refine lv_iload_n hx hb dc_O_standTogether_27 rfl (lv_at hl 3 rfl) ?_
        refine lv_iload hx hb dc_O_standTogether_28 (lv_at hl 5 rfl) ?_
        refine va_mmin hx hb (hml.trans hl.1.symm) hown (hts _ mw_774) (hts _ mw_294) (hts _ mw_19) (hts _ mw_295) (Nat.le_of_ble_eq_true rfl) (Nat.le_of_ble_eq_true rfl) (Nat.zero_le _) (Nat.zero_le _) dc_O_standTogether_30 ?_
        refine lv_istore_n hx hb dc_O_standTogether_33 rfl hl (by decide) rfl (fun ls hl => ?_)
        refine lv_iload hx hb dc_O_standTogether_34 (lv_at hl 5 rfl) ?_
        refine lv_istore hx hb dc_O_standTogether_36 hl (by decide) rfl (fun ls hl => ?_)
        exact L38 K8 hK8 _ _ _ _ _ _ _ h hB (lv_sub hl [2, 3, 4, 1, 0, 5] rfl)
  have L8 : ∀   (M : om_M) (x3 : Int32) (x4 : Int32) (x5 : Int32) (H : Heap) (locs : List Loc) (ls : Array Slot), wp_O_standTogether_8 F x0 x1 x2 Q   M x3 x4 x5 → ow_B G D cA ad (ow_A G ad) M s s.heap H locs → lv_has ls 6 [(0, .int x0), (1, .int x1), (2, .int x2), (3, .int x3), (4, .int x4), (5, .int x5)] → W p l e rm_O_standTogether s m ([.int x0, .int x1, .int x2] : List Value).toArray below meth c H locs 0 0 (MQ below (ow_Qi G D cA ad Q) ([.int x0, .int x1, .int x2] : List Value).toArray s 0 0 (ow_A G ad)) (F0 m 8 ls []) := by
    have step : ∀ (k : Nat) (M : om_M) (x3 : Int32) (x4 : Int32) (x5 : Int32) (H : Heap) (locs : List Loc) (ls : Array Slot), ow_lp (fun (z : om_M × Int32 × Int32 × Int32) K => wp_O_standTogether_8b F x0 x1 x2 Q   K z.1 z.2.1 z.2.2.1 z.2.2.2) k (M, x3, x4, x5) → ow_B G D cA ad (ow_A G ad) M s s.heap H locs → lv_has ls 6 [(0, .int x0), (1, .int x1), (2, .int x2), (3, .int x3), (4, .int x4), (5, .int x5)] → W p l e rm_O_standTogether s m ([.int x0, .int x1, .int x2] : List Value).toArray below meth c H locs 0 0 (MQ below (ow_Qi G D cA ad Q) ([.int x0, .int x1, .int x2] : List Value).toArray s 0 0 (ow_A G ad)) (F0 m 8 ls []) := by
      intro k
      induction k with
      | zero => intro M x3 x4 x5 H locs ls h hB hl; exact False.elim h
      | succ k ih => intro M x3 x4 x5 H locs ls h hB hl; exact B8   (ow_lp _ k) (fun M x3 x4 x5 H locs ls h hB  hl => ih M x3 x4 x5  H locs ls h hB hl) M x3 x4 x5 H locs ls h hB hl
    intro M x3 x4 x5 H locs ls h hB hl
    exact step F M x3 x4 x5 H locs ls h hB hl
  have hl := lv_entry ([.int x0, .int x1, .int x2]) (n := 6) (Nat.le_of_ble_eq_true rfl)
  rw [lg_entry_eq]
  generalize (lg_sl ([.int x0, .int x1, .int x2]) ++ List.replicate (6 - (lg_sl ([.int x0, .int x1, .int x2])).length) Slot.unset).toArray = ls at hl ⊢
  have hl : lv_has ls 6 [(0, .int x0), (1, .int x1), (2, .int x2)] := hl
  show W p l e rm_O_standTogether s m _ below meth c s.heap [] 0 0 _ _
  refine lv_iload_n hx hb dc_O_standTogether_0 rfl (lv_at hl 2 rfl) ?_
  refine lv_istore_n hx hb dc_O_standTogether_1 rfl hl (by decide) rfl (fun ls hl => ?_)
  refine lv_iconst (v := 0) hx hb dc_O_standTogether_2 rfl ?_
  refine lv_istore hx hb dc_O_standTogether_3 hl (by decide) rfl (fun ls hl => ?_)
  refine lv_iconst (v := 0) hx hb dc_O_standTogether_5 rfl ?_
  refine lv_istore hx hb dc_O_standTogether_6 hl (by decide) rfl (fun ls hl => ?_)
  exact L8 _ _ _ _ _ _ _ h hB (lv_sub hl [3, 4, 5, 2, 1, 0] rfl)
