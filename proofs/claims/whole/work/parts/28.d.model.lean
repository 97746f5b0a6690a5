abbrev rm_M_init : Room := { frames := 1, cells := 17, slots := 795, locals := 21 }
theorem hd_M_init : yn_M_init.cls ≠ "java/lang/invoke/MethodHandle" ∧ yn_M_init.cls ≠ "java/lang/invoke/VarHandle" ∧ (parseMethodDescriptor yn_M_init.desc).map (fun d => d.parameters.length) = some 0 := by decide +kernel
set_option maxHeartbeats 8000000 in
set_option maxRecDepth 100000 in
theorem cc_M_init (l : Launch) (D : va_G) (cA : Nat → ClassId) (b F : Nat) (Q : om_M → Prop) (h : wp_M_reset F 0 om_Mi Q) : Met l yn_M_init (ow_ws yn_M_init cb_M_init 1 none) rm_M_init (cw_Pc D cA b 9 [.int 0, .int 0, .int 0, .null, .null, .null, .null, .null, .int 0, .int 0, .null, .null, .null, .null, .null, .null, .null, .null, .null, .null, .null, .null, .int 0, .int 0]) (cw_QQ D cA b cg_M Q) 17 795 (fun q => b ≤ q) := by
  refine Met.ofW (cc := cb_M_init) (maxL := 1) (ret := none) (by decide) rfl ?_
  intro p e s m args below meth c s₁ B hml hv
  obtain ⟨rfl, hz, hB, hN, hA⟩ := cw_entry hv
  have hx := B.exec
  have hb := B.bytes
  have hr := B.returns
  have hlocks := B.notSynchronized
  have hin : meth.name = "<init>" := (name_of_methodNamed B.named B.method).1
  have hts : ∀ w ∈ lw_g, w.before ([.ref b] : List Value).toArray s = true := fun w h => atoms_spec (ws := ow_ws yn_M_init cb_M_init 1 none) B.pre w (List.mem_cons_of_mem _ h)
  have hown : s.vm.findClass "BallotDeskModel" = some m.cls := findClass_of_methodNamed B.named
  clear B hv
  have hl := lv_entry ([.ref b]) (n := 1) (Nat.le_of_ble_eq_true rfl)
  rw [lg_entry_eq]
  generalize (lg_sl ([.ref b]) ++ List.replicate (1 - (lg_sl ([.ref b])).length) Slot.unset).toArray = ls at hl ⊢
  have hl : lv_has ls 1 [(0, .ref b)] := hl
  show W p l e rm_M_init s m _ below meth c s.heap [] 0 0 _ _
  have hz0 := hz
  suffices K : ∀ (H : Heap) (locs : List Loc) (r0 : va_W), r0 = [] → H.size = b + 1 → cw_B D cA (fun q => b ≤ q) ((b, .inr (9, [.int 0, .int 0, .int 0, .null, .null, .null, .null, .null, .int 0, .int 0, .null, .null, .null, .null, .null, .null, .null, .null, .null, .null, .null, .null, .int 0, .int 0])) :: r0) s s.heap H locs → W p l e rm_M_init s m ([.ref b] : List Value).toArray below meth c H locs 0 0 (MQ below (cw_QQ D cA b cg_M Q) ([.ref b] : List Value).toArray s 17 795 (fun q => b ≤ q)) (F0 m 0 ls []) from K s.heap [] [] rfl hz hB
  clear hB hz
  intro H locs r0 e0 hz hB
  refine lv_aload_n hx hb dc_M_init_0 rfl (lv_at hl 0 rfl) ?_
  refine W.objInit hx hb hown (hts _ mw_792) (hts _ mw_29) (hts _ mw_30) rfl (by rw [hml]; exact hl.1) rfl dc_M_init_1 (Nat.le_of_ble_eq_true rfl) (Nat.le_of_ble_eq_true rfl) ?_
  refine W.eq (g2 := F0 m 4 ls []) rfl ?_
  refine lv_aload_n hx hb dc_M_init_4 rfl (lv_at hl 0 rfl) ?_
  refine lv_iconst (v := 4) hx hb dc_M_init_5 rfl ?_
  refine cw_putIz hx hb hts iw_M yf_M of_M nf_M hown hB rfl 1 (by decide) mw_798 rfl (of_M 1 (by decide)) (Nat.le_of_ble_eq_true rfl) dc_M_init_6 (fun H1 locs e hB => ?_)
  rw [← e] at hz
  generalize H1 = H at hB hz ⊢
  have hB : cw_B D cA (fun q => b ≤ q) ((b, .inr (9, [.int 0, .int 4, .int 0, .null, .null, .null, .null, .null, .int 0, .int 0, .null, .null, .null, .null, .null, .null, .null, .null, .null, .null, .null, .null, .int 0, .int 0])) :: r0) s s.heap H locs := hB
  refine lv_aload_n hx hb dc_M_init_9 rfl (lv_at hl 0 rfl) ?_
  refine lv_sipush (v := 140) hx hb dc_M_init_10 rfl ?_
  refine cw_newaI (N := 140) hx hb hts hB hA hz (by decide) rfl (by decide) (Nat.le_of_ble_eq_true rfl) (Nat.le_of_ble_eq_true rfl) dc_M_init_13 (fun H hz hB => ?_)
  have hB : cw_B D cA (fun q => b ≤ q) ((b, .inr (9, [.int 0, .int 4, .int 0, .null, .null, .null, .null, .null, .int 0, .int 0, .null, .null, .null, .null, .null, .null, .null, .null, .null, .null, .null, .null, .int 0, .int 0])) :: (r0 ++ ow_wl [(0, 140)] cA (aw (b + 1)) om_0)) s s.heap H locs := hB
  generalize e1 : r0 ++ ow_wl [(0, 140)] cA (aw (b + 1)) om_0 = r1 at hB
  refine cw_putF hx hb hts iw_M yf_M of_M nf_M hown hB rfl 3 (by decide) mw_800 rfl hin rfl (of_M 3 (by decide)) rfl rfl (Nat.le_of_ble_eq_true rfl) dc_M_init_15 (fun H1 locs e hB => ?_)
  rw [← e] at hz
  generalize H1 = H at hB hz ⊢
  have hB : cw_B D cA (fun q => b ≤ q) ((b, .inr (9, [.int 0, .int 4, .int 0, .ref (b + 1), .null, .null, .null, .null, .int 0, .int 0, .null, .null, .null, .null, .null, .null, .null, .null, .null, .null, .null, .null, .int 0, .int 0])) :: r1) s s.heap H locs := hB
  refine lv_aload_n hx hb dc_M_init_18 rfl (lv_at hl 0 rfl) ?_
  refine lv_bipush (v := 20) hx hb dc_M_init_19 rfl ?_
  refine cw_newaI (N := 20) hx hb hts hB hA hz (by decide) rfl (by decide) (Nat.le_of_ble_eq_true rfl) (Nat.le_of_ble_eq_true rfl) dc_M_init_21 (fun H hz hB => ?_)
  have hB : cw_B D cA (fun q => b ≤ q) ((b, .inr (9, [.int 0, .int 4, .int 0, .ref (b + 1), .null, .null, .null, .null, .int 0, .int 0, .null, .null, .null, .null, .null, .null, .null, .null, .null, .null, .null, .null, .int 0, .int 0])) :: (r1 ++ ow_wl [(0, 20)] cA (aw (b + 2)) om_0)) s s.heap H locs := hB
  generalize e2 : r1 ++ ow_wl [(0, 20)] cA (aw (b + 2)) om_0 = r2 at hB
  refine cw_putF hx hb hts iw_M yf_M of_M nf_M hown hB rfl 4 (by decide) mw_801 rfl hin rfl (of_M 4 (by decide)) rfl rfl (Nat.le_of_ble_eq_true rfl) dc_M_init_23 (fun H1 locs e hB => ?_)
  rw [← e] at hz
  generalize H1 = H at hB hz ⊢
  have hB : cw_B D cA (fun q => b ≤ q) ((b, .inr (9, [.int 0, .int 4, .int 0, .ref (b + 1), .ref (b + 2), .null, .null, .null, .int 0, .int 0, .null, .null, .null, .null, .null, .null, .null, .null, .null, .null, .null, .null, .int 0, .int 0])) :: r2) s s.heap H locs := hB
  refine lv_aload_n hx hb dc_M_init_26 rfl (lv_at hl 0 rfl) ?_
  refine lv_bipush (v := 7) hx hb dc_M_init_27 rfl ?_
  refine cw_newaI (N := 7) hx hb hts hB hA hz (by decide) rfl (by decide) (Nat.le_of_ble_eq_true rfl) (Nat.le_of_ble_eq_true rfl) dc_M_init_29 (fun H hz hB => ?_)
  have hB : cw_B D cA (fun q => b ≤ q) ((b, .inr (9, [.int 0, .int 4, .int 0, .ref (b + 1), .ref (b + 2), .null, .null, .null, .int 0, .int 0, .null, .null, .null, .null, .null, .null, .null, .null, .null, .null, .null, .null, .int 0, .int 0])) :: (r2 ++ ow_wl [(0, 7)] cA (aw (b + 3)) om_0)) s s.heap H locs := hB
  generalize e3 : r2 ++ ow_wl [(0, 7)] cA (aw (b + 3)) om_0 = r3 at hB
  refine cw_putF hx hb hts iw_M yf_M of_M nf_M hown hB rfl 5 (by decide) mw_802 rfl hin rfl (of_M 5 (by decide)) rfl rfl (Nat.le_of_ble_eq_true rfl) dc_M_init_31 (fun H1 locs e hB => ?_)
  rw [← e] at hz
  generalize H1 = H at hB hz ⊢
  have hB : cw_B D cA (fun q => b ≤ q) ((b, .inr (9, [.int 0, .int 4, .int 0, .ref (b + 1), .ref (b + 2), .ref (b + 3), .null, .null, .int 0, .int 0, .null, .null, .null, .null, .null, .null, .null, .null, .null, .null, .null, .null, .int 0, .int 0])) :: r3) s s.heap H locs := hB
  refine lv_aload_n hx hb dc_M_init_34 rfl (lv_at hl 0 rfl) ?_
  refine lv_bipush (v := 7) hx hb dc_M_init_35 rfl ?_
  refine cw_newaI (N := 7) hx hb hts hB hA hz (by decide) rfl (by decide) (Nat.le_of_ble_eq_true rfl) (Nat.le_of_ble_eq_true rfl) dc_M_init_37 (fun H hz hB => ?_)
  have hB : cw_B D cA (fun q => b ≤ q) ((b, .inr (9, [.int 0, .int 4, .int 0, .ref (b + 1), .ref (b + 2), .ref (b + 3), .null, .null, .int 0, .int 0, .null, .null, .null, .null, .null, .null, .null, .null, .null, .null, .null, .null, .int 0, .int 0])) :: (r3 ++ ow_wl [(0, 7)] cA (aw (b + 4)) om_0)) s s.heap H locs := hB
  generalize e4 : r3 ++ ow_wl [(0, 7)] cA (aw (b + 4)) om_0 = r4 at hB
  refine cw_putF hx hb hts iw_M yf_M of_M nf_M hown hB rfl 6 (by decide) mw_803 rfl hin rfl (of_M 6 (by decide)) rfl rfl (Nat.le_of_ble_eq_true rfl) dc_M_init_39 (fun H1 locs e hB => ?_)
  rw [← e] at hz
  generalize H1 = H at hB hz ⊢
  have hB : cw_B D cA (fun q => b ≤ q) ((b, .inr (9, [.int 0, .int 4, .int 0, .ref (b + 1), .ref (b + 2), .ref (b + 3), .ref (b + 4), .null, .int 0, .int 0, .null, .null, .null, .null, .null, .null, .null, .null, .null, .null, .null, .null, .int 0, .int 0])) :: r4) s s.heap H locs := hB
  refine lv_aload_n hx hb dc_M_init_42 rfl (lv_at hl 0 rfl) ?_
  refine lv_bipush (v := 7) hx hb dc_M_init_43 rfl ?_
  refine cw_newaI (N := 7) hx hb hts hB hA hz (by decide) rfl (by decide) (Nat.le_of_ble_eq_true rfl) (Nat.le_of_ble_eq_true rfl) dc_M_init_45 (fun H hz hB => ?_)
  have hB : cw_B D cA (fun q => b ≤ q) ((b, .inr (9, [.int 0, .int 4, .int 0, .ref (b + 1), .ref (b + 2), .ref (b + 3), .ref (b + 4), .null, .int 0, .int 0, .null, .null, .null, .null, .null, .null, .null, .null, .null, .null, .null, .null, .int 0, .int 0])) :: (r4 ++ ow_wl [(0, 7)] cA (aw (b + 5)) om_0)) s s.heap H locs := hB
  generalize e5 : r4 ++ ow_wl [(0, 7)] cA (aw (b + 5)) om_0 = r5 at hB
  refine cw_putF hx hb hts iw_M yf_M of_M nf_M hown hB rfl 7 (by decide) mw_804 rfl hin rfl (of_M 7 (by decide)) rfl rfl (Nat.le_of_ble_eq_true rfl) dc_M_init_47 (fun H1 locs e hB => ?_)
  rw [← e] at hz
  generalize H1 = H at hB hz ⊢
  have hB : cw_B D cA (fun q => b ≤ q) ((b, .inr (9, [.int 0, .int 4, .int 0, .ref (b + 1), .ref (b + 2), .ref (b + 3), .ref (b + 4), .ref (b + 5), .int 0, .int 0, .null, .null, .null, .null, .null, .null, .null, .null, .null, .null, .null, .null, .int 0, .int 0])) :: r5) s s.heap H locs := hB
  refine lv_aload_n hx hb dc_M_init_50 rfl (lv_at hl 0 rfl) ?_
  refine lv_sipush (v := 154) hx hb dc_M_init_51 rfl ?_
  refine cw_newaI (N := 154) hx hb hts hB hA hz (by decide) rfl (by decide) (Nat.le_of_ble_eq_true rfl) (Nat.le_of_ble_eq_true rfl) dc_M_init_54 (fun H hz hB => ?_)
  have hB : cw_B D cA (fun q => b ≤ q) ((b, .inr (9, [.int 0, .int 4, .int 0, .ref (b + 1), .ref (b + 2), .ref (b + 3), .ref (b + 4), .ref (b + 5), .int 0, .int 0, .null, .null, .null, .null, .null, .null, .null, .null, .null, .null, .null, .null, .int 0, .int 0])) :: (r5 ++ ow_wl [(0, 154)] cA (aw (b + 6)) om_0)) s s.heap H locs := hB
  generalize e6 : r5 ++ ow_wl [(0, 154)] cA (aw (b + 6)) om_0 = r6 at hB
  refine cw_putF hx hb hts iw_M yf_M of_M nf_M hown hB rfl 10 (by decide) mw_807 rfl hin rfl (of_M 10 (by decide)) rfl rfl (Nat.le_of_ble_eq_true rfl) dc_M_init_56 (fun H1 locs e hB => ?_)
  rw [← e] at hz
  generalize H1 = H at hB hz ⊢
  have hB : cw_B D cA (fun q => b ≤ q) ((b, .inr (9, [.int 0, .int 4, .int 0, .ref (b + 1), .ref (b + 2), .ref (b + 3), .ref (b + 4), .ref (b + 5), .int 0, .int 0, .ref (b + 6), .null, .null, .null, .null, .null, .null, .null, .null, .null, .null, .null, .int 0, .int 0])) :: r6) s s.heap H locs := hB
  refine lv_aload_n hx hb dc_M_init_59 rfl (lv_at hl 0 rfl) ?_
  refine lv_bipush (v := 22) hx hb dc_M_init_60 rfl ?_
  refine cw_newaI (N := 22) hx hb hts hB hA hz (by decide) rfl (by decide) (Nat.le_of_ble_eq_true rfl) (Nat.le_of_ble_eq_true rfl) dc_M_init_62 (fun H hz hB => ?_)
  have hB : cw_B D cA (fun q => b ≤ q) ((b, .inr (9, [.int 0, .int 4, .int 0, .ref (b + 1), .ref (b + 2), .ref (b + 3), .ref (b + 4), .ref (b + 5), .int 0, .int 0, .ref (b + 6), .null, .null, .null, .null, .null, .null, .null, .null, .null, .null, .null, .int 0, .int 0])) :: (r6 ++ ow_wl [(0, 22)] cA (aw (b + 7)) om_0)) s s.heap H locs := hB
  generalize e7 : r6 ++ ow_wl [(0, 22)] cA (aw (b + 7)) om_0 = r7 at hB
  refine cw_putF hx hb hts iw_M yf_M of_M nf_M hown hB rfl 11 (by decide) mw_808 rfl hin rfl (of_M 11 (by decide)) rfl rfl (Nat.le_of_ble_eq_true rfl) dc_M_init_64 (fun H1 locs e hB => ?_)
  rw [← e] at hz
  generalize H1 = H at hB hz ⊢
  have hB : cw_B D cA (fun q => b ≤ q) ((b, .inr (9, [.int 0, .int 4, .int 0, .ref (b + 1), .ref (b + 2), .ref (b + 3), .ref (b + 4), .ref (b + 5), .int 0, .int 0, .ref (b + 6), .ref (b + 7), .null, .null, .null, .null, .null, .null, .null, .null, .null, .null, .int 0, .int 0])) :: r7) s s.heap H locs := hB
  refine lv_aload_n hx hb dc_M_init_67 rfl (lv_at hl 0 rfl) ?_
  refine lv_bipush (v := 7) hx hb dc_M_init_68 rfl ?_
  refine cw_newaI (N := 7) hx hb hts hB hA hz (by decide) rfl (by decide) (Nat.le_of_ble_eq_true rfl) (Nat.le_of_ble_eq_true rfl) dc_M_init_70 (fun H hz hB => ?_)
  have hB : cw_B D cA (fun q => b ≤ q) ((b, .inr (9, [.int 0, .int 4, .int 0, .ref (b + 1), .ref (b + 2), .ref (b + 3), .ref (b + 4), .ref (b + 5), .int 0, .int 0, .ref (b + 6), .ref (b + 7), .null, .null, .null, .null, .null, .null, .null, .null, .null, .null, .int 0, .int 0])) :: (r7 ++ ow_wl [(0, 7)] cA (aw (b + 8)) om_0)) s s.heap H locs := hB
  generalize e8 : r7 ++ ow_wl [(0, 7)] cA (aw (b + 8)) om_0 = r8 at hB
  refine cw_putF hx hb hts iw_M yf_M of_M nf_M hown hB rfl 12 (by decide) mw_809 rfl hin rfl (of_M 12 (by decide)) rfl rfl (Nat.le_of_ble_eq_true rfl) dc_M_init_72 (fun H1 locs e hB => ?_)
  rw [← e] at hz
  generalize H1 = H at hB hz ⊢
  have hB : cw_B D cA (fun q => b ≤ q) ((b, .inr (9, [.int 0, .int 4, .int 0, .ref (b + 1), .ref (b + 2), .ref (b + 3), .ref (b + 4), .ref (b + 5), .int 0, .int 0, .ref (b + 6), .ref (b + 7), .ref (b + 8), .null, .null, .null, .null, .null, .null, .null, .null, .null, .int 0, .int 0])) :: r8) s s.heap H locs := hB
  refine lv_aload_n hx hb dc_M_init_75 rfl (lv_at hl 0 rfl) ?_
  refine lv_bipush (v := 7) hx hb dc_M_init_76 rfl ?_
  refine cw_newaI (N := 7) hx hb hts hB hA hz (by decide) rfl (by decide) (Nat.le_of_ble_eq_true rfl) (Nat.le_of_ble_eq_true rfl) dc_M_init_78 (fun H hz hB => ?_)
  have hB : cw_B D cA (fun q => b ≤ q) ((b, .inr (9, [.int 0, .int 4, .int 0, .ref (b + 1), .ref (b + 2), .ref (b + 3), .ref (b + 4), .ref (b + 5), .int 0, .int 0, .ref (b + 6), .ref (b + 7), .ref (b + 8), .null, .null, .null, .null, .null, .null, .null, .null, .null, .int 0, .int 0])) :: (r8 ++ ow_wl [(0, 7)] cA (aw (b + 9)) om_0)) s s.heap H locs := hB
  generalize e9 : r8 ++ ow_wl [(0, 7)] cA (aw (b + 9)) om_0 = r9 at hB
  refine cw_putF hx hb hts iw_M yf_M of_M nf_M hown hB rfl 13 (by decide) mw_810 rfl hin rfl (of_M 13 (by decide)) rfl rfl (Nat.le_of_ble_eq_true rfl) dc_M_init_80 (fun H1 locs e hB => ?_)
  rw [← e] at hz
  generalize H1 = H at hB hz ⊢
  have hB : cw_B D cA (fun q => b ≤ q) ((b, .inr (9, [.int 0, .int 4, .int 0, .ref (b + 1), .ref (b + 2), .ref (b + 3), .ref (b + 4), .ref (b + 5), .int 0, .int 0, .ref (b + 6), .ref (b + 7), .ref (b + 8), .ref (b + 9), .null, .null, .null, .null, .null, .null, .null, .null, .int 0, .int 0])) :: r9) s s.heap H locs := hB
  refine lv_aload_n hx hb dc_M_init_83 rfl (lv_at hl 0 rfl) ?_
  refine lv_bipush (v := 7) hx hb dc_M_init_84 rfl ?_
  refine cw_newaI (N := 7) hx hb hts hB hA hz (by decide) rfl (by decide) (Nat.le_of_ble_eq_true rfl) (Nat.le_of_ble_eq_true rfl) dc_M_init_86 (fun H hz hB => ?_)
  have hB : cw_B D cA (fun q => b ≤ q) ((b, .inr (9, [.int 0, .int 4, .int 0, .ref (b + 1), .ref (b + 2), .ref (b + 3), .ref (b + 4), .ref (b + 5), .int 0, .int 0, .ref (b + 6), .ref (b + 7), .ref (b + 8), .ref (b + 9), .null, .null, .null, .null, .null, .null, .null, .null, .int 0, .int 0])) :: (r9 ++ ow_wl [(0, 7)] cA (aw (b + 10)) om_0)) s s.heap H locs := hB
  generalize e10 : r9 ++ ow_wl [(0, 7)] cA (aw (b + 10)) om_0 = r10 at hB
  refine cw_putF hx hb hts iw_M yf_M of_M nf_M hown hB rfl 14 (by decide) mw_811 rfl hin rfl (of_M 14 (by decide)) rfl rfl (Nat.le_of_ble_eq_true rfl) dc_M_init_88 (fun H1 locs e hB => ?_)
  rw [← e] at hz
  generalize H1 = H at hB hz ⊢
  have hB : cw_B D cA (fun q => b ≤ q) ((b, .inr (9, [.int 0, .int 4, .int 0, .ref (b + 1), .ref (b + 2), .ref (b + 3), .ref (b + 4), .ref (b + 5), .int 0, .int 0, .ref (b + 6), .ref (b + 7), .ref (b + 8), .ref (b + 9), .ref (b + 10), .null, .null, .null, .null, .null, .null, .null, .int 0, .int 0])) :: r10) s s.heap H locs := hB
  refine lv_aload_n hx hb dc_M_init_91 rfl (lv_at hl 0 rfl) ?_
  refine lv_bipush (v := 49) hx hb dc_M_init_92 rfl ?_
  refine cw_newaI (N := 49) hx hb hts hB hA hz (by decide) rfl (by decide) (Nat.le_of_ble_eq_true rfl) (Nat.le_of_ble_eq_true rfl) dc_M_init_94 (fun H hz hB => ?_)
  have hB : cw_B D cA (fun q => b ≤ q) ((b, .inr (9, [.int 0, .int 4, .int 0, .ref (b + 1), .ref (b + 2), .ref (b + 3), .ref (b + 4), .ref (b + 5), .int 0, .int 0, .ref (b + 6), .ref (b + 7), .ref (b + 8), .ref (b + 9), .ref (b + 10), .null, .null, .null, .null, .null, .null, .null, .int 0, .int 0])) :: (r10 ++ ow_wl [(0, 49)] cA (aw (b + 11)) om_0)) s s.heap H locs := hB
  generalize e11 : r10 ++ ow_wl [(0, 49)] cA (aw (b + 11)) om_0 = r11 at hB
  refine cw_putF hx hb hts iw_M yf_M of_M nf_M hown hB rfl 15 (by decide) mw_812 rfl hin rfl (of_M 15 (by decide)) rfl rfl (Nat.le_of_ble_eq_true rfl) dc_M_init_96 (fun H1 locs e hB => ?_)
  rw [← e] at hz
  generalize H1 = H at hB hz ⊢
  have hB : cw_B D cA (fun q => b ≤ q) ((b, .inr (9, [.int 0, .int 4, .int 0, .ref (b + 1), .ref (b + 2), .ref (b + 3), .ref (b + 4), .ref (b + 5), .int 0, .int 0, .ref (b + 6), .ref (b + 7), .ref (b + 8), .ref (b + 9), .ref (b + 10), .ref (b + 11), .null, .null, .null, .null, .null, .null, .int 0, .int 0])) :: r11) s s.heap H locs := hB
  refine lv_aload_n hx hb dc_M_init_99 rfl (lv_at hl 0 rfl) ?_
  refine lv_bipush (v := 49) hx hb dc_M_init_100 rfl ?_
  refine cw_newaI (N := 49) hx hb hts hB hA hz (by decide) rfl (by decide) (Nat.le_of_ble_eq_true rfl) (Nat.le_of_ble_eq_true rfl) dc_M_init_102 (fun H hz hB => ?_)
  have hB : cw_B D cA (fun q => b ≤ q) ((b, .inr (9, [.int 0, .int 4, .int 0, .ref (b + 1), .ref (b + 2), .ref (b + 3), .ref (b + 4), .ref (b + 5), .int 0, .int 0, .ref (b + 6), .ref (b + 7), .ref (b + 8), .ref (b + 9), .ref (b + 10), .ref (b + 11), .null, .null, .null, .null, .null, .null, .int 0, .int 0])) :: (r11 ++ ow_wl [(0, 49)] cA (aw (b + 12)) om_0)) s s.heap H locs := hB
  generalize e12 : r11 ++ ow_wl [(0, 49)] cA (aw (b + 12)) om_0 = r12 at hB
  refine cw_putF hx hb hts iw_M yf_M of_M nf_M hown hB rfl 16 (by decide) mw_813 rfl hin rfl (of_M 16 (by decide)) rfl rfl (Nat.le_of_ble_eq_true rfl) dc_M_init_104 (fun H1 locs e hB => ?_)
  rw [← e] at hz
  generalize H1 = H at hB hz ⊢
  have hB : cw_B D cA (fun q => b ≤ q) ((b, .inr (9, [.int 0, .int 4, .int 0, .ref (b + 1), .ref (b + 2), .ref (b + 3), .ref (b + 4), .ref (b + 5), .int 0, .int 0, .ref (b + 6), .ref (b + 7), .ref (b + 8), .ref (b + 9), .ref (b + 10), .ref (b + 11), .ref (b + 12), .null, .null, .null, .null, .null, .int 0, .int 0])) :: r12) s s.heap H locs := hB
  refine lv_aload_n hx hb dc_M_init_107 rfl (lv_at hl 0 rfl) ?_
  refine lv_bipush (v := 49) hx hb dc_M_init_108 rfl ?_
  refine cw_newaZ (N := 49) hx hb hts hB hA hz (by decide) rfl (by decide) (Nat.le_of_ble_eq_true rfl) (Nat.le_of_ble_eq_true rfl) dc_M_init_110 (fun H hz hB => ?_)
  have hB : cw_B D cA (fun q => b ≤ q) ((b, .inr (9, [.int 0, .int 4, .int 0, .ref (b + 1), .ref (b + 2), .ref (b + 3), .ref (b + 4), .ref (b + 5), .int 0, .int 0, .ref (b + 6), .ref (b + 7), .ref (b + 8), .ref (b + 9), .ref (b + 10), .ref (b + 11), .ref (b + 12), .null, .null, .null, .null, .null, .int 0, .int 0])) :: (r12 ++ ow_wl [(1, 49)] cA (aw (b + 13)) om_0)) s s.heap H locs := hB
  generalize e13 : r12 ++ ow_wl [(1, 49)] cA (aw (b + 13)) om_0 = r13 at hB
  refine cw_putF hx hb hts iw_M yf_M of_M nf_M hown hB rfl 17 (by decide) mw_814 rfl hin rfl (of_M 17 (by decide)) rfl rfl (Nat.le_of_ble_eq_true rfl) dc_M_init_112 (fun H1 locs e hB => ?_)
  rw [← e] at hz
  generalize H1 = H at hB hz ⊢
  have hB : cw_B D cA (fun q => b ≤ q) ((b, .inr (9, [.int 0, .int 4, .int 0, .ref (b + 1), .ref (b + 2), .ref (b + 3), .ref (b + 4), .ref (b + 5), .int 0, .int 0, .ref (b + 6), .ref (b + 7), .ref (b + 8), .ref (b + 9), .ref (b + 10), .ref (b + 11), .ref (b + 12), .ref (b + 13), .null, .null, .null, .null, .int 0, .int 0])) :: r13) s s.heap H locs := hB
  refine lv_aload_n hx hb dc_M_init_115 rfl (lv_at hl 0 rfl) ?_
  refine lv_sipush (v := 128) hx hb dc_M_init_116 rfl ?_
  refine cw_newaZ (N := 128) hx hb hts hB hA hz (by decide) rfl (by decide) (Nat.le_of_ble_eq_true rfl) (Nat.le_of_ble_eq_true rfl) dc_M_init_119 (fun H hz hB => ?_)
  have hB : cw_B D cA (fun q => b ≤ q) ((b, .inr (9, [.int 0, .int 4, .int 0, .ref (b + 1), .ref (b + 2), .ref (b + 3), .ref (b + 4), .ref (b + 5), .int 0, .int 0, .ref (b + 6), .ref (b + 7), .ref (b + 8), .ref (b + 9), .ref (b + 10), .ref (b + 11), .ref (b + 12), .ref (b + 13), .null, .null, .null, .null, .int 0, .int 0])) :: (r13 ++ ow_wl [(1, 128)] cA (aw (b + 14)) om_0)) s s.heap H locs := hB
  generalize e14 : r13 ++ ow_wl [(1, 128)] cA (aw (b + 14)) om_0 = r14 at hB
  refine cw_putF hx hb hts iw_M yf_M of_M nf_M hown hB rfl 18 (by decide) mw_815 rfl hin rfl (of_M 18 (by decide)) rfl rfl (Nat.le_of_ble_eq_true rfl) dc_M_init_121 (fun H1 locs e hB => ?_)
  rw [← e] at hz
  generalize H1 = H at hB hz ⊢
  have hB : cw_B D cA (fun q => b ≤ q) ((b, .inr (9, [.int 0, .int 4, .int 0, .ref (b + 1), .ref (b + 2), .ref (b + 3), .ref (b + 4), .ref (b + 5), .int 0, .int 0, .ref (b + 6), .ref (b + 7), .ref (b + 8), .ref (b + 9), .ref (b + 10), .ref (b + 11), .ref (b + 12), .ref (b + 13), .ref (b + 14), .null, .null, .null, .int 0, .int 0])) :: r14) s s.heap H locs := hB
  refine lv_aload_n hx hb dc_M_init_124 rfl (lv_at hl 0 rfl) ?_
  refine lv_sipush (v := 128) hx hb dc_M_init_125 rfl ?_
  refine cw_newaJ (N := 128) hx hb hts hB hA hz (by decide) rfl (by decide) (Nat.le_of_ble_eq_true rfl) (Nat.le_of_ble_eq_true rfl) dc_M_init_128 (fun H hz hB => ?_)
  have hB : cw_B D cA (fun q => b ≤ q) ((b, .inr (9, [.int 0, .int 4, .int 0, .ref (b + 1), .ref (b + 2), .ref (b + 3), .ref (b + 4), .ref (b + 5), .int 0, .int 0, .ref (b + 6), .ref (b + 7), .ref (b + 8), .ref (b + 9), .ref (b + 10), .ref (b + 11), .ref (b + 12), .ref (b + 13), .ref (b + 14), .null, .null, .null, .int 0, .int 0])) :: (r14 ++ ow_wl [(4, 128)] cA (aw (b + 15)) om_0)) s s.heap H locs := hB
  generalize e15 : r14 ++ ow_wl [(4, 128)] cA (aw (b + 15)) om_0 = r15 at hB
  refine cw_putF hx hb hts iw_M yf_M of_M nf_M hown hB rfl 19 (by decide) mw_816 rfl hin rfl (of_M 19 (by decide)) rfl rfl (Nat.le_of_ble_eq_true rfl) dc_M_init_130 (fun H1 locs e hB => ?_)
  rw [← e] at hz
  generalize H1 = H at hB hz ⊢
  have hB : cw_B D cA (fun q => b ≤ q) ((b, .inr (9, [.int 0, .int 4, .int 0, .ref (b + 1), .ref (b + 2), .ref (b + 3), .ref (b + 4), .ref (b + 5), .int 0, .int 0, .ref (b + 6), .ref (b + 7), .ref (b + 8), .ref (b + 9), .ref (b + 10), .ref (b + 11), .ref (b + 12), .ref (b + 13), .ref (b + 14), .ref (b + 15), .null, .null, .int 0, .int 0])) :: r15) s s.heap H locs := hB
  refine lv_aload_n hx hb dc_M_init_133 rfl (lv_at hl 0 rfl) ?_
  refine lv_bipush (v := 7) hx hb dc_M_init_134 rfl ?_
  refine cw_newaI (N := 7) hx hb hts hB hA hz (by decide) rfl (by decide) (Nat.le_of_ble_eq_true rfl) (Nat.le_of_ble_eq_true rfl) dc_M_init_136 (fun H hz hB => ?_)
  have hB : cw_B D cA (fun q => b ≤ q) ((b, .inr (9, [.int 0, .int 4, .int 0, .ref (b + 1), .ref (b + 2), .ref (b + 3), .ref (b + 4), .ref (b + 5), .int 0, .int 0, .ref (b + 6), .ref (b + 7), .ref (b + 8), .ref (b + 9), .ref (b + 10), .ref (b + 11), .ref (b + 12), .ref (b + 13), .ref (b + 14), .ref (b + 15), .null, .null, .int 0, .int 0])) :: (r15 ++ ow_wl [(0, 7)] cA (aw (b + 16)) om_0)) s s.heap H locs := hB
  generalize e16 : r15 ++ ow_wl [(0, 7)] cA (aw (b + 16)) om_0 = r16 at hB
  refine cw_putF hx hb hts iw_M yf_M of_M nf_M hown hB rfl 20 (by decide) mw_817 rfl hin rfl (of_M 20 (by decide)) rfl rfl (Nat.le_of_ble_eq_true rfl) dc_M_init_138 (fun H1 locs e hB => ?_)
  rw [← e] at hz
  generalize H1 = H at hB hz ⊢
  have hB : cw_B D cA (fun q => b ≤ q) ((b, .inr (9, [.int 0, .int 4, .int 0, .ref (b + 1), .ref (b + 2), .ref (b + 3), .ref (b + 4), .ref (b + 5), .int 0, .int 0, .ref (b + 6), .ref (b + 7), .ref (b + 8), .ref (b + 9), .ref (b + 10), .ref (b + 11), .ref (b + 12), .ref (b + 13), .ref (b + 14), .ref (b + 15), .ref (b + 16), .null, .int 0, .int 0])) :: r16) s s.heap H locs := hB
  refine lv_aload_n hx hb dc_M_init_141 rfl (lv_at hl 0 rfl) ?_
  refine lv_bipush (v := 7) hx hb dc_M_init_142 rfl ?_
  refine cw_newaI (N := 7) hx hb hts hB hA hz (by decide) rfl (by decide) (Nat.le_of_ble_eq_true rfl) (Nat.le_of_ble_eq_true rfl) dc_M_init_144 (fun H hz hB => ?_)
  have hB : cw_B D cA (fun q => b ≤ q) ((b, .inr (9, [.int 0, .int 4, .int 0, .ref (b + 1), .ref (b + 2), .ref (b + 3), .ref (b + 4), .ref (b + 5), .int 0, .int 0, .ref (b + 6), .ref (b + 7), .ref (b + 8), .ref (b + 9), .ref (b + 10), .ref (b + 11), .ref (b + 12), .ref (b + 13), .ref (b + 14), .ref (b + 15), .ref (b + 16), .null, .int 0, .int 0])) :: (r16 ++ ow_wl [(0, 7)] cA (aw (b + 17)) om_0)) s s.heap H locs := hB
  generalize e17 : r16 ++ ow_wl [(0, 7)] cA (aw (b + 17)) om_0 = r17 at hB
  refine cw_putF hx hb hts iw_M yf_M of_M nf_M hown hB rfl 21 (by decide) mw_818 rfl hin rfl (of_M 21 (by decide)) rfl rfl (Nat.le_of_ble_eq_true rfl) dc_M_init_146 (fun H1 locs e hB => ?_)
  rw [← e] at hz
  generalize H1 = H at hB hz ⊢
  have hB : cw_B D cA (fun q => b ≤ q) ((b, .inr (9, [.int 0, .int 4, .int 0, .ref (b + 1), .ref (b + 2), .ref (b + 3), .ref (b + 4), .ref (b + 5), .int 0, .int 0, .ref (b + 6), .ref (b + 7), .ref (b + 8), .ref (b + 9), .ref (b + 10), .ref (b + 11), .ref (b + 12), .ref (b + 13), .ref (b + 14), .ref (b + 15), .ref (b + 16), .ref (b + 17), .int 0, .int 0])) :: r17) s s.heap H locs := hB
  refine lv_aload_n hx hb dc_M_init_149 rfl (lv_at hl 0 rfl) ?_
  refine lv_iconst (v := (-1)) hx hb dc_M_init_150 rfl ?_
  refine cw_putIz hx hb hts iw_M yf_M of_M nf_M hown hB rfl 22 (by decide) mw_819 rfl (of_M 22 (by decide)) (Nat.le_of_ble_eq_true rfl) dc_M_init_151 (fun H1 locs e hB => ?_)
  rw [← e] at hz
  generalize H1 = H at hB hz ⊢
  have hB : cw_B D cA (fun q => b ≤ q) ((b, .inr (9, [.int 0, .int 4, .int 0, .ref (b + 1), .ref (b + 2), .ref (b + 3), .ref (b + 4), .ref (b + 5), .int 0, .int 0, .ref (b + 6), .ref (b + 7), .ref (b + 8), .ref (b + 9), .ref (b + 10), .ref (b + 11), .ref (b + 12), .ref (b + 13), .ref (b + 14), .ref (b + 15), .ref (b + 16), .ref (b + 17), .int (-1), .int 0])) :: r17) s s.heap H locs := hB
  refine lv_aload_n hx hb dc_M_init_154 rfl (lv_at hl 0 rfl) ?_
  refine lv_iconst (v := (-1)) hx hb dc_M_init_155 rfl ?_
  refine cw_putIz hx hb hts iw_M yf_M of_M nf_M hown hB rfl 23 (by decide) mw_820 rfl (of_M 23 (by decide)) (Nat.le_of_ble_eq_true rfl) dc_M_init_156 (fun H1 locs e hB => ?_)
  rw [← e] at hz
  generalize H1 = H at hB hz ⊢
  have hB : cw_B D cA (fun q => b ≤ q) ((b, .inr (9, [.int 0, .int 4, .int 0, .ref (b + 1), .ref (b + 2), .ref (b + 3), .ref (b + 4), .ref (b + 5), .int 0, .int 0, .ref (b + 6), .ref (b + 7), .ref (b + 8), .ref (b + 9), .ref (b + 10), .ref (b + 11), .ref (b + 12), .ref (b + 13), .ref (b + 14), .ref (b + 15), .ref (b + 16), .ref (b + 17), .int (-1), .int (-1)])) :: r17) s s.heap H locs := hB
  refine lv_aload_n hx hb dc_M_init_159 rfl (lv_at hl 0 rfl) ?_
  have t1 : r1 = ow_wl [(0, 140)] cA (aw (b + 1)) om_0 := by rw [← e1, e0]; rfl
  have t2 : r2 = ow_wl ([(0, 140)] ++ [(0, 20)]) cA (aw (b + 1)) om_0 := by rw [← e2, t1]; exact cw_app1 rfl
  have t3 : r3 = ow_wl (([(0, 140)] ++ [(0, 20)]) ++ [(0, 7)]) cA (aw (b + 1)) om_0 := by rw [← e3, t2]; exact cw_app1 rfl
  have t4 : r4 = ow_wl ((([(0, 140)] ++ [(0, 20)]) ++ [(0, 7)]) ++ [(0, 7)]) cA (aw (b + 1)) om_0 := by rw [← e4, t3]; exact cw_app1 rfl
  have t5 : r5 = ow_wl (((([(0, 140)] ++ [(0, 20)]) ++ [(0, 7)]) ++ [(0, 7)]) ++ [(0, 7)]) cA (aw (b + 1)) om_0 := by rw [← e5, t4]; exact cw_app1 rfl
  have t6 : r6 = ow_wl ((((([(0, 140)] ++ [(0, 20)]) ++ [(0, 7)]) ++ [(0, 7)]) ++ [(0, 7)]) ++ [(0, 154)]) cA (aw (b + 1)) om_0 := by rw [← e6, t5]; exact cw_app1 rfl
  have t7 : r7 = ow_wl (((((([(0, 140)] ++ [(0, 20)]) ++ [(0, 7)]) ++ [(0, 7)]) ++ [(0, 7)]) ++ [(0, 154)]) ++ [(0, 22)]) cA (aw (b + 1)) om_0 := by rw [← e7, t6]; exact cw_app1 rfl
  have t8 : r8 = ow_wl ((((((([(0, 140)] ++ [(0, 20)]) ++ [(0, 7)]) ++ [(0, 7)]) ++ [(0, 7)]) ++ [(0, 154)]) ++ [(0, 22)]) ++ [(0, 7)]) cA (aw (b + 1)) om_0 := by rw [← e8, t7]; exact cw_app1 rfl
  have t9 : r9 = ow_wl (((((((([(0, 140)] ++ [(0, 20)]) ++ [(0, 7)]) ++ [(0, 7)]) ++ [(0, 7)]) ++ [(0, 154)]) ++ [(0, 22)]) ++ [(0, 7)]) ++ [(0, 7)]) cA (aw (b + 1)) om_0 := by rw [← e9, t8]; exact cw_app1 rfl
  have t10 : r10 = ow_wl ((((((((([(0, 140)] ++ [(0, 20)]) ++ [(0, 7)]) ++ [(0, 7)]) ++ [(0, 7)]) ++ [(0, 154)]) ++ [(0, 22)]) ++ [(0, 7)]) ++ [(0, 7)]) ++ [(0, 7)]) cA (aw (b + 1)) om_0 := by rw [← e10, t9]; exact cw_app1 rfl
  have t11 : r11 = ow_wl (((((((((([(0, 140)] ++ [(0, 20)]) ++ [(0, 7)]) ++ [(0, 7)]) ++ [(0, 7)]) ++ [(0, 154)]) ++ [(0, 22)]) ++ [(0, 7)]) ++ [(0, 7)]) ++ [(0, 7)]) ++ [(0, 49)]) cA (aw (b + 1)) om_0 := by rw [← e11, t10]; exact cw_app1 rfl
  have t12 : r12 = ow_wl ((((((((((([(0, 140)] ++ [(0, 20)]) ++ [(0, 7)]) ++ [(0, 7)]) ++ [(0, 7)]) ++ [(0, 154)]) ++ [(0, 22)]) ++ [(0, 7)]) ++ [(0, 7)]) ++ [(0, 7)]) ++ [(0, 49)]) ++ [(0, 49)]) cA (aw (b + 1)) om_0 := by rw [← e12, t11]; exact cw_app1 rfl
  have t13 : r13 = ow_wl (((((((((((([(0, 140)] ++ [(0, 20)]) ++ [(0, 7)]) ++ [(0, 7)]) ++ [(0, 7)]) ++ [(0, 154)]) ++ [(0, 22)]) ++ [(0, 7)]) ++ [(0, 7)]) ++ [(0, 7)]) ++ [(0, 49)]) ++ [(0, 49)]) ++ [(1, 49)]) cA (aw (b + 1)) om_0 := by rw [← e13, t12]; exact cw_app1 rfl
  have t14 : r14 = ow_wl ((((((((((((([(0, 140)] ++ [(0, 20)]) ++ [(0, 7)]) ++ [(0, 7)]) ++ [(0, 7)]) ++ [(0, 154)]) ++ [(0, 22)]) ++ [(0, 7)]) ++ [(0, 7)]) ++ [(0, 7)]) ++ [(0, 49)]) ++ [(0, 49)]) ++ [(1, 49)]) ++ [(1, 128)]) cA (aw (b + 1)) om_0 := by rw [← e14, t13]; exact cw_app1 rfl
  have t15 : r15 = ow_wl (((((((((((((([(0, 140)] ++ [(0, 20)]) ++ [(0, 7)]) ++ [(0, 7)]) ++ [(0, 7)]) ++ [(0, 154)]) ++ [(0, 22)]) ++ [(0, 7)]) ++ [(0, 7)]) ++ [(0, 7)]) ++ [(0, 49)]) ++ [(0, 49)]) ++ [(1, 49)]) ++ [(1, 128)]) ++ [(4, 128)]) cA (aw (b + 1)) om_0 := by rw [← e15, t14]; exact cw_app1 rfl
  have t16 : r16 = ow_wl ((((((((((((((([(0, 140)] ++ [(0, 20)]) ++ [(0, 7)]) ++ [(0, 7)]) ++ [(0, 7)]) ++ [(0, 154)]) ++ [(0, 22)]) ++ [(0, 7)]) ++ [(0, 7)]) ++ [(0, 7)]) ++ [(0, 49)]) ++ [(0, 49)]) ++ [(1, 49)]) ++ [(1, 128)]) ++ [(4, 128)]) ++ [(0, 7)]) cA (aw (b + 1)) om_0 := by rw [← e16, t15]; exact cw_app1 rfl
  have t17 : r17 = ow_wl (((((((((((((((([(0, 140)] ++ [(0, 20)]) ++ [(0, 7)]) ++ [(0, 7)]) ++ [(0, 7)]) ++ [(0, 154)]) ++ [(0, 22)]) ++ [(0, 7)]) ++ [(0, 7)]) ++ [(0, 7)]) ++ [(0, 49)]) ++ [(0, 49)]) ++ [(1, 49)]) ++ [(1, 128)]) ++ [(4, 128)]) ++ [(0, 7)]) ++ [(0, 7)]) cA (aw (b + 1)) om_0 := by rw [← e17, t16]; exact cw_app1 rfl
  have hB : cw_B D cA (fun q => b ≤ q) (([] : va_W) ++ ow_wl cg_M cA (aw b) om_Mi) s s.heap H locs := cw_to hB (cw_hd (M1 := om_Mh) (x := (3, 9)) rfl t17)
  have hO := cw_sub (ws := []) (G := cg_M) (h := b) (M := om_Mi) hB
  have hC := ct_M_reset l cg_M lay_M D cA (aw b) F 0 rfl om_Mi Q h
  have hz : H.size = b + cg_M.length := hz
  refine cw_callO (ws := []) (G := cg_M) (h := b) (M := om_Mi) (Qp := Q) (va_runV (As := []) (rest := []) ⟨hx, hb, hml, hown, hts⟩ hC ⟨ow_cb 0 hts mw_796 mw_12 mw_793 rfl rfl hd_M_reset ⟨Nat.le_of_ble_eq_true rfl, Nat.le_of_ble_eq_true rfl⟩, hts _ mw_795, hts _ ms_17⟩ (ow_preV hO rfl rfl) rfl rfl hl.1 rfl (lv_room (Nat.le_of_ble_eq_true rfl)) dc_M_init_160 ⟨Nat.le_of_ble_eq_true rfl, Nat.le_of_ble_eq_true rfl⟩) hB (fun k x hx => by cases hx) hz (fun M1 H1 locs h hs hB => ?_)
  refine cw_sz (fun hsz => ?_)
  have hz : H1.size = b + cg_M.length := cw_z hz0 hz hs hsz rfl
  exact cw_vretQ (G := cg_M) (M := M1) hx hb hr hlocks hB (List.nil_append _) hz h dc_M_init_163
