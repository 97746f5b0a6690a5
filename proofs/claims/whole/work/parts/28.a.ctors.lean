theorem cw_good {y : MethodName} {bytes : ByteArray} {maxL : Nat} {ret : Option FieldType} (hc : Cond.code y bytes maxL ret ∈ lw_g) : GoodIn lw_g (ow_ws y bytes maxL ret) := fun w h => by
  rcases List.mem_cons.mp h with rfl | h
  · exact ⟨hc, good_of_word (tg_good hc)⟩
  · exact ⟨h, good_of_word (tg_good h)⟩
theorem cw_sz {p : Program} {l : Launch} {e : Env} {R : Room} {s : State} {m : MethodId} {args : Array Value} {below : List Frame} {meth : Method} {c : Code} {H : Heap} {locs : List Loc} {cells slots : Nat} {Q : State → Prop} {g : JFrame} (k : H.size ≤ s.heap.size + cells → W p l e R s m args below meth c H locs cells slots Q g) : W p l e R s m args below meth c H locs cells slots Q g := fun T hT X => k (hT ▸ X.heapSize) T hT X
abbrev cg_E : List (Nat × Nat) := [(3, 3)] ++ [(1, 128)] ++ [(0, 7)]
abbrev rm_E_init : Room := { frames := 1, cells := 2, slots := 135, locals := 20 }
theorem hd_E_init : yn_E_init.cls ≠ "java/lang/invoke/MethodHandle" ∧ yn_E_init.cls ≠ "java/lang/invoke/VarHandle" ∧ (parseMethodDescriptor yn_E_init.desc).map (fun d => d.parameters.length) = some 0 := by decide +kernel
set_option maxHeartbeats 4000000 in
set_option maxRecDepth 100000 in
theorem cc_E_init (l : Launch) (D : va_G) (cA : Nat → ClassId) (b : Nat) : Met l yn_E_init (ow_ws yn_E_init cb_E_init 1 none) rm_E_init (cw_Pc D cA b 3 [.null, .null]) (cw_Q D cA b cg_E om_0) 2 135 (fun q => b ≤ q) := by
  refine Met.ofW (cc := cb_E_init) (maxL := 1) (ret := none) (by decide) rfl ?_
  intro p e s m args below meth c s₁ B hml hv
  obtain ⟨rfl, hz, hB, hN, hA⟩ := cw_entry hv
  have hx := B.exec
  have hb := B.bytes
  have hr := B.returns
  have hlocks := B.notSynchronized
  have hin : meth.name = "<init>" := (name_of_methodNamed B.named B.method).1
  have hts : ∀ w ∈ lw_g, w.before ([.ref b] : List Value).toArray s = true := fun w h => atoms_spec (ws := ow_ws yn_E_init cb_E_init 1 none) B.pre w (List.mem_cons_of_mem _ h)
  have hown : s.vm.findClass "BallotDesk$Elimination" = some m.cls := findClass_of_methodNamed B.named
  clear B hv
  have hl := lv_entry ([.ref b]) (n := 1) (Nat.le_of_ble_eq_true rfl)
  rw [lg_entry_eq]
  generalize (lg_sl ([.ref b]) ++ List.replicate (1 - (lg_sl ([.ref b])).length) Slot.unset).toArray = ls at hl ⊢
  have hl : lv_has ls 1 [(0, .ref b)] := hl
  show W p l e rm_E_init s m _ below meth c s.heap [] 0 0 _ _
  obtain ⟨H, hH⟩ : ∃ H, H = s.heap := ⟨_, rfl⟩
  obtain ⟨locs, hlocs⟩ : ∃ locs : List Loc, locs = [] := ⟨_, rfl⟩
  have hz0 := hz
  suffices K : ∀ (H : Heap) (locs : List Loc), H.size = b + 1 → cw_B D cA (fun q => b ≤ q) [(b, .inr (3, [.null, .null]))] s s.heap H locs → W p l e rm_E_init s m ([.ref b] : List Value).toArray below meth c H locs 0 0 (MQ below (cw_Q D cA b cg_E om_0) ([.ref b] : List Value).toArray s 2 135 (fun q => b ≤ q)) (F0 m 0 ls []) from K s.heap [] hz hB
  clear hB hz hH hlocs
  intro H locs hz hB
  refine lv_aload_n hx hb dc_E_init_0 rfl (lv_at hl 0 rfl) ?_
  refine W.objInit hx hb hown (hts _ mw_129) (hts _ mw_29) (hts _ mw_30) rfl (by rw [hml]; exact hl.1) rfl dc_E_init_1 (Nat.le_of_ble_eq_true rfl) (Nat.le_of_ble_eq_true rfl) ?_
  refine W.eq (g2 := F0 m 4 ls []) rfl ?_
  refine lv_aload_n hx hb dc_E_init_4 rfl (lv_at hl 0 rfl) ?_
  refine lv_sipush (v := 128) hx hb dc_E_init_5 rfl ?_
  refine cw_newaZ (N := 128) hx hb hts hB hA hz (by decide) rfl (by decide) (Nat.le_of_ble_eq_true rfl) (Nat.le_of_ble_eq_true rfl) dc_E_init_8 (fun H hz hB => ?_)
  have hB : cw_B D cA (fun q => b ≤ q) ((b, .inr (3, [.null, .null])) :: (([] : va_W) ++ ow_wl [(1, 128)] cA (aw (b + 1)) om_0)) s s.heap H locs := hB
  refine cw_putF hx hb hts iw_E yf_E of_E nf_E hown hB rfl 0 (by decide) mw_130 rfl hin rfl (of_E 0 (by decide)) rfl rfl (Nat.le_of_ble_eq_true rfl) dc_E_init_10 (fun H1 locs e hB => ?_)
  rw [← e] at hz
  generalize H1 = H at hB hz ⊢
  have hB : cw_B D cA (fun q => b ≤ q) ((b, .inr (3, [.ref (b + 1), .null])) :: (([] : va_W) ++ ow_wl [(1, 128)] cA (aw (b + 1)) om_0)) s s.heap H locs := hB
  refine lv_aload_n hx hb dc_E_init_13 rfl (lv_at hl 0 rfl) ?_
  refine lv_bipush (v := 7) hx hb dc_E_init_14 rfl ?_
  refine cw_newaI (N := 7) hx hb hts hB hA hz (by decide) rfl (by decide) (Nat.le_of_ble_eq_true rfl) (Nat.le_of_ble_eq_true rfl) dc_E_init_16 (fun H hz hB => ?_)
  have hB : cw_B D cA (fun q => b ≤ q) ((b, .inr (3, [.ref (b + 1), .null])) :: ((([] : va_W) ++ ow_wl [(1, 128)] cA (aw (b + 1)) om_0) ++ ow_wl [(0, 7)] cA (aw (b + 2)) om_0)) s s.heap H locs := hB
  refine cw_putF hx hb hts iw_E yf_E of_E nf_E hown hB rfl 1 (by decide) mw_131 rfl hin rfl (of_E 1 (by decide)) rfl rfl (Nat.le_of_ble_eq_true rfl) dc_E_init_18 (fun H1 locs e hB => ?_)
  rw [← e] at hz
  generalize H1 = H at hB hz ⊢
  have hB : cw_B D cA (fun q => b ≤ q) ((b, .inr (3, [.ref (b + 1), .ref (b + 2)])) :: ((([] : va_W) ++ ow_wl [(1, 128)] cA (aw (b + 1)) om_0) ++ ow_wl [(0, 7)] cA (aw (b + 2)) om_0)) s s.heap H locs := hB
  refine cw_vret hx hb hr hlocks hB ?_ hz dc_E_init_21
  show _ = ow_wl ([(3, 3)] ++ [(1, 128)] ++ [(0, 7)]) cA (aw b) om_0
  rw [cw_app, cw_app]
  rfl
abbrev cg_H : List (Nat × Nat) := [(3, 4)] ++ cw_Gm 2 7
abbrev rm_H_init : Room := { frames := 1, cells := 8, slots := 56, locals := 20 }
theorem hd_H_init : yn_H_init.cls ≠ "java/lang/invoke/MethodHandle" ∧ yn_H_init.cls ≠ "java/lang/invoke/VarHandle" ∧ (parseMethodDescriptor yn_H_init.desc).map (fun d => d.parameters.length) = some 0 := by decide +kernel
set_option maxHeartbeats 4000000 in
set_option maxRecDepth 100000 in
theorem cc_H_init (l : Launch) (D : va_G) (cA : Nat → ClassId) (b : Nat) : Met l yn_H_init (ow_ws yn_H_init cb_H_init 1 none) rm_H_init (cw_Pc D cA b 4 [.null]) (cw_Q D cA b cg_H om_0) 8 56 (fun q => b ≤ q) := by
  refine Met.ofW (cc := cb_H_init) (maxL := 1) (ret := none) (by decide) rfl ?_
  intro p e s m args below meth c s₁ B hml hv
  obtain ⟨rfl, hz, hB, hN, hA⟩ := cw_entry hv
  have hx := B.exec
  have hb := B.bytes
  have hr := B.returns
  have hlocks := B.notSynchronized
  have hin : meth.name = "<init>" := (name_of_methodNamed B.named B.method).1
  have hts : ∀ w ∈ lw_g, w.before ([.ref b] : List Value).toArray s = true := fun w h => atoms_spec (ws := ow_ws yn_H_init cb_H_init 1 none) B.pre w (List.mem_cons_of_mem _ h)
  have hown : s.vm.findClass "BallotDesk$Paths" = some m.cls := findClass_of_methodNamed B.named
  clear B hv
  have hl := lv_entry ([.ref b]) (n := 1) (Nat.le_of_ble_eq_true rfl)
  rw [lg_entry_eq]
  generalize (lg_sl ([.ref b]) ++ List.replicate (1 - (lg_sl ([.ref b])).length) Slot.unset).toArray = ls at hl ⊢
  have hl : lv_has ls 1 [(0, .ref b)] := hl
  show W p l e rm_H_init s m _ below meth c s.heap [] 0 0 _ _
  obtain ⟨H, hH⟩ : ∃ H, H = s.heap := ⟨_, rfl⟩
  obtain ⟨locs, hlocs⟩ : ∃ locs : List Loc, locs = [] := ⟨_, rfl⟩
  have hz0 := hz
  suffices K : ∀ (H : Heap) (locs : List Loc), H.size = b + 1 → cw_B D cA (fun q => b ≤ q) [(b, .inr (4, [.null]))] s s.heap H locs → W p l e rm_H_init s m ([.ref b] : List Value).toArray below meth c H locs 0 0 (MQ below (cw_Q D cA b cg_H om_0) ([.ref b] : List Value).toArray s 8 56 (fun q => b ≤ q)) (F0 m 0 ls []) from K s.heap [] hz hB
  clear hB hz hH hlocs
  intro H locs hz hB
  refine lv_aload_n hx hb dc_H_init_0 rfl (lv_at hl 0 rfl) ?_
  refine W.objInit hx hb hown (hts _ mw_143) (hts _ mw_29) (hts _ mw_30) rfl (by rw [hml]; exact hl.1) rfl dc_H_init_1 (Nat.le_of_ble_eq_true rfl) (Nat.le_of_ble_eq_true rfl) ?_
  refine W.eq (g2 := F0 m 4 ls []) rfl ?_
  refine lv_aload_n hx hb dc_H_init_4 rfl (lv_at hl 0 rfl) ?_
  refine lv_bipush (v := 7) hx hb dc_H_init_5 rfl ?_
  refine lv_bipush (v := 7) hx hb dc_H_init_7 rfl ?_
  refine cw_mna (t := 2) (K := 7) hx hb hts hown mw_144 hN.2 hB hA hz (by decide) (by decide) rfl (by decide) (Nat.le_of_ble_eq_true rfl) (Nat.le_of_ble_eq_true rfl) dc_H_init_9 (fun H hz hB => ?_)
  have hB : cw_B D cA (fun q => b ≤ q) ((b, .inr (4, [.null])) :: (([] : va_W) ++ ow_wl (cw_Gm 2 7) cA (aw (b + 1)) om_0)) s s.heap H locs := hB
  refine cw_putF hx hb hts iw_H yf_H of_H nf_H hown hB rfl 0 (by decide) mw_145 rfl hin rfl (of_H 0 (by decide)) rfl rfl (Nat.le_of_ble_eq_true rfl) dc_H_init_13 (fun H1 locs e hB => ?_)
  rw [← e] at hz
  generalize H1 = H at hB hz ⊢
  have hB : cw_B D cA (fun q => b ≤ q) ((b, .inr (4, [.ref (b + 1)])) :: (([] : va_W) ++ ow_wl (cw_Gm 2 7) cA (aw (b + 1)) om_0)) s s.heap H locs := hB
  refine cw_vret hx hb hr hlocks hB ?_ hz dc_H_init_16
  show _ = ow_wl ([(3, 4)] ++ cw_Gm 2 7) cA (aw b) om_0
  rw [cw_app]
  rfl
abbrev cg_K : List (Nat × Nat) := [(3, 5)] ++ [(0, 21)] ++ [(0, 7)]
abbrev rm_K_init : Room := { frames := 1, cells := 2, slots := 28, locals := 20 }
theorem hd_K_init : yn_K_init.cls ≠ "java/lang/invoke/MethodHandle" ∧ yn_K_init.cls ≠ "java/lang/invoke/VarHandle" ∧ (parseMethodDescriptor yn_K_init.desc).map (fun d => d.parameters.length) = some 0 := by decide +kernel
set_option maxHeartbeats 4000000 in
set_option maxRecDepth 100000 in
theorem cc_K_init (l : Launch) (D : va_G) (cA : Nat → ClassId) (b : Nat) : Met l yn_K_init (ow_ws yn_K_init cb_K_init 1 none) rm_K_init (cw_Pc D cA b 5 [.null, .null, .int 0]) (cw_Q D cA b cg_K om_0) 2 28 (fun q => b ≤ q) := by
  refine Met.ofW (cc := cb_K_init) (maxL := 1) (ret := none) (by decide) rfl ?_
  intro p e s m args below meth c s₁ B hml hv
  obtain ⟨rfl, hz, hB, hN, hA⟩ := cw_entry hv
  have hx := B.exec
  have hb := B.bytes
  have hr := B.returns
  have hlocks := B.notSynchronized
  have hin : meth.name = "<init>" := (name_of_methodNamed B.named B.method).1
  have hts : ∀ w ∈ lw_g, w.before ([.ref b] : List Value).toArray s = true := fun w h => atoms_spec (ws := ow_ws yn_K_init cb_K_init 1 none) B.pre w (List.mem_cons_of_mem _ h)
  have hown : s.vm.findClass "BallotDesk$Locks" = some m.cls := findClass_of_methodNamed B.named
  clear B hv
  have hl := lv_entry ([.ref b]) (n := 1) (Nat.le_of_ble_eq_true rfl)
  rw [lg_entry_eq]
  generalize (lg_sl ([.ref b]) ++ List.replicate (1 - (lg_sl ([.ref b])).length) Slot.unset).toArray = ls at hl ⊢
  have hl : lv_has ls 1 [(0, .ref b)] := hl
  show W p l e rm_K_init s m _ below meth c s.heap [] 0 0 _ _
  obtain ⟨H, hH⟩ : ∃ H, H = s.heap := ⟨_, rfl⟩
  obtain ⟨locs, hlocs⟩ : ∃ locs : List Loc, locs = [] := ⟨_, rfl⟩
  have hz0 := hz
  suffices K : ∀ (H : Heap) (locs : List Loc), H.size = b + 1 → cw_B D cA (fun q => b ≤ q) [(b, .inr (5, [.null, .null, .int 0]))] s s.heap H locs → W p l e rm_K_init s m ([.ref b] : List Value).toArray below meth c H locs 0 0 (MQ below (cw_Q D cA b cg_K om_0) ([.ref b] : List Value).toArray s 2 28 (fun q => b ≤ q)) (F0 m 0 ls []) from K s.heap [] hz hB
  clear hB hz hH hlocs
  intro H locs hz hB
  refine lv_aload_n hx hb dc_K_init_0 rfl (lv_at hl 0 rfl) ?_
  refine W.objInit hx hb hown (hts _ mw_155) (hts _ mw_29) (hts _ mw_30) rfl (by rw [hml]; exact hl.1) rfl dc_K_init_1 (Nat.le_of_ble_eq_true rfl) (Nat.le_of_ble_eq_true rfl) ?_
  refine W.eq (g2 := F0 m 4 ls []) rfl ?_
  refine lv_aload_n hx hb dc_K_init_4 rfl (lv_at hl 0 rfl) ?_
  refine lv_bipush (v := 21) hx hb dc_K_init_5 rfl ?_
  refine cw_newaI (N := 21) hx hb hts hB hA hz (by decide) rfl (by decide) (Nat.le_of_ble_eq_true rfl) (Nat.le_of_ble_eq_true rfl) dc_K_init_7 (fun H hz hB => ?_)
  have hB : cw_B D cA (fun q => b ≤ q) ((b, .inr (5, [.null, .null, .int 0])) :: (([] : va_W) ++ ow_wl [(0, 21)] cA (aw (b + 1)) om_0)) s s.heap H locs := hB
  refine cw_putF hx hb hts iw_K yf_K of_K nf_K hown hB rfl 0 (by decide) mw_156 rfl hin rfl (of_K 0 (by decide)) rfl rfl (Nat.le_of_ble_eq_true rfl) dc_K_init_9 (fun H1 locs e hB => ?_)
  rw [← e] at hz
  generalize H1 = H at hB hz ⊢
  have hB : cw_B D cA (fun q => b ≤ q) ((b, .inr (5, [.ref (b + 1), .null, .int 0])) :: (([] : va_W) ++ ow_wl [(0, 21)] cA (aw (b + 1)) om_0)) s s.heap H locs := hB
  refine lv_aload_n hx hb dc_K_init_12 rfl (lv_at hl 0 rfl) ?_
  refine lv_bipush (v := 7) hx hb dc_K_init_13 rfl ?_
  refine cw_newaI (N := 7) hx hb hts hB hA hz (by decide) rfl (by decide) (Nat.le_of_ble_eq_true rfl) (Nat.le_of_ble_eq_true rfl) dc_K_init_15 (fun H hz hB => ?_)
  have hB : cw_B D cA (fun q => b ≤ q) ((b, .inr (5, [.ref (b + 1), .null, .int 0])) :: ((([] : va_W) ++ ow_wl [(0, 21)] cA (aw (b + 1)) om_0) ++ ow_wl [(0, 7)] cA (aw (b + 2)) om_0)) s s.heap H locs := hB
  refine cw_putF hx hb hts iw_K yf_K of_K nf_K hown hB rfl 1 (by decide) mw_157 rfl hin rfl (of_K 1 (by decide)) rfl rfl (Nat.le_of_ble_eq_true rfl) dc_K_init_17 (fun H1 locs e hB => ?_)
  rw [← e] at hz
  generalize H1 = H at hB hz ⊢
  have hB : cw_B D cA (fun q => b ≤ q) ((b, .inr (5, [.ref (b + 1), .ref (b + 2), .int 0])) :: ((([] : va_W) ++ ow_wl [(0, 21)] cA (aw (b + 1)) om_0) ++ ow_wl [(0, 7)] cA (aw (b + 2)) om_0)) s s.heap H locs := hB
  refine cw_vret hx hb hr hlocks hB ?_ hz dc_K_init_20
  show _ = ow_wl ([(3, 5)] ++ [(0, 21)] ++ [(0, 7)]) cA (aw b) om_0
  rw [cw_app, cw_app]
  rfl
abbrev cg_A : List (Nat × Nat) := [(3, 6)] ++ [(0, 128)] ++ cw_Gm 5 128
abbrev rm_A_init : Room := { frames := 1, cells := 9, slots := 1031, locals := 20 }
theorem hd_A_init : yn_A_init.cls ≠ "java/lang/invoke/MethodHandle" ∧ yn_A_init.cls ≠ "java/lang/invoke/VarHandle" ∧ (parseMethodDescriptor yn_A_init.desc).map (fun d => d.parameters.length) = some 0 := by decide +kernel
set_option maxHeartbeats 4000000 in
set_option maxRecDepth 100000 in
theorem cc_A_init (l : Launch) (D : va_G) (cA : Nat → ClassId) (b : Nat) : Met l yn_A_init (ow_ws yn_A_init cb_A_init 1 none) rm_A_init (cw_Pc D cA b 6 [.null, .null]) (cw_Q D cA b cg_A om_0) 9 1031 (fun q => b ≤ q) := by
  refine Met.ofW (cc := cb_A_init) (maxL := 1) (ret := none) (by decide) rfl ?_
  intro p e s m args below meth c s₁ B hml hv
  obtain ⟨rfl, hz, hB, hN, hA⟩ := cw_entry hv
  have hx := B.exec
  have hb := B.bytes
  have hr := B.returns
  have hlocks := B.notSynchronized
  have hin : meth.name = "<init>" := (name_of_methodNamed B.named B.method).1
  have hts : ∀ w ∈ lw_g, w.before ([.ref b] : List Value).toArray s = true := fun w h => atoms_spec (ws := ow_ws yn_A_init cb_A_init 1 none) B.pre w (List.mem_cons_of_mem _ h)
  have hown : s.vm.findClass "BallotDesk$Agreement" = some m.cls := findClass_of_methodNamed B.named
  clear B hv
  have hl := lv_entry ([.ref b]) (n := 1) (Nat.le_of_ble_eq_true rfl)
  rw [lg_entry_eq]
  generalize (lg_sl ([.ref b]) ++ List.replicate (1 - (lg_sl ([.ref b])).length) Slot.unset).toArray = ls at hl ⊢
  have hl : lv_has ls 1 [(0, .ref b)] := hl
  show W p l e rm_A_init s m _ below meth c s.heap [] 0 0 _ _
  obtain ⟨H, hH⟩ : ∃ H, H = s.heap := ⟨_, rfl⟩
  obtain ⟨locs, hlocs⟩ : ∃ locs : List Loc, locs = [] := ⟨_, rfl⟩
  have hz0 := hz
  suffices K : ∀ (H : Heap) (locs : List Loc), H.size = b + 1 → cw_B D cA (fun q => b ≤ q) [(b, .inr (6, [.null, .null]))] s s.heap H locs → W p l e rm_A_init s m ([.ref b] : List Value).toArray below meth c H locs 0 0 (MQ below (cw_Q D cA b cg_A om_0) ([.ref b] : List Value).toArray s 9 1031 (fun q => b ≤ q)) (F0 m 0 ls []) from K s.heap [] hz hB
  clear hB hz hH hlocs
  intro H locs hz hB
  refine lv_aload_n hx hb dc_A_init_0 rfl (lv_at hl 0 rfl) ?_
  refine W.objInit hx hb hown (hts _ mw_171) (hts _ mw_29) (hts _ mw_30) rfl (by rw [hml]; exact hl.1) rfl dc_A_init_1 (Nat.le_of_ble_eq_true rfl) (Nat.le_of_ble_eq_true rfl) ?_
  refine W.eq (g2 := F0 m 4 ls []) rfl ?_
  refine lv_aload_n hx hb dc_A_init_4 rfl (lv_at hl 0 rfl) ?_
  refine lv_sipush (v := 128) hx hb dc_A_init_5 rfl ?_
  refine cw_newaI (N := 128) hx hb hts hB hA hz (by decide) rfl (by decide) (Nat.le_of_ble_eq_true rfl) (Nat.le_of_ble_eq_true rfl) dc_A_init_8 (fun H hz hB => ?_)
  have hB : cw_B D cA (fun q => b ≤ q) ((b, .inr (6, [.null, .null])) :: (([] : va_W) ++ ow_wl [(0, 128)] cA (aw (b + 1)) om_0)) s s.heap H locs := hB
  refine cw_putF hx hb hts iw_A yf_A of_A nf_A hown hB rfl 0 (by decide) mw_173 rfl hin rfl (of_A 0 (by decide)) rfl rfl (Nat.le_of_ble_eq_true rfl) dc_A_init_10 (fun H1 locs e hB => ?_)
  rw [← e] at hz
  generalize H1 = H at hB hz ⊢
  have hB : cw_B D cA (fun q => b ≤ q) ((b, .inr (6, [.ref (b + 1), .null])) :: (([] : va_W) ++ ow_wl [(0, 128)] cA (aw (b + 1)) om_0)) s s.heap H locs := hB
  refine lv_aload_n hx hb dc_A_init_13 rfl (lv_at hl 0 rfl) ?_
  refine lv_bipush (v := 7) hx hb dc_A_init_14 rfl ?_
  refine lv_sipush (v := 128) hx hb dc_A_init_16 rfl ?_
  refine cw_mna (t := 5) (K := 128) hx hb hts hown mw_172 hN.2 hB hA hz (by decide) (by decide) rfl (by decide) (Nat.le_of_ble_eq_true rfl) (Nat.le_of_ble_eq_true rfl) dc_A_init_19 (fun H hz hB => ?_)
  have hB : cw_B D cA (fun q => b ≤ q) ((b, .inr (6, [.ref (b + 1), .null])) :: ((([] : va_W) ++ ow_wl [(0, 128)] cA (aw (b + 1)) om_0) ++ ow_wl (cw_Gm 5 128) cA (aw (b + 2)) om_0)) s s.heap H locs := hB
  refine cw_putF hx hb hts iw_A yf_A of_A nf_A hown hB rfl 1 (by decide) mw_174 rfl hin rfl (of_A 1 (by decide)) rfl rfl (Nat.le_of_ble_eq_true rfl) dc_A_init_23 (fun H1 locs e hB => ?_)
  rw [← e] at hz
  generalize H1 = H at hB hz ⊢
  have hB : cw_B D cA (fun q => b ≤ q) ((b, .inr (6, [.ref (b + 1), .ref (b + 2)])) :: ((([] : va_W) ++ ow_wl [(0, 128)] cA (aw (b + 1)) om_0) ++ ow_wl (cw_Gm 5 128) cA (aw (b + 2)) om_0)) s s.heap H locs := hB
  refine cw_vret hx hb hr hlocks hB ?_ hz dc_A_init_26
  show _ = ow_wl ([(3, 6)] ++ [(0, 128)] ++ cw_Gm 5 128) cA (aw b) om_0
  rw [cw_app, cw_app]
  rfl
abbrev cg_S : List (Nat × Nat) := [(3, 8)] ++ [(0, 7)]
abbrev rm_S_init : Room := { frames := 1, cells := 1, slots := 7, locals := 20 }
theorem hd_S_init : yn_S_init.cls ≠ "java/lang/invoke/MethodHandle" ∧ yn_S_init.cls ≠ "java/lang/invoke/VarHandle" ∧ (parseMethodDescriptor yn_S_init.desc).map (fun d => d.parameters.length) = some 0 := by decide +kernel
set_option maxHeartbeats 4000000 in
set_option maxRecDepth 100000 in
theorem cc_S_init (l : Launch) (D : va_G) (cA : Nat → ClassId) (b : Nat) : Met l yn_S_init (ow_ws yn_S_init cb_S_init 1 none) rm_S_init (cw_Pc D cA b 8 [.null, .int 0]) (cw_Q D cA b cg_S om_0) 1 7 (fun q => b ≤ q) := by
  refine Met.ofW (cc := cb_S_init) (maxL := 1) (ret := none) (by decide) rfl ?_
  intro p e s m args below meth c s₁ B hml hv
  obtain ⟨rfl, hz, hB, hN, hA⟩ := cw_entry hv
  have hx := B.exec
  have hb := B.bytes
  have hr := B.returns
  have hlocks := B.notSynchronized
  have hin : meth.name = "<init>" := (name_of_methodNamed B.named B.method).1
  have hts : ∀ w ∈ lw_g, w.before ([.ref b] : List Value).toArray s = true := fun w h => atoms_spec (ws := ow_ws yn_S_init cb_S_init 1 none) B.pre w (List.mem_cons_of_mem _ h)
  have hown : s.vm.findClass "BallotDesk$Orders" = some m.cls := findClass_of_methodNamed B.named
  clear B hv
  have hl := lv_entry ([.ref b]) (n := 1) (Nat.le_of_ble_eq_true rfl)
  rw [lg_entry_eq]
  generalize (lg_sl ([.ref b]) ++ List.replicate (1 - (lg_sl ([.ref b])).length) Slot.unset).toArray = ls at hl ⊢
  have hl : lv_has ls 1 [(0, .ref b)] := hl
  show W p l e rm_S_init s m _ below meth c s.heap [] 0 0 _ _
  obtain ⟨H, hH⟩ : ∃ H, H = s.heap := ⟨_, rfl⟩
  obtain ⟨locs, hlocs⟩ : ∃ locs : List Loc, locs = [] := ⟨_, rfl⟩
  have hz0 := hz
  suffices K : ∀ (H : Heap) (locs : List Loc), H.size = b + 1 → cw_B D cA (fun q => b ≤ q) [(b, .inr (8, [.null, .int 0]))] s s.heap H locs → W p l e rm_S_init s m ([.ref b] : List Value).toArray below meth c H locs 0 0 (MQ below (cw_Q D cA b cg_S om_0) ([.ref b] : List Value).toArray s 1 7 (fun q => b ≤ q)) (F0 m 0 ls []) from K s.heap [] hz hB
  clear hB hz hH hlocs
  intro H locs hz hB
  refine lv_aload_n hx hb dc_S_init_0 rfl (lv_at hl 0 rfl) ?_
  refine W.objInit hx hb hown (hts _ mw_206) (hts _ mw_29) (hts _ mw_30) rfl (by rw [hml]; exact hl.1) rfl dc_S_init_1 (Nat.le_of_ble_eq_true rfl) (Nat.le_of_ble_eq_true rfl) ?_
  refine W.eq (g2 := F0 m 4 ls []) rfl ?_
  refine lv_aload_n hx hb dc_S_init_4 rfl (lv_at hl 0 rfl) ?_
  refine lv_bipush (v := 7) hx hb dc_S_init_5 rfl ?_
  refine cw_newaI (N := 7) hx hb hts hB hA hz (by decide) rfl (by decide) (Nat.le_of_ble_eq_true rfl) (Nat.le_of_ble_eq_true rfl) dc_S_init_7 (fun H hz hB => ?_)
  have hB : cw_B D cA (fun q => b ≤ q) ((b, .inr (8, [.null, .int 0])) :: (([] : va_W) ++ ow_wl [(0, 7)] cA (aw (b + 1)) om_0)) s s.heap H locs := hB
  refine cw_putF hx hb hts iw_S yf_S of_S nf_S hown hB rfl 0 (by decide) mw_207 rfl hin rfl (of_S 0 (by decide)) rfl rfl (Nat.le_of_ble_eq_true rfl) dc_S_init_9 (fun H1 locs e hB => ?_)
  rw [← e] at hz
  generalize H1 = H at hB hz ⊢
  have hB : cw_B D cA (fun q => b ≤ q) ((b, .inr (8, [.ref (b + 1), .int 0])) :: (([] : va_W) ++ ow_wl [(0, 7)] cA (aw (b + 1)) om_0)) s s.heap H locs := hB
  refine cw_vret hx hb hr hlocks hB ?_ hz dc_S_init_12
  show _ = ow_wl ([(3, 8)] ++ [(0, 7)]) cA (aw b) om_0
  rw [cw_app]
  rfl
abbrev cg_P : List (Nat × Nat) := [(3, 1)] ++ [(0, 21)] ++ [(0, 21)] ++ [(0, 7)] ++ cw_Gm 2 7 ++ cw_Gm 2 7
abbrev rm_P_init : Room := { frames := 1, cells := 19, slots := 161, locals := 20 }
theorem hd_P_init : yn_P_init.cls ≠ "java/lang/invoke/MethodHandle" ∧ yn_P_init.cls ≠ "java/lang/invoke/VarHandle" ∧ (parseMethodDescriptor yn_P_init.desc).map (fun d => d.parameters.length) = some 0 := by decide +kernel
set_option maxHeartbeats 4000000 in
set_option maxRecDepth 100000 in
theorem cc_P_init (l : Launch) (D : va_G) (cA : Nat → ClassId) (b : Nat) : Met l yn_P_init (ow_ws yn_P_init cb_P_init 1 none) rm_P_init (cw_Pc D cA b 1 [.null, .null, .null, .null, .null, .int 0, .int 0, .int 0, .int 0]) (cw_Q D cA b cg_P om_0) 19 161 (fun q => b ≤ q) := by
  refine Met.ofW (cc := cb_P_init) (maxL := 1) (ret := none) (by decide) rfl ?_
  intro p e s m args below meth c s₁ B hml hv
  obtain ⟨rfl, hz, hB, hN, hA⟩ := cw_entry hv
  have hx := B.exec
  have hb := B.bytes
  have hr := B.returns
  have hlocks := B.notSynchronized
  have hin : meth.name = "<init>" := (name_of_methodNamed B.named B.method).1
  have hts : ∀ w ∈ lw_g, w.before ([.ref b] : List Value).toArray s = true := fun w h => atoms_spec (ws := ow_ws yn_P_init cb_P_init 1 none) B.pre w (List.mem_cons_of_mem _ h)
  have hown : s.vm.findClass "BallotDesk$Poll" = some m.cls := findClass_of_methodNamed B.named
  clear B hv
  have hl := lv_entry ([.ref b]) (n := 1) (Nat.le_of_ble_eq_true rfl)
  rw [lg_entry_eq]
  generalize (lg_sl ([.ref b]) ++ List.replicate (1 - (lg_sl ([.ref b])).length) Slot.unset).toArray = ls at hl ⊢
  have hl : lv_has ls 1 [(0, .ref b)] := hl
  show W p l e rm_P_init s m _ below meth c s.heap [] 0 0 _ _
  obtain ⟨H, hH⟩ : ∃ H, H = s.heap := ⟨_, rfl⟩
  obtain ⟨locs, hlocs⟩ : ∃ locs : List Loc, locs = [] := ⟨_, rfl⟩
  have hz0 := hz
  suffices K : ∀ (H : Heap) (locs : List Loc), H.size = b + 1 → cw_B D cA (fun q => b ≤ q) [(b, .inr (1, [.null, .null, .null, .null, .null, .int 0, .int 0, .int 0, .int 0]))] s s.heap H locs → W p l e rm_P_init s m ([.ref b] : List Value).toArray below meth c H locs 0 0 (MQ below (cw_Q D cA b cg_P om_0) ([.ref b] : List Value).toArray s 19 161 (fun q => b ≤ q)) (F0 m 0 ls []) from K s.heap [] hz hB
  clear hB hz hH hlocs
  intro H locs hz hB
  refine lv_aload_n hx hb dc_P_init_0 rfl (lv_at hl 0 rfl) ?_
  refine W.objInit hx hb hown (hts _ mw_36) (hts _ mw_29) (hts _ mw_30) rfl (by rw [hml]; exact hl.1) rfl dc_P_init_1 (Nat.le_of_ble_eq_true rfl) (Nat.le_of_ble_eq_true rfl) ?_
  refine W.eq (g2 := F0 m 4 ls []) rfl ?_
  refine lv_aload_n hx hb dc_P_init_4 rfl (lv_at hl 0 rfl) ?_
  refine lv_bipush (v := 21) hx hb dc_P_init_5 rfl ?_
  refine cw_newaI (N := 21) hx hb hts hB hA hz (by decide) rfl (by decide) (Nat.le_of_ble_eq_true rfl) (Nat.le_of_ble_eq_true rfl) dc_P_init_7 (fun H hz hB => ?_)
  have hB : cw_B D cA (fun q => b ≤ q) ((b, .inr (1, [.null, .null, .null, .null, .null, .int 0, .int 0, .int 0, .int 0])) :: (([] : va_W) ++ ow_wl [(0, 21)] cA (aw (b + 1)) om_0)) s s.heap H locs := hB
  refine cw_putF hx hb hts iw_P yf_P of_P nf_P hown hB rfl 0 (by decide) mw_39 rfl hin rfl (of_P 0 (by decide)) rfl rfl (Nat.le_of_ble_eq_true rfl) dc_P_init_9 (fun H1 locs e hB => ?_)
  rw [← e] at hz
  generalize H1 = H at hB hz ⊢
  have hB : cw_B D cA (fun q => b ≤ q) ((b, .inr (1, [.ref (b + 1), .null, .null, .null, .null, .int 0, .int 0, .int 0, .int 0])) :: (([] : va_W) ++ ow_wl [(0, 21)] cA (aw (b + 1)) om_0)) s s.heap H locs := hB
  refine lv_aload_n hx hb dc_P_init_12 rfl (lv_at hl 0 rfl) ?_
  refine lv_bipush (v := 21) hx hb dc_P_init_13 rfl ?_
  refine cw_newaI (N := 21) hx hb hts hB hA hz (by decide) rfl (by decide) (Nat.le_of_ble_eq_true rfl) (Nat.le_of_ble_eq_true rfl) dc_P_init_15 (fun H hz hB => ?_)
  have hB : cw_B D cA (fun q => b ≤ q) ((b, .inr (1, [.ref (b + 1), .null, .null, .null, .null, .int 0, .int 0, .int 0, .int 0])) :: ((([] : va_W) ++ ow_wl [(0, 21)] cA (aw (b + 1)) om_0) ++ ow_wl [(0, 21)] cA (aw (b + 2)) om_0)) s s.heap H locs := hB
  refine cw_putF hx hb hts iw_P yf_P of_P nf_P hown hB rfl 1 (by decide) mw_43 rfl hin rfl (of_P 1 (by decide)) rfl rfl (Nat.le_of_ble_eq_true rfl) dc_P_init_17 (fun H1 locs e hB => ?_)
  rw [← e] at hz
  generalize H1 = H at hB hz ⊢
  have hB : cw_B D cA (fun q => b ≤ q) ((b, .inr (1, [.ref (b + 1), .ref (b + 2), .null, .null, .null, .int 0, .int 0, .int 0, .int 0])) :: ((([] : va_W) ++ ow_wl [(0, 21)] cA (aw (b + 1)) om_0) ++ ow_wl [(0, 21)] cA (aw (b + 2)) om_0)) s s.heap H locs := hB
  refine lv_aload_n hx hb dc_P_init_20 rfl (lv_at hl 0 rfl) ?_
  refine lv_bipush (v := 7) hx hb dc_P_init_21 rfl ?_
  refine cw_newaI (N := 7) hx hb hts hB hA hz (by decide) rfl (by decide) (Nat.le_of_ble_eq_true rfl) (Nat.le_of_ble_eq_true rfl) dc_P_init_23 (fun H hz hB => ?_)
  have hB : cw_B D cA (fun q => b ≤ q) ((b, .inr (1, [.ref (b + 1), .ref (b + 2), .null, .null, .null, .int 0, .int 0, .int 0, .int 0])) :: (((([] : va_W) ++ ow_wl [(0, 21)] cA (aw (b + 1)) om_0) ++ ow_wl [(0, 21)] cA (aw (b + 2)) om_0) ++ ow_wl [(0, 7)] cA (aw (b + 3)) om_0)) s s.heap H locs := hB
  refine cw_putF hx hb hts iw_P yf_P of_P nf_P hown hB rfl 2 (by decide) mw_47 rfl hin rfl (of_P 2 (by decide)) rfl rfl (Nat.le_of_ble_eq_true rfl) dc_P_init_25 (fun H1 locs e hB => ?_)
  rw [← e] at hz
  generalize H1 = H at hB hz ⊢
  have hB : cw_B D cA (fun q => b ≤ q) ((b, .inr (1, [.ref (b + 1), .ref (b + 2), .ref (b + 3), .null, .null, .int 0, .int 0, .int 0, .int 0])) :: (((([] : va_W) ++ ow_wl [(0, 21)] cA (aw (b + 1)) om_0) ++ ow_wl [(0, 21)] cA (aw (b + 2)) om_0) ++ ow_wl [(0, 7)] cA (aw (b + 3)) om_0)) s s.heap H locs := hB
  refine lv_aload_n hx hb dc_P_init_28 rfl (lv_at hl 0 rfl) ?_
  refine lv_bipush (v := 7) hx hb dc_P_init_29 rfl ?_
  refine lv_bipush (v := 7) hx hb dc_P_init_31 rfl ?_
  refine cw_mna (t := 2) (K := 7) hx hb hts hown mw_37 hN.2 hB hA hz (by decide) (by decide) rfl (by decide) (Nat.le_of_ble_eq_true rfl) (Nat.le_of_ble_eq_true rfl) dc_P_init_33 (fun H hz hB => ?_)
  have hB : cw_B D cA (fun q => b ≤ q) ((b, .inr (1, [.ref (b + 1), .ref (b + 2), .ref (b + 3), .null, .null, .int 0, .int 0, .int 0, .int 0])) :: ((((([] : va_W) ++ ow_wl [(0, 21)] cA (aw (b + 1)) om_0) ++ ow_wl [(0, 21)] cA (aw (b + 2)) om_0) ++ ow_wl [(0, 7)] cA (aw (b + 3)) om_0) ++ ow_wl (cw_Gm 2 7) cA (aw (b + 4)) om_0)) s s.heap H locs := hB
  refine cw_putF hx hb hts iw_P yf_P of_P nf_P hown hB rfl 3 (by decide) mw_50 rfl hin rfl (of_P 3 (by decide)) rfl rfl (Nat.le_of_ble_eq_true rfl) dc_P_init_37 (fun H1 locs e hB => ?_)
  rw [← e] at hz
  generalize H1 = H at hB hz ⊢
  have hB : cw_B D cA (fun q => b ≤ q) ((b, .inr (1, [.ref (b + 1), .ref (b + 2), .ref (b + 3), .ref (b + 4), .null, .int 0, .int 0, .int 0, .int 0])) :: ((((([] : va_W) ++ ow_wl [(0, 21)] cA (aw (b + 1)) om_0) ++ ow_wl [(0, 21)] cA (aw (b + 2)) om_0) ++ ow_wl [(0, 7)] cA (aw (b + 3)) om_0) ++ ow_wl (cw_Gm 2 7) cA (aw (b + 4)) om_0)) s s.heap H locs := hB
  refine lv_aload_n hx hb dc_P_init_40 rfl (lv_at hl 0 rfl) ?_
  refine lv_bipush (v := 7) hx hb dc_P_init_41 rfl ?_
  refine lv_bipush (v := 7) hx hb dc_P_init_43 rfl ?_
  refine cw_mna (t := 2) (K := 7) hx hb hts hown mw_37 hN.2 hB hA hz (by decide) (by decide) rfl (by decide) (Nat.le_of_ble_eq_true rfl) (Nat.le_of_ble_eq_true rfl) dc_P_init_45 (fun H hz hB => ?_)
  have hB : cw_B D cA (fun q => b ≤ q) ((b, .inr (1, [.ref (b + 1), .ref (b + 2), .ref (b + 3), .ref (b + 4), .null, .int 0, .int 0, .int 0, .int 0])) :: (((((([] : va_W) ++ ow_wl [(0, 21)] cA (aw (b + 1)) om_0) ++ ow_wl [(0, 21)] cA (aw (b + 2)) om_0) ++ ow_wl [(0, 7)] cA (aw (b + 3)) om_0) ++ ow_wl (cw_Gm 2 7) cA (aw (b + 4)) om_0) ++ ow_wl (cw_Gm 2 7) cA (aw (b + 12)) om_0)) s s.heap H locs := hB
  refine cw_putF hx hb hts iw_P yf_P of_P nf_P hown hB rfl 4 (by decide) mw_53 rfl hin rfl (of_P 4 (by decide)) rfl rfl (Nat.le_of_ble_eq_true rfl) dc_P_init_49 (fun H1 locs e hB => ?_)
  rw [← e] at hz
  generalize H1 = H at hB hz ⊢
  have hB : cw_B D cA (fun q => b ≤ q) ((b, .inr (1, [.ref (b + 1), .ref (b + 2), .ref (b + 3), .ref (b + 4), .ref (b + 12), .int 0, .int 0, .int 0, .int 0])) :: (((((([] : va_W) ++ ow_wl [(0, 21)] cA (aw (b + 1)) om_0) ++ ow_wl [(0, 21)] cA (aw (b + 2)) om_0) ++ ow_wl [(0, 7)] cA (aw (b + 3)) om_0) ++ ow_wl (cw_Gm 2 7) cA (aw (b + 4)) om_0) ++ ow_wl (cw_Gm 2 7) cA (aw (b + 12)) om_0)) s s.heap H locs := hB
  refine cw_vret hx hb hr hlocks hB ?_ hz dc_P_init_52
  show _ = ow_wl ([(3, 1)] ++ [(0, 21)] ++ [(0, 21)] ++ [(0, 7)] ++ cw_Gm 2 7 ++ cw_Gm 2 7) cA (aw b) om_0
  rw [cw_app, cw_app, cw_app, cw_app, cw_app]
  rfl
