theorem cw_good {y : MethodName} {bytes : ByteArray} {maxL : Nat} {ret : Option FieldType} (hc : Cond.code y bytes maxL ret ∈ lw_g) : GoodIn lw_g (ow_ws y bytes maxL ret) := fun w h => by
  rcases List.mem_cons.mp h with rfl | h
  · exact ⟨hc, good_of_word (tg_good hc)⟩
  · exact ⟨h, good_of_word (tg_good h)⟩
theorem cw_sz {p : Program} {l : Launch} {e : Env} {R : Room} {s : State} {m : MethodId} {args : Array Value} {below : List Frame} {meth : Method} {c : Code} {H : Heap} {locs : List Loc} {cells slots : Nat} {Q : State → Prop} {g : JFrame} (k : H.size ≤ s.heap.size + cells → W p l e R s m args below meth c H locs cells slots Q g) : W p l e R s m args below meth c H locs cells slots Q g := fun T hT X => k (hT ▸ X.heapSize) T hT X
def cg_E : List (Nat × Nat) := [(3, 3)] ++ [(1, 128)] ++ [(0, 7)]
abbrev rm_E_init : Room := { frames := 1, cells := 2, slots := 135, locals := 20 }
theorem hd_E_init : yn_E_init.cls ≠ "java/lang/invoke/MethodHandle" ∧ yn_E_init.cls ≠ "java/lang/invoke/VarHandle" ∧ (parseMethodDescriptor yn_E_init.desc).map (fun d => d.parameters.length) = some 0 := by decide +kernel
set_option maxHeartbeats 4000000 in
set_option maxRecDepth 100000 in
theorem cc_E_init (l : Launch) (D : va_G) (cA : Nat → ClassId) (b : Nat) : Met l yn_E_init (ow_ws yn_E_init cb_E_init 1 none) rm_E_init (cw_Pc D cA b 3 [.null, .null]) (cw_Q D cA b cg_E om_0) 2 135 (fun q => b ≤ q) := by
  refine Met.ofW (cc := cb_E_init) (maxL := 1) (ret := none) (by decide) rfl ?_
  intro p e s m args below meth c s₁ B hml hv
  obtain ⟨rfl, hz, hB, hN, hA⟩ := cw_entry hv
  have hx := B.exec
  have hb := B.bytes
  have hr := B.returns
  have hlocks := B.notSynchronized
  have hin : meth.name = "<init>" := (name_of_methodNamed B.named B.method).1
  have hts : ∀ w ∈ lw_g, w.before ([.ref b] : List Value).toArray s = true := fun w h => atoms_spec (ws := ow_ws yn_E_init cb_E_init 1 none) B.pre w (List.mem_cons_of_mem _ h)
  have hown : s.vm.findClass "BallotDesk$Elimination" = some m.cls := findClass_of_methodNamed B.named
  clear B hv
  have hl := lv_entry ([.ref b]) (n := 1) (Nat.le_of_ble_eq_true rfl)
  rw [lg_entry_eq]
  generalize (lg_sl ([.ref b]) ++ List.replicate (1 - (lg_sl ([.ref b])).length) Slot.unset).toArray = ls at hl ⊢
  have hl : lv_has ls 1 [(0, .ref b)] := hl
  show W p l e rm_E_init s m _ below meth c s.heap [] 0 0 _ _
  obtain ⟨H, hH⟩ : ∃ H, H = s.heap := ⟨_, rfl⟩
  obtain ⟨locs, hlocs⟩ : ∃ locs : List Loc, locs = [] := ⟨_, rfl⟩
  have hz0 := hz
  suffices K : ∀ (H : Heap) (locs : List Loc), H.size = b + 1 → cw_B D cA (fun q => b ≤ q) [(b, .inr (3, [.null, .null]))] s s.heap H locs → W p l e rm_E_init s m ([.ref b] : List Value).toArray below meth c H locs 0 0 (MQ below (cw_Q D cA b cg_E om_0) ([.ref b] : List Value).toArray s 2 135 (fun q => b ≤ q)) (F0 m 0 ls []) from K s.heap [] hz hB
  clear hB hz hH hlocs
  intro H locs hz hB
  refine lv_aload_n hx hb dc_E_init_0 rfl (lv_at hl 0 rfl) ?_
  refine W.objInit hx hb hown (hts _ mw_129) (hts _ mw_29) (hts _ mw_30) rfl (by rw [hml]; exact hl.1) rfl dc_E_init_1 (Nat.le_of_ble_eq_true rfl) (Nat.le_of_ble_eq_true rfl) ?_
  refine W.eq (g2 := F0 m 4 ls []) rfl ?_
  refine lv_aload_n hx hb dc_E_init_4 rfl (lv_at hl 0 rfl) ?_
  refine lv_sipush (v := 128) hx hb dc_E_init_5 rfl ?_
  refine cw_newaZ (N := 128) hx hb hts hB hA hz (by decide) rfl (by decide) (Nat.le_of_ble_eq_true rfl) (Nat.le_of_ble_eq_true rfl) dc_E_init_8 (fun H hz hB => ?_)
  have hB : cw_B D cA (fun q => b ≤ q) ((b, .inr (3, [.null, .null])) :: (([] : va_W) ++ ow_wl [(1, 128)] cA (aw (b + 1)) om_0)) s s.heap H locs := hB
  refine cw_putF hx hb hts iw_E yf_E of_E nf_E hown hB rfl 0 (by decide) mw_130 rfl hin rfl (of_E 0 (by decide)) rfl rfl (Nat.le_of_ble_eq_true rfl) dc_E_init_10 (fun H1 locs e hB => ?_)
  rw [← e] at hz
  generalize H1 = H at hB hz ⊢
  have hB : cw_B D cA (fun q => b ≤ q) ((b, .inr (3, [.ref (b + 1), .null])) :: (([] : va_W) ++ ow_wl [(1, 128)] cA (aw (b + 1)) om_0)) s s.heap H locs := hB
  refine lv_aload_n hx hb dc_E_init_13 rfl (lv_at hl 0 rfl) ?_
  refine lv_bipush (v := 7) hx hb dc_E_init_14 rfl ?_
  refine cw_newaI (N := 7) hx hb hts hB hA hz (by decide) rfl (by decide) (Nat.le_of_ble_eq_true rfl) (Nat.le_of_ble_eq_true rfl) dc_E_init_16 (fun H hz hB => ?_)
  have hB : cw_B D cA (fun q => b ≤ q) ((b, .inr (3, [.ref (b + 1), .null])) :: ((([] : va_W) ++ ow_wl [(1, 128)] cA (aw (b + 1)) om_0) ++ ow_wl [(0, 7)] cA (aw (b + 2)) om_0)) s s.heap H locs := hB
  refine cw_putF hx hb hts iw_E yf_E of_E nf_E hown hB rfl 1 (by decide) mw_131 rfl hin rfl (of_E 1 (by decide)) rfl rfl (Nat.le_of_ble_eq_true rfl) dc_E_init_18 (fun H1 locs e hB => ?_)
  rw [← e] at hz
  generalize H1 = H at hB hz ⊢
  have hB : cw_B D cA (fun q => b ≤ q) ((b, .inr (3, [.ref (b + 1), .ref (b + 2)])) :: ((([] : va_W) ++ ow_wl [(1, 128)] cA (aw (b + 1)) om_0) ++ ow_wl [(0, 7)] cA (aw (b + 2)) om_0)) s s.heap H locs := hB
  refine cw_vret hx hb hr hlocks hB ?_ hz dc_E_init_21
  show _ = ow_wl ([(3, 3)] ++ [(1, 128)] ++ [(0, 7)]) cA (aw b) om_0
  rw [cw_app, cw_app]
  rfl
def cg_H : List (Nat × Nat) := [(3, 4)] ++ cw_Gm 2 7
abbrev rm_H_init : Room := { frames := 1, cells := 8, slots := 56, locals := 20 }
theorem hd_H_init : yn_H_init.cls ≠ "java/lang/invoke/MethodHandle" ∧ yn_H_init.cls ≠ "java/lang/invoke/VarHandle" ∧ (parseMethodDescriptor yn_H_init.desc).map (fun d => d.parameters.length) = some 0 := by decide +kernel
set_option maxHeartbeats 4000000 in
set_option maxRecDepth 100000 in
theorem cc_H_init (l : Launch) (D : va_G) (cA : Nat → ClassId) (b : Nat) : Met l yn_H_init (ow_ws yn_H_init cb_H_init 1 none) rm_H_init (cw_Pc D cA b 4 [.null]) (cw_Q D cA b cg_H om_0) 8 56 (fun q => b ≤ q) := by
  refine Met.ofW (cc := cb_H_init) (maxL := 1) (ret := none) (by decide) rfl ?_
  intro p e s m args below meth c s₁ B hml hv
  obtain ⟨rfl, hz, hB, hN, hA⟩ := cw_entry hv
  have hx := B.exec
  have hb := B.bytes
  have hr := B.returns
  have hlocks := B.notSynchronized
  have hin : meth.name = "<init>" := (name_of_methodNamed B.named B.method).1
  have hts : ∀ w ∈ lw_g, w.before ([.ref b] : List Value).toArray s = true := fun w h => atoms_spec (ws := ow_ws yn_H_init cb_H_init 1 none) B.pre w (List.mem_cons_of_mem _ h)
  have hown : s.vm.findClass "BallotDesk$Paths" = some m.cls := findClass_of_methodNamed B.named
  clear B hv
  have hl := lv_entry ([.ref b]) (n := 1) (Nat.le_of_ble_eq_true rfl)
  rw [lg_entry_eq]
  generalize (lg_sl ([.ref b]) ++ List.replicate (1 - (lg_sl ([.ref b])).length) Slot.unset).toArray = ls at hl ⊢
  have hl : lv_has ls 1 [(0, .ref b)] := hl
  show W p l e rm_H_init s m _ below meth c s.heap [] 0 0 _ _
  obtain ⟨H, hH⟩ : ∃ H, H = s.heap := ⟨_, rfl⟩
  obtain ⟨locs, hlocs⟩ : ∃ locs : List Loc, locs = [] := ⟨_, rfl⟩
  have hz0 := hz
  suffices K : ∀ (H : Heap) (locs : List Loc), H.size = b + 1 → cw_B D cA (fun q => b ≤ q) [(b, .inr (4, [.null]))] s s.heap H locs → W p l e rm_H_init s m ([.ref b] : List Value).toArray below meth c H locs 0 0 (MQ below (cw_Q D cA b cg_H om_0) ([.ref b] : List Value).toArray s 8 56 (fun q => b ≤ q)) (F0 m 0 ls []) from K s.heap [] hz hB
  clear hB hz hH hlocs
  intro H locs hz hB
  refine lv_aload_n hx hb dc_H_init_0 rfl (lv_at hl 0 rfl) ?_
  refine W.objInit hx hb hown (hts _ mw_143) (hts _ mw_29) (hts _ mw_30) rfl (by rw [hml]; exact hl.1) rfl dc_H_init_1 (Nat.le_of_ble_eq_true rfl) (Nat.le_of_ble_eq_true rfl) ?_
  refine W.eq (g2 := F0 m 4 ls []) rfl ?_
  refine lv_aload_n hx hb dc_H_init_4 rfl (lv_at hl 0 rfl) ?_
  refine lv_bipush (v := 7) hx hb dc_H_init_5 rfl ?_
  refine lv_bipush (v := 7) hx hb dc_H_init_7 rfl ?_
  refine cw_mna (t := 2) (K := 7) hx hb hts hown mw_144 hN.2 hB hA hz (by decide) (by decide) rfl (by decide) (Nat.le_of_ble_eq_true rfl) (Nat.le_of_ble_eq_true rfl) dc_H_init_9 (fun H hz hB => ?_)
  have hB : cw_B D cA (fun q => b ≤ q) ((b, .inr (4, [.null])) :: (([] : va_W) ++ ow_wl (cw_Gm 2 7) cA (aw (b + 1)) om_0)) s s.heap H locs := hB
  refine cw_putF hx hb hts iw_H yf_H of_H nf_H hown hB rfl 0 (by decide) mw_145 rfl hin rfl (of_H 0 (by decide)) rfl rfl (Nat.le_of_ble_eq_true rfl) dc_H_init_13 (fun H1 locs e hB => ?_)
  rw [← e] at hz
  generalize H1 = H at hB hz ⊢
  have hB : cw_B D cA (fun q => b ≤ q) ((b, .inr (4, [.ref (b + 1)])) :: (([] : va_W) ++ ow_wl (cw_Gm 2 7) cA (aw (b + 1)) om_0)) s s.heap H locs := hB
  refine cw_vret hx hb hr hlocks hB ?_ hz dc_H_init_16
  show _ = ow_wl ([(3, 4)] ++ cw_Gm 2 7) cA (aw b) om_0
  rw [cw_app]
  rfl
def cg_K : List (Nat × Nat) := [(3, 5)] ++ [(0, 21)] ++ [(0, 7)]
abbrev rm_K_init : Room := { frames := 1, cells := 2, slots := 28, locals := 20 }
theorem hd_K_init : yn_K_init.cls ≠ "java/lang/invoke/MethodHandle" ∧ yn_K_init.cls ≠ "java/lang/invoke/VarHandle" ∧ (parseMethodDescriptor yn_K_init.desc).map (fun d => d.parameters.length) = some 0 := by decide +kernel
set_option maxHeartbeats 4000000 in
set_option maxRecDepth 100000 in
theorem cc_K_init (l : Launch) (D : va_G) (cA : Nat → ClassId) (b : Nat) : Met l yn_K_init (ow_ws yn_K_init cb_K_init 1 none) rm_K_init (cw_Pc D cA b 5 [.null, .null, .int 0]) (cw_Q D cA b cg_K om_0) 2 28 (fun q => b ≤ q) := by
  refine Met.ofW (cc := cb_K_init) (maxL := 1) (ret := none) (by decide) rfl ?_
  intro p e s m args below meth c s₁ B hml hv
  obtain ⟨rfl, hz, hB, hN, hA⟩ := cw_entry hv
  have hx := B.exec
  have hb := B.bytes
  have hr := B.returns
  have hlocks := B.notSynchronized
  have hin : meth.name = "<init>" := (name_of_methodNamed B.named B.method).1
  have hts : ∀ w ∈ lw_g, w.before ([.ref b] : List Value).toArray s = true := fun w h => atoms_spec (ws := ow_ws yn_K_init cb_K_init 1 none) B.pre w (List.mem_cons_of_mem _ h)
  have hown : s.vm.findClass "BallotDesk$Locks" = some m.cls := findClass_of_methodNamed B.named
  clear B hv
  have hl := lv_entry ([.ref b]) (n := 1) (Nat.le_of_ble_eq_true rfl)
  rw [lg_entry_eq]
  generalize (lg_sl ([.ref b]) ++ List.replicate (1 - (lg_sl ([.ref b])).length) Slot.unset).toArray = ls at hl ⊢
  have hl : lv_has ls 1 [(0, .ref b)] := hl
  show W p l e rm_K_init s m _ below meth c s.heap [] 0 0 _ _
  obtain ⟨H, hH⟩ : ∃ H, H = s.heap := ⟨_, rfl⟩
  obtain ⟨locs, hlocs⟩ : ∃ locs : List Loc, locs = [] := ⟨_, rfl⟩
  have hz0 := hz
  suffices K : ∀ (H : Heap) (locs : List Loc), H.size = b + 1 → cw_B D cA (fun q => b ≤ q) [(b, .inr (5, [.null, .null, .int 0]))] s s.heap H locs → W p l e rm_K_init s m ([.ref b] : List Value).toArray below meth c H locs 0 0 (MQ below (cw_Q D cA b cg_K om_0) ([.ref b] : List Value).toArray s 2 28 (fun q => b ≤ q)) (F0 m 0 ls []) from K s.heap [] hz hB
  clear hB hz hH hlocs
  intro H locs hz hB
  refine lv_aload_n hx hb dc_K_init_0 rfl (lv_at hl 0 rfl) ?_
  refine W.objInit hx hb hown (hts _ mw_155) (hts _ mw_29) (hts _ mw_30) rfl (by rw [hml]; exact hl.1) rfl dc_K_init_1 (Nat.le_of_ble_eq_true rfl) (Nat.le_of_ble_eq_true rfl) ?_
  refine W.eq (g2 := F0 m 4 ls []) rfl ?_
  refine lv_aload_n hx hb dc_K_init_4 rfl (lv_at hl 0 rfl) ?_
  refine lv_bipush (v := 21) hx hb dc_K_init_5 rfl ?_
  refine cw_newaI (N := 21) hx hb hts hB hA hz (by decide) rfl (by decide) (Nat.le_of_ble_eq_true rfl) (Nat.le_of_ble_eq_true rfl) dc_K_init_7 (fun H hz hB => ?_)
  have hB : cw_B D cA (fun q => b ≤ q) ((b, .inr (5, [.null, .null, .int 0])) :: (([] : va_W) ++ ow_wl [(0, 21)] cA (aw (b + 1)) om_0)) s s.heap H locs := hB
  refine cw_putF hx hb hts iw_K yf_K of_K nf_K hown hB rfl 0 (by decide) mw_156 rfl hin rfl (of_K 0 (by decide)) rfl rfl (Nat.le_of_ble_eq_true rfl) dc_K_init_9 (fun H1 locs e hB => ?_)
  rw [← e] at hz
  generalize H1 = H at hB hz ⊢
  have hB : cw_B D cA (fun q => b ≤ q) ((b, .inr (5, [.ref (b + 1), .null, .int 0])) :: (([] : va_W) ++ ow_wl [(0, 21)] cA (aw (b + 1)) om_0)) s s.heap H locs := hB
  refine lv_aload_n hx hb dc_K_init_12 rfl (lv_at hl 0 rfl) ?_
  refine lv_bipush (v := 7) hx hb dc_K_init_13 rfl ?_
  refine cw_newaI (N := 7) hx hb hts hB hA hz (by decide) rfl (by decide) (Nat.le_of_ble_eq_true rfl) (Nat.le_of_ble_eq_true rfl) dc_K_init_15 (fun H hz hB => ?_)
  have hB : cw_B D cA (fun q => b ≤ q) ((b, .inr (5, [.ref (b + 1), .null, .int 0])) :: ((([] : va_W) ++ ow_wl [(0, 21)] cA (aw (b + 1)) om_0) ++ ow_wl [(0, 7)] cA (aw (b + 2)) om_0)) s s.heap H locs := hB
  refine cw_putF hx hb hts iw_K yf_K of_K nf_K hown hB rfl 1 (by decide) mw_157 rfl hin rfl (of_K 1 (by decide)) rfl rfl (Nat.le_of_ble_eq_true rfl) dc_K_init_17 (fun H1 locs e hB => ?_)
  rw [← e] at hz
  generalize H1 = H at hB hz ⊢
  have hB : cw_B D cA (fun q => b ≤ q) ((b, .inr (5, [.ref (b + 1), .ref (b + 2), .int 0])) :: ((([] : va_W) ++ ow_wl [(0, 21)] cA (aw (b + 1)) om_0) ++ ow_wl [(0, 7)] cA (aw (b + 2)) om_0)) s s.heap H locs := hB
  refine cw_vret hx hb hr hlocks hB ?_ hz dc_K_init_20
  show _ = ow_wl ([(3, 5)] ++ [(0, 21)] ++ [(0, 7)]) cA (aw b) om_0
  rw [cw_app, cw_app]
  rfl
def cg_A : List (Nat × Nat) := [(3, 6)] ++ [(0, 128)] ++ cw_Gm 5 128
abbrev rm_A_init : Room := { frames := 1, cells := 9, slots := 1031, locals := 20 }
theorem hd_A_init : yn_A_init.cls ≠ "java/lang/invoke/MethodHandle" ∧ yn_A_init.cls ≠ "java/lang/invoke/VarHandle" ∧ (parseMethodDescriptor yn_A_init.desc).map (fun d => d.parameters.length) = some 0 := by decide +kernel
set_option maxHeartbeats 4000000 in
set_option maxRecDepth 100000 in
theorem cc_A_init (l : Launch) (D : va_G) (cA : Nat → ClassId) (b : Nat) : Met l yn_A_init (ow_ws yn_A_init cb_A_init 1 none) rm_A_init (cw_Pc D cA b 6 [.null, .null]) (cw_Q D cA b cg_A om_0) 9 1031 (fun q => b ≤ q) := by
  refine Met.ofW (cc := cb_A_init) (maxL := 1) (ret := none) (by decide) rfl ?_
  intro p e s m args below meth c s₁ B hml hv
  obtain ⟨rfl, hz, hB, hN, hA⟩ := cw_entry hv
  have hx := B.exec
  have hb := B.bytes
  have hr := B.returns
  have hlocks := B.notSynchronized
  have hin : meth.name = "<init>" := (name_of_methodNamed B.named B.method).1
  have hts : ∀ w ∈ lw_g, w.before ([.ref b] : List Value).toArray s = true := fun w h => atoms_spec (ws := ow_ws yn_A_init cb_A_init 1 none) B.pre w (List.mem_cons_of_mem _ h)
  have hown : s.vm.findClass "BallotDesk$Agreement" = some m.cls := findClass_of_methodNamed B.named
  clear B hv
  have hl := lv_entry ([.ref b]) (n := 1) (Nat.le_of_ble_eq_true rfl)
  rw [lg_entry_eq]
  generalize (lg_sl ([.ref b]) ++ List.replicate (1 - (lg_sl ([.ref b])).length) Slot.unset).toArray = ls at hl ⊢
  have hl : lv_has ls 1 [(0, .ref b)] := hl
  show W p l e rm_A_init s m _ below meth c s.heap [] 0 0 _ _
  obtain ⟨H, hH⟩ : ∃ H, H = s.heap := ⟨_, rfl⟩
  obtain ⟨locs, hlocs⟩ : ∃ locs : List Loc, locs = [] := ⟨_, rfl⟩
  have hz0 := hz
  suffices K : ∀ (H : Heap) (locs : List Loc), H.size = b + 1 → cw_B D cA (fun q => b ≤ q) [(b, .inr (6, [.null, .null]))] s s.heap H locs → W p l e rm_A_init s m ([.ref b] : List Value).toArray below meth c H locs 0 0 (MQ below (cw_Q D cA b cg_A om_0) ([.ref b] : List Value).toArray s 9 1031 (fun q => b ≤ q)) (F0 m 0 ls []) from K s.heap [] hz hB
  clear hB hz hH hlocs
  intro H locs hz hB
  refine lv_aload_n hx hb dc_A_init_0 rfl (lv_at hl 0 rfl) ?_
  refine W.objInit hx hb hown (hts _ mw_171) (hts _ mw_29) (hts _ mw_30) rfl (by rw [hml]; exact hl.1) rfl dc_A_init_1 (Nat.le_of_ble_eq_true rfl) (Nat.le_of_ble_eq_true rfl) ?_
  refine W.eq (g2 := F0 m 4 ls []) rfl ?_
  refine lv_aload_n hx hb dc_A_init_4 rfl (lv_at hl 0 rfl) ?_
  refine lv_sipush (v := 128) hx hb dc_A_init_5 rfl ?_
  refine cw_newaI (N := 128) hx hb hts hB hA hz (by decide) rfl (by decide) (Nat.le_of_ble_eq_true rfl) (Nat.le_of_ble_eq_true rfl) dc_A_init_8 (fun H hz hB => ?_)
  have hB : cw_B D cA (fun q => b ≤ q) ((b, .inr (6, [.null, .null])) :: (([] : va_W) ++ ow_wl [(0, 128)] cA (aw (b + 1)) om_0)) s s.heap H locs := hB
  refine cw_putF hx hb hts iw_A yf_A of_A nf_A hown hB rfl 0 (by decide) mw_173 rfl hin rfl (of_A 0 (by decide)) rfl rfl (Nat.le_of_ble_eq_true rfl) dc_A_init_10 (fun H1 locs e hB => ?_)
  rw [← e] at hz
  generalize H1 = H at hB hz ⊢
  have hB : cw_B D cA (fun q => b ≤ q) ((b, .inr (6, [.ref (b + 1), .null])) :: (([] : va_W) ++ ow_wl [(0, 128)] cA (aw (b + 1)) om_0)) s s.heap H locs := hB
  refine lv_aload_n hx hb dc_A_init_13 rfl (lv_at hl 0 rfl) ?_
  refine lv_bipush (v := 7) hx hb dc_A_init_14 rfl ?_
  refine lv_sipush (v := 128) hx hb dc_A_init_16 rfl ?_
  refine cw_mna (t := 5) (K := 128) hx hb hts hown mw_172 hN.2 hB hA hz (by decide) (by decide) rfl (by decide) (Nat.le_of_ble_eq_true rfl) (Nat.le_of_ble_eq_true rfl) dc_A_init_19 (fun H hz hB => ?_)
  have hB : cw_B D cA (fun q => b ≤ q) ((b, .inr (6, [.ref (b + 1), .null])) :: ((([] : va_W) ++ ow_wl [(0, 128)] cA (aw (b + 1)) om_0) ++ ow_wl (cw_Gm 5 128) cA (aw (b + 2)) om_0)) s s.heap H locs := hB
  refine cw_putF hx hb hts iw_A yf_A of_A nf_A hown hB rfl 1 (by decide) mw_174 rfl hin rfl (of_A 1 (by decide)) rfl rfl (Nat.le_of_ble_eq_true rfl) dc_A_init_23 (fun H1 locs e hB => ?_)
  rw [← e] at hz
  generalize H1 = H at hB hz ⊢
  have hB : cw_B D cA (fun q => b ≤ q) ((b, .inr (6, [.ref (b + 1), .ref (b + 2)])) :: ((([] : va_W) ++ ow_wl [(0, 128)] cA (aw (b + 1)) om_0) ++ ow_wl (cw_Gm 5 128) cA (aw (b + 2)) om_0)) s s.heap H locs := hB
  refine cw_vret hx hb hr hlocks hB ?_ hz dc_A_init_26
  show _ = ow_wl ([(3, 6)] ++ [(0, 128)] ++ cw_Gm 5 128) cA (aw b) om_0
  rw [cw_app, cw_app]
  rfl
def cg_S : List (Nat × Nat) := [(3, 8)] ++ [(0, 7)]
abbrev rm_S_init : Room := { frames := 1, cells := 1, slots := 7, locals := 20 }
theorem hd_S_init : yn_S_init.cls ≠ "java/lang/invoke/MethodHandle" ∧ yn_S_init.cls ≠ "java/lang/invoke/VarHandle" ∧ (parseMethodDescriptor yn_S_init.desc).map (fun d => d.parameters.length) = some 0 := by decide +kernel
set_option maxHeartbeats 4000000 in
set_option maxRecDepth 100000 in
theorem cc_S_init (l : Launch) (D : va_G) (cA : Nat → ClassId) (b : Nat) : Met l yn_S_init (ow_ws yn_S_init cb_S_init 1 none) rm_S_init (cw_Pc D cA b 8 [.null, .int 0]) (cw_Q D cA b cg_S om_0) 1 7 (fun q => b ≤ q) := by
  refine Met.ofW (cc := cb_S_init) (maxL := 1) (ret := none) (by decide) rfl ?_
  intro p e s m args below meth c s₁ B hml hv
  obtain ⟨rfl, hz, hB, hN, hA⟩ := cw_entry hv
  have hx := B.exec
  have hb := B.bytes
  have hr := B.returns
  have hlocks := B.notSynchronized
  have hin : meth.name = "<init>" := (name_of_methodNamed B.named B.method).1
  have hts : ∀ w ∈ lw_g, w.before ([.ref b] : List Value).toArray s = true := fun w h => atoms_spec (ws := ow_ws yn_S_init cb_S_init 1 none) B.pre w (List.mem_cons_of_mem _ h)
  have hown : s.vm.findClass "BallotDesk$Orders" = some m.cls := findClass_of_methodNamed B.named
  clear B hv
  have hl := lv_entry ([.ref b]) (n := 1) (Nat.le_of_ble_eq_true rfl)
  rw [lg_entry_eq]
  generalize (lg_sl ([.ref b]) ++ List.replicate (1 - (lg_sl ([.ref b])).length) Slot.unset).toArray = ls at hl ⊢
  have hl : lv_has ls 1 [(0, .ref b)] := hl
  show W p l e rm_S_init s m _ below meth c s.heap [] 0 0 _ _
  obtain ⟨H, hH⟩ : ∃ H, H = s.heap := ⟨_, rfl⟩
  obtain ⟨locs, hlocs⟩ : ∃ locs : List Loc, locs = [] := ⟨_, rfl⟩
  have hz0 := hz
  suffices K : ∀ (H : Heap) (locs : List Loc), H.size = b + 1 → cw_B D cA (fun q => b ≤ q) [(b, .inr (8, [.null, .int 0]))] s s.heap H locs → W p l e rm_S_init s m ([.ref b] : List Value).toArray below meth c H locs 0 0 (MQ below (cw_Q D cA b cg_S om_0) ([.ref b] : List Value).toArray s 1 7 (fun q => b ≤ q)) (F0 m 0 ls []) from K s.heap [] hz hB
  clear hB hz hH hlocs
  intro H locs hz hB
  refine lv_aload_n hx hb dc_S_init_0 rfl (lv_at hl 0 rfl) ?_
  refine W.objInit hx hb hown (hts _ mw_206) (hts _ mw_29) (hts _ mw_30) rfl (by rw [hml]; exact hl.1) rfl dc_S_init_1 (Nat.le_of_ble_eq_true rfl) (Nat.le_of_ble_eq_true rfl) ?_
  refine W.eq (g2 := F0 m 4 ls []) rfl ?_
  refine lv_aload_n hx hb dc_S_init_4 rfl (lv_at hl 0 rfl) ?_
  refine lv_bipush (v := 7) hx hb dc_S_init_5 rfl ?_
  refine cw_newaI (N := 7) hx hb hts hB hA hz (by decide) rfl (by decide) (Nat.le_of_ble_eq_true rfl) (Nat.le_of_ble_eq_true rfl) dc_S_init_7 (fun H hz hB => ?_)
  have hB : cw_B D cA (fun q => b ≤ q) ((b, .inr (8, [.null, .int 0])) :: (([] : va_W) ++ ow_wl [(0, 7)] cA (aw (b + 1)) om_0)) s s.heap H locs := hB
  refine cw_putF hx hb hts iw_S yf_S of_S nf_S hown hB rfl 0 (by decide) mw_207 rfl hin rfl (of_S 0 (by decide)) rfl rfl (Nat.le_of_ble_eq_true rfl) dc_S_init_9 (fun H1 locs e hB => ?_)
  rw [← e] at hz
  generalize H1 = H at hB hz ⊢
  have hB : cw_B D cA (fun q => b ≤ q) ((b, .inr (8, [.ref (b + 1), .int 0])) :: (([] : va_W) ++ ow_wl [(0, 7)] cA (aw (b + 1)) om_0)) s s.heap H locs := hB
  refine cw_vret hx hb hr hlocks hB ?_ hz dc_S_init_12
  show _ = ow_wl ([(3, 8)] ++ [(0, 7)]) cA (aw b) om_0
  rw [cw_app]
  rfl
def cg_P : List (Nat × Nat) := [(3, 1)] ++ [(0, 21)] ++ [(0, 21)] ++ [(0, 7)] ++ cw_Gm 2 7 ++ cw_Gm 2 7
abbrev rm_P_init : Room := { frames := 1, cells := 19, slots := 161, locals := 20 }
theorem hd_P_init : yn_P_init.cls ≠ "java/lang/invoke/MethodHandle" ∧ yn_P_init.cls ≠ "java/lang/invoke/VarHandle" ∧ (parseMethodDescriptor yn_P_init.desc).map (fun d => d.parameters.length) = some 0 := by decide +kernel
set_option maxHeartbeats 4000000 in
set_option maxRecDepth 100000 in
theorem cc_P_init (l : Launch) (D : va_G) (cA : Nat → ClassId) (b : Nat) : Met l yn_P_init (ow_ws yn_P_init cb_P_init 1 none) rm_P_init (cw_Pc D cA b 1 [.null, .null, .null, .null, .null, .int 0, .int 0, .int 0, .int 0]) (cw_Q D cA b cg_P om_0) 19 161 (fun q => b ≤ q) := by
  refine Met.ofW (cc := cb_P_init) (maxL := 1) (ret := none) (by decide) rfl ?_
  intro p e s m args below meth c s₁ B hml hv
  obtain ⟨rfl, hz, hB, hN, hA⟩ := cw_entry hv
  have hx := B.exec
  have hb := B.bytes
  have hr := B.returns
  have hlocks := B.notSynchronized
  have hin : meth.name = "<init>" := (name_of_methodNamed B.named B.method).1
  have hts : ∀ w ∈ lw_g, w.before ([.ref b] : List Value).toArray s = true := fun w h => atoms_spec (ws := ow_ws yn_P_init cb_P_init 1 none) B.pre w (List.mem_cons_of_mem _ h)
  have hown : s.vm.findClass "BallotDesk$Poll" = some m.cls := findClass_of_methodNamed B.named
  clear B hv
  have hl := lv_entry ([.ref b]) (n := 1) (Nat.le_of_ble_eq_true rfl)
  rw [lg_entry_eq]
  generalize (lg_sl ([.ref b]) ++ List.replicate (1 - (lg_sl ([.ref b])).length) Slot.unset).toArray = ls at hl ⊢
  have hl : lv_has ls 1 [(0, .ref b)] := hl
  show W p l e rm_P_init s m _ below meth c s.heap [] 0 0 _ _
  obtain ⟨H, hH⟩ : ∃ H, H = s.heap := ⟨_, rfl⟩
  obtain ⟨locs, hlocs⟩ : ∃ locs : List Loc, locs = [] := ⟨_, rfl⟩
  have hz0 := hz
  suffices K : ∀ (H : Heap) (locs : List Loc), H.size = b + 1 → cw_B D cA (fun q => b ≤ q) [(b, .inr (1, [.null, .null, .null, .null, .null, .int 0, .int 0, .int 0, .int 0]))] s s.heap H locs → W p l e rm_P_init s m ([.ref b] : List Value).toArray below meth c H locs 0 0 (MQ below (cw_Q D cA b cg_P om_0) ([.ref b] : List Value).toArray s 19 161 (fun q => b ≤ q)) (F0 m 0 ls []) from K s.heap [] hz hB
  clear hB hz hH hlocs
  intro H locs hz hB
  refine lv_aload_n hx hb dc_P_init_0 rfl (lv_at hl 0 rfl) ?_
  refine W.objInit hx hb hown (hts _ mw_36) (hts _ mw_29) (hts _ mw_30) rfl (by rw [hml]; exact hl.1) rfl dc_P_init_1 (Nat.le_of_ble_eq_true rfl) (Nat.le_of_ble_eq_true rfl) ?_
  refine W.eq (g2 := F0 m 4 ls []) rfl ?_
  refine lv_aload_n hx hb dc_P_init_4 rfl (lv_at hl 0 rfl) ?_
  refine lv_bipush (v := 21) hx hb dc_P_init_5 rfl ?_
  refine cw_newaI (N := 21) hx hb hts hB hA hz (by decide) rfl (by decide) (Nat.le_of_ble_eq_true rfl) (Nat.le_of_ble_eq_true rfl) dc_P_init_7 (fun H hz hB => ?_)
  have hB : cw_B D cA (fun q => b ≤ q) ((b, .inr (1, [.null, .null, .null, .null, .null, .int 0, .int 0, .int 0, .int 0])) :: (([] : va_W) ++ ow_wl [(0, 21)] cA (aw (b + 1)) om_0)) s s.heap H locs := hB
  refine cw_putF hx hb hts iw_P yf_P of_P nf_P hown hB rfl 0 (by decide) mw_39 rfl hin rfl (of_P 0 (by decide)) rfl rfl (Nat.le_of_ble_eq_true rfl) dc_P_init_9 (fun H1 locs e hB => ?_)
  rw [← e] at hz
  generalize H1 = H at hB hz ⊢
  have hB : cw_B D cA (fun q => b ≤ q) ((b, .inr (1, [.ref (b + 1), .null, .null, .null, .null, .int 0, .int 0, .int 0, .int 0])) :: (([] : va_W) ++ ow_wl [(0, 21)] cA (aw (b + 1)) om_0)) s s.heap H locs := hB
  refine lv_aload_n hx hb dc_P_init_12 rfl (lv_at hl 0 rfl) ?_
  refine lv_bipush (v := 21) hx hb dc_P_init_13 rfl ?_
  refine cw_newaI (N := 21) hx hb hts hB hA hz (by decide) rfl (by decide) (Nat.le_of_ble_eq_true rfl) (Nat.le_of_ble_eq_true rfl) dc_P_init_15 (fun H hz hB => ?_)
  have hB : cw_B D cA (fun q => b ≤ q) ((b, .inr (1, [.ref (b + 1), .null, .null, .null, .null, .int 0, .int 0, .int 0, .int 0])) :: ((([] : va_W) ++ ow_wl [(0, 21)] cA (aw (b + 1)) om_0) ++ ow_wl [(0, 21)] cA (aw (b + 2)) om_0)) s s.heap H locs := hB
  refine cw_putF hx hb hts iw_P yf_P of_P nf_P hown hB rfl 1 (by decide) mw_43 rfl hin rfl (of_P 1 (by decide)) rfl rfl (Nat.le_of_ble_eq_true rfl) dc_P_init_17 (fun H1 locs e hB => ?_)
  rw [← e] at hz
  generalize H1 = H at hB hz ⊢
  have hB : cw_B D cA (fun q => b ≤ q) ((b, .inr (1, [.ref (b + 1), .ref (b + 2), .null, .null, .null, .int 0, .int 0, .int 0, .int 0])) :: ((([] : va_W) ++ ow_wl [(0, 21)] cA (aw (b + 1)) om_0) ++ ow_wl [(0, 21)] cA (aw (b + 2)) om_0)) s s.heap H locs := hB
  refine lv_aload_n hx hb dc_P_init_20 rfl (lv_at hl 0 rfl) ?_
  refine lv_bipush (v := 7) hx hb dc_P_init_21 rfl ?_
  refine cw_newaI (N := 7) hx hb hts hB hA hz (by decide) rfl (by decide) (Nat.le_of_ble_eq_true rfl) (Nat.le_of_ble_eq_true rfl) dc_P_init_23 (fun H hz hB => ?_)
  have hB : cw_B D cA (fun q => b ≤ q) ((b, .inr (1, [.ref (b + 1), .ref (b + 2), .null, .null, .null, .int 0, .int 0, .int 0, .int 0])) :: (((([] : va_W) ++ ow_wl [(0, 21)] cA (aw (b + 1)) om_0) ++ ow_wl [(0, 21)] cA (aw (b + 2)) om_0) ++ ow_wl [(0, 7)] cA (aw (b + 3)) om_0)) s s.heap H locs := hB
  refine cw_putF hx hb hts iw_P yf_P of_P nf_P hown hB rfl 2 (by decide) mw_47 rfl hin rfl (of_P 2 (by decide)) rfl rfl (Nat.le_of_ble_eq_true rfl) dc_P_init_25 (fun H1 locs e hB => ?_)
  rw [← e] at hz
  generalize H1 = H at hB hz ⊢
  have hB : cw_B D cA (fun q => b ≤ q) ((b, .inr (1, [.ref (b + 1), .ref (b + 2), .ref (b + 3), .null, .null, .int 0, .int 0, .int 0, .int 0])) :: (((([] : va_W) ++ ow_wl [(0, 21)] cA (aw (b + 1)) om_0) ++ ow_wl [(0, 21)] cA (aw (b + 2)) om_0) ++ ow_wl [(0, 7)] cA (aw (b + 3)) om_0)) s s.heap H locs := hB
  refine lv_aload_n hx hb dc_P_init_28 rfl (lv_at hl 0 rfl) ?_
  refine lv_bipush (v := 7) hx hb dc_P_init_29 rfl ?_
  refine lv_bipush (v := 7) hx hb dc_P_init_31 rfl ?_
  refine cw_mna (t := 2) (K := 7) hx hb hts hown mw_37 hN.2 hB hA hz (by decide) (by decide) rfl (by decide) (Nat.le_of_ble_eq_true rfl) (Nat.le_of_ble_eq_true rfl) dc_P_init_33 (fun H hz hB => ?_)
  have hB : cw_B D cA (fun q => b ≤ q) ((b, .inr (1, [.ref (b + 1), .ref (b + 2), .ref (b + 3), .null, .null, .int 0, .int 0, .int 0, .int 0])) :: ((((([] : va_W) ++ ow_wl [(0, 21)] cA (aw (b + 1)) om_0) ++ ow_wl [(0, 21)] cA (aw (b + 2)) om_0) ++ ow_wl [(0, 7)] cA (aw (b + 3)) om_0) ++ ow_wl (cw_Gm 2 7) cA (aw (b + 4)) om_0)) s s.heap H locs := hB
  refine cw_putF hx hb hts iw_P yf_P of_P nf_P hown hB rfl 3 (by decide) mw_50 rfl hin rfl (of_P 3 (by decide)) rfl rfl (Nat.le_of_ble_eq_true rfl) dc_P_init_37 (fun H1 locs e hB => ?_)
  rw [← e] at hz
  generalize H1 = H at hB hz ⊢
  have hB : cw_B D cA (fun q => b ≤ q) ((b, .inr (1, [.ref (b + 1), .ref (b + 2), .ref (b + 3), .ref (b + 4), .null, .int 0, .int 0, .int 0, .int 0])) :: ((((([] : va_W) ++ ow_wl [(0, 21)] cA (aw (b + 1)) om_0) ++ ow_wl [(0, 21)] cA (aw (b + 2)) om_0) ++ ow_wl [(0, 7)] cA (aw (b + 3)) om_0) ++ ow_wl (cw_Gm 2 7) cA (aw (b + 4)) om_0)) s s.heap H locs := hB
  refine lv_aload_n hx hb dc_P_init_40 rfl (lv_at hl 0 rfl) ?_
  refine lv_bipush (v := 7) hx hb dc_P_init_41 rfl ?_
  refine lv_bipush (v := 7) hx hb dc_P_init_43 rfl ?_
  refine cw_mna (t := 2) (K := 7) hx hb hts hown mw_37 hN.2 hB hA hz (by decide) (by decide) rfl (by decide) (Nat.le_of_ble_eq_true rfl) (Nat.le_of_ble_eq_true rfl) dc_P_init_45 (fun H hz hB => ?_)
  have hB : cw_B D cA (fun q => b ≤ q) ((b, .inr (1, [.ref (b + 1), .ref (b + 2), .ref (b + 3), .ref (b + 4), .null, .int 0, .int 0, .int 0, .int 0])) :: (((((([] : va_W) ++ ow_wl [(0, 21)] cA (aw (b + 1)) om_0) ++ ow_wl [(0, 21)] cA (aw (b + 2)) om_0) ++ ow_wl [(0, 7)] cA (aw (b + 3)) om_0) ++ ow_wl (cw_Gm 2 7) cA (aw (b + 4)) om_0) ++ ow_wl (cw_Gm 2 7) cA (aw (b + 12)) om_0)) s s.heap H locs := hB
  refine cw_putF hx hb hts iw_P yf_P of_P nf_P hown hB rfl 4 (by decide) mw_53 rfl hin rfl (of_P 4 (by decide)) rfl rfl (Nat.le_of_ble_eq_true rfl) dc_P_init_49 (fun H1 locs e hB => ?_)
  rw [← e] at hz
  generalize H1 = H at hB hz ⊢
  have hB : cw_B D cA (fun q => b ≤ q) ((b, .inr (1, [.ref (b + 1), .ref (b + 2), .ref (b + 3), .ref (b + 4), .ref (b + 12), .int 0, .int 0, .int 0, .int 0])) :: (((((([] : va_W) ++ ow_wl [(0, 21)] cA (aw (b + 1)) om_0) ++ ow_wl [(0, 21)] cA (aw (b + 2)) om_0) ++ ow_wl [(0, 7)] cA (aw (b + 3)) om_0) ++ ow_wl (cw_Gm 2 7) cA (aw (b + 4)) om_0) ++ ow_wl (cw_Gm 2 7) cA (aw (b + 12)) om_0)) s s.heap H locs := hB
  refine cw_vret hx hb hr hlocks hB ?_ hz dc_P_init_52
  show _ = ow_wl ([(3, 1)] ++ [(0, 21)] ++ [(0, 21)] ++ [(0, 7)] ++ cw_Gm 2 7 ++ cw_Gm 2 7) cA (aw b) om_0
  rw [cw_app, cw_app, cw_app, cw_app, cw_app]
  rfl
def cg_R : List (Nat × Nat) := [(3, 2)] ++ cg_E ++ cg_H ++ cg_K ++ cg_A ++ [(0, 7)]
abbrev rm_R_init : Room := { frames := 2, cells := 26, slots := 1265, locals := 40 }
theorem hd_R_init : yn_R_init.cls ≠ "java/lang/invoke/MethodHandle" ∧ yn_R_init.cls ≠ "java/lang/invoke/VarHandle" ∧ (parseMethodDescriptor yn_R_init.desc).map (fun d => d.parameters.length) = some 0 := by decide +kernel
set_option maxHeartbeats 4000000 in
set_option maxRecDepth 100000 in
theorem cc_R_init (l : Launch) (D : va_G) (cA : Nat → ClassId) (b : Nat) : Met l yn_R_init (ow_ws yn_R_init cb_R_init 1 none) rm_R_init (cw_Pc D cA b 2 [.null, .null, .null, .null, .null]) (cw_Q D cA b cg_R om_0) 26 1265 (fun q => b ≤ q) := by
  refine Met.ofW (cc := cb_R_init) (maxL := 1) (ret := none) (by decide) rfl ?_
  intro p e s m args below meth c s₁ B hml hv
  obtain ⟨rfl, hz, hB, hN, hA⟩ := cw_entry hv
  have hx := B.exec
  have hb := B.bytes
  have hr := B.returns
  have hlocks := B.notSynchronized
  have hin : meth.name = "<init>" := (name_of_methodNamed B.named B.method).1
  have hts : ∀ w ∈ lw_g, w.before ([.ref b] : List Value).toArray s = true := fun w h => atoms_spec (ws := ow_ws yn_R_init cb_R_init 1 none) B.pre w (List.mem_cons_of_mem _ h)
  have hown : s.vm.findClass "BallotDesk$Rules" = some m.cls := findClass_of_methodNamed B.named
  clear B hv
  have hl := lv_entry ([.ref b]) (n := 1) (Nat.le_of_ble_eq_true rfl)
  rw [lg_entry_eq]
  generalize (lg_sl ([.ref b]) ++ List.replicate (1 - (lg_sl ([.ref b])).length) Slot.unset).toArray = ls at hl ⊢
  have hl : lv_has ls 1 [(0, .ref b)] := hl
  show W p l e rm_R_init s m _ below meth c s.heap [] 0 0 _ _
  obtain ⟨H, hH⟩ : ∃ H, H = s.heap := ⟨_, rfl⟩
  obtain ⟨locs, hlocs⟩ : ∃ locs : List Loc, locs = [] := ⟨_, rfl⟩
  have hz0 := hz
  suffices K : ∀ (H : Heap) (locs : List Loc), H.size = b + 1 → cw_B D cA (fun q => b ≤ q) [(b, .inr (2, [.null, .null, .null, .null, .null]))] s s.heap H locs → W p l e rm_R_init s m ([.ref b] : List Value).toArray below meth c H locs 0 0 (MQ below (cw_Q D cA b cg_R om_0) ([.ref b] : List Value).toArray s 26 1265 (fun q => b ≤ q)) (F0 m 0 ls []) from K s.heap [] hz hB
  clear hB hz hH hlocs
  intro H locs hz hB
  refine lv_aload_n hx hb dc_R_init_0 rfl (lv_at hl 0 rfl) ?_
  refine W.objInit hx hb hown (hts _ mw_123) (hts _ mw_29) (hts _ mw_30) rfl (by rw [hml]; exact hl.1) rfl dc_R_init_1 (Nat.le_of_ble_eq_true rfl) (Nat.le_of_ble_eq_true rfl) ?_
  refine W.eq (g2 := F0 m 4 ls []) rfl ?_
  refine lv_aload_n hx hb dc_R_init_4 rfl (lv_at hl 0 rfl) ?_
  refine cw_new (ci := 3) (fs := [.null, .null]) hx hb hts iw_E yf_E of_E hown mw_124 mw_125 mw_7 hB hA hz rfl (by decide) (Nat.le_of_ble_eq_true rfl) (Nat.le_of_ble_eq_true rfl) dc_R_init_5 (fun H hz hB => ?_)
  refine lv_dup hx hb dc_R_init_8 rfl ?_
  refine cw_call (ws := (b, .inr (2, [.null, .null, .null, .null, .null])) :: ([] : va_W)) (va_runIN (As := []) (rest := [.ref (b + 1), .ref b]) ⟨hx, hb, hml, hown, hts⟩ (cc_E_init l D cA (b + 1)) ⟨va_cnB 0 hts (cw_good mw_128) rfl rfl rfl (hN.1 _ (List.mem_of_getElem? (i := 3) rfl)) (hts _ mw_7) hd_E_init ⟨Nat.le_of_ble_eq_true rfl, Nat.le_of_ble_eq_true rfl⟩, rfl, hts _ mw_127⟩ (cw_pre hB hz hN) rfl rfl hl.1 rfl (lv_room (Nat.le_of_ble_eq_true rfl)) dc_R_init_9 ⟨Nat.le_of_ble_eq_true rfl, Nat.le_of_ble_eq_true rfl⟩) hB hz hA (by omega) (fun H locs hz hB => ?_)
  have hz : H.size = b + 4 := hz
  have hB : cw_B D cA (fun q => b ≤ q) ((b, .inr (2, [.null, .null, .null, .null, .null])) :: (([] : va_W) ++ ow_wl cg_E cA (aw (b + 1)) om_0)) s s.heap H locs := hB
  refine cw_putF hx hb hts iw_R yf_R of_R nf_R hown hB rfl 0 (by decide) mw_180 rfl hin rfl (of_R 0 (by decide)) rfl rfl (Nat.le_of_ble_eq_true rfl) dc_R_init_12 (fun H1 locs e hB => ?_)
  rw [← e] at hz
  generalize H1 = H at hB hz ⊢
  have hB : cw_B D cA (fun q => b ≤ q) ((b, .inr (2, [.ref (b + 1), .null, .null, .null, .null])) :: (([] : va_W) ++ ow_wl cg_E cA (aw (b + 1)) om_0)) s s.heap H locs := hB
  refine lv_aload_n hx hb dc_R_init_15 rfl (lv_at hl 0 rfl) ?_
  refine cw_new (ci := 4) (fs := [.null]) hx hb hts iw_H yf_H of_H hown mw_138 mw_139 mw_8 hB hA hz rfl (by decide) (Nat.le_of_ble_eq_true rfl) (Nat.le_of_ble_eq_true rfl) dc_R_init_16 (fun H hz hB => ?_)
  refine lv_dup hx hb dc_R_init_19 rfl ?_
  refine cw_call (ws := (b, .inr (2, [.ref (b + 1), .null, .null, .null, .null])) :: (([] : va_W) ++ ow_wl cg_E cA (aw (b + 1)) om_0)) (va_runIN (As := []) (rest := [.ref (b + 4), .ref b]) ⟨hx, hb, hml, hown, hts⟩ (cc_H_init l D cA (b + 4)) ⟨va_cnB 0 hts (cw_good mw_142) rfl rfl rfl (hN.1 _ (List.mem_of_getElem? (i := 4) rfl)) (hts _ mw_8) hd_H_init ⟨Nat.le_of_ble_eq_true rfl, Nat.le_of_ble_eq_true rfl⟩, rfl, hts _ mw_141⟩ (cw_pre hB hz hN) rfl rfl hl.1 rfl (lv_room (Nat.le_of_ble_eq_true rfl)) dc_R_init_20 ⟨Nat.le_of_ble_eq_true rfl, Nat.le_of_ble_eq_true rfl⟩) hB hz hA (by omega) (fun H locs hz hB => ?_)
  have hz : H.size = b + 13 := hz
  have hB : cw_B D cA (fun q => b ≤ q) ((b, .inr (2, [.ref (b + 1), .null, .null, .null, .null])) :: ((([] : va_W) ++ ow_wl cg_E cA (aw (b + 1)) om_0) ++ ow_wl cg_H cA (aw (b + 4)) om_0)) s s.heap H locs := hB
  refine cw_putF hx hb hts iw_R yf_R of_R nf_R hown hB rfl 1 (by decide) mw_182 rfl hin rfl (of_R 1 (by decide)) rfl rfl (Nat.le_of_ble_eq_true rfl) dc_R_init_23 (fun H1 locs e hB => ?_)
  rw [← e] at hz
  generalize H1 = H at hB hz ⊢
  have hB : cw_B D cA (fun q => b ≤ q) ((b, .inr (2, [.ref (b + 1), .ref (b + 4), .null, .null, .null])) :: ((([] : va_W) ++ ow_wl cg_E cA (aw (b + 1)) om_0) ++ ow_wl cg_H cA (aw (b + 4)) om_0)) s s.heap H locs := hB
  refine lv_aload_n hx hb dc_R_init_26 rfl (lv_at hl 0 rfl) ?_
  refine cw_new (ci := 5) (fs := [.null, .null, .int 0]) hx hb hts iw_K yf_K of_K hown mw_150 mw_151 mw_9 hB hA hz rfl (by decide) (Nat.le_of_ble_eq_true rfl) (Nat.le_of_ble_eq_true rfl) dc_R_init_27 (fun H hz hB => ?_)
  refine lv_dup hx hb dc_R_init_30 rfl ?_
  refine cw_call (ws := (b, .inr (2, [.ref (b + 1), .ref (b + 4), .null, .null, .null])) :: ((([] : va_W) ++ ow_wl cg_E cA (aw (b + 1)) om_0) ++ ow_wl cg_H cA (aw (b + 4)) om_0)) (va_runIN (As := []) (rest := [.ref (b + 13), .ref b]) ⟨hx, hb, hml, hown, hts⟩ (cc_K_init l D cA (b + 13)) ⟨va_cnB 0 hts (cw_good mw_154) rfl rfl rfl (hN.1 _ (List.mem_of_getElem? (i := 5) rfl)) (hts _ mw_9) hd_K_init ⟨Nat.le_of_ble_eq_true rfl, Nat.le_of_ble_eq_true rfl⟩, rfl, hts _ mw_153⟩ (cw_pre hB hz hN) rfl rfl hl.1 rfl (lv_room (Nat.le_of_ble_eq_true rfl)) dc_R_init_31 ⟨Nat.le_of_ble_eq_true rfl, Nat.le_of_ble_eq_true rfl⟩) hB hz hA (by omega) (fun H locs hz hB => ?_)
  have hz : H.size = b + 16 := hz
  have hB : cw_B D cA (fun q => b ≤ q) ((b, .inr (2, [.ref (b + 1), .ref (b + 4), .null, .null, .null])) :: (((([] : va_W) ++ ow_wl cg_E cA (aw (b + 1)) om_0) ++ ow_wl cg_H cA (aw (b + 4)) om_0) ++ ow_wl cg_K cA (aw (b + 13)) om_0)) s s.heap H locs := hB
  refine cw_putF hx hb hts iw_R yf_R of_R nf_R hown hB rfl 2 (by decide) mw_184 rfl hin rfl (of_R 2 (by decide)) rfl rfl (Nat.le_of_ble_eq_true rfl) dc_R_init_34 (fun H1 locs e hB => ?_)
  rw [← e] at hz
  generalize H1 = H at hB hz ⊢
  have hB : cw_B D cA (fun q => b ≤ q) ((b, .inr (2, [.ref (b + 1), .ref (b + 4), .ref (b + 13), .null, .null])) :: (((([] : va_W) ++ ow_wl cg_E cA (aw (b + 1)) om_0) ++ ow_wl cg_H cA (aw (b + 4)) om_0) ++ ow_wl cg_K cA (aw (b + 13)) om_0)) s s.heap H locs := hB
  refine lv_aload_n hx hb dc_R_init_37 rfl (lv_at hl 0 rfl) ?_
  refine cw_new (ci := 6) (fs := [.null, .null]) hx hb hts iw_A yf_A of_A hown mw_166 mw_167 mw_10 hB hA hz rfl (by decide) (Nat.le_of_ble_eq_true rfl) (Nat.le_of_ble_eq_true rfl) dc_R_init_38 (fun H hz hB => ?_)
  refine lv_dup hx hb dc_R_init_41 rfl ?_
  refine cw_call (ws := (b, .inr (2, [.ref (b + 1), .ref (b + 4), .ref (b + 13), .null, .null])) :: (((([] : va_W) ++ ow_wl cg_E cA (aw (b + 1)) om_0) ++ ow_wl cg_H cA (aw (b + 4)) om_0) ++ ow_wl cg_K cA (aw (b + 13)) om_0)) (va_runIN (As := []) (rest := [.ref (b + 16), .ref b]) ⟨hx, hb, hml, hown, hts⟩ (cc_A_init l D cA (b + 16)) ⟨va_cnB 0 hts (cw_good mw_170) rfl rfl rfl (hN.1 _ (List.mem_of_getElem? (i := 6) rfl)) (hts _ mw_10) hd_A_init ⟨Nat.le_of_ble_eq_true rfl, Nat.le_of_ble_eq_true rfl⟩, rfl, hts _ mw_169⟩ (cw_pre hB hz hN) rfl rfl hl.1 rfl (lv_room (Nat.le_of_ble_eq_true rfl)) dc_R_init_42 ⟨Nat.le_of_ble_eq_true rfl, Nat.le_of_ble_eq_true rfl⟩) hB hz hA (by omega) (fun H locs hz hB => ?_)
  have hz : H.size = b + 26 := hz
  have hB : cw_B D cA (fun q => b ≤ q) ((b, .inr (2, [.ref (b + 1), .ref (b + 4), .ref (b + 13), .null, .null])) :: ((((([] : va_W) ++ ow_wl cg_E cA (aw (b + 1)) om_0) ++ ow_wl cg_H cA (aw (b + 4)) om_0) ++ ow_wl cg_K cA (aw (b + 13)) om_0) ++ ow_wl cg_A cA (aw (b + 16)) om_0)) s s.heap H locs := hB
  refine cw_putF hx hb hts iw_R yf_R of_R nf_R hown hB rfl 3 (by decide) mw_185 rfl hin rfl (of_R 3 (by decide)) rfl rfl (Nat.le_of_ble_eq_true rfl) dc_R_init_45 (fun H1 locs e hB => ?_)
  rw [← e] at hz
  generalize H1 = H at hB hz ⊢
  have hB : cw_B D cA (fun q => b ≤ q) ((b, .inr (2, [.ref (b + 1), .ref (b + 4), .ref (b + 13), .ref (b + 16), .null])) :: ((((([] : va_W) ++ ow_wl cg_E cA (aw (b + 1)) om_0) ++ ow_wl cg_H cA (aw (b + 4)) om_0) ++ ow_wl cg_K cA (aw (b + 13)) om_0) ++ ow_wl cg_A cA (aw (b + 16)) om_0)) s s.heap H locs := hB
  refine lv_aload_n hx hb dc_R_init_48 rfl (lv_at hl 0 rfl) ?_
  refine lv_bipush (v := 7) hx hb dc_R_init_49 rfl ?_
  refine cw_newaI (N := 7) hx hb hts hB hA hz (by decide) rfl (by decide) (Nat.le_of_ble_eq_true rfl) (Nat.le_of_ble_eq_true rfl) dc_R_init_51 (fun H hz hB => ?_)
  have hB : cw_B D cA (fun q => b ≤ q) ((b, .inr (2, [.ref (b + 1), .ref (b + 4), .ref (b + 13), .ref (b + 16), .null])) :: (((((([] : va_W) ++ ow_wl cg_E cA (aw (b + 1)) om_0) ++ ow_wl cg_H cA (aw (b + 4)) om_0) ++ ow_wl cg_K cA (aw (b + 13)) om_0) ++ ow_wl cg_A cA (aw (b + 16)) om_0) ++ ow_wl [(0, 7)] cA (aw (b + 26)) om_0)) s s.heap H locs := hB
  refine cw_putF hx hb hts iw_R yf_R of_R nf_R hown hB rfl 4 (by decide) mw_187 rfl hin rfl (of_R 4 (by decide)) rfl rfl (Nat.le_of_ble_eq_true rfl) dc_R_init_53 (fun H1 locs e hB => ?_)
  rw [← e] at hz
  generalize H1 = H at hB hz ⊢
  have hB : cw_B D cA (fun q => b ≤ q) ((b, .inr (2, [.ref (b + 1), .ref (b + 4), .ref (b + 13), .ref (b + 16), .ref (b + 26)])) :: (((((([] : va_W) ++ ow_wl cg_E cA (aw (b + 1)) om_0) ++ ow_wl cg_H cA (aw (b + 4)) om_0) ++ ow_wl cg_K cA (aw (b + 13)) om_0) ++ ow_wl cg_A cA (aw (b + 16)) om_0) ++ ow_wl [(0, 7)] cA (aw (b + 26)) om_0)) s s.heap H locs := hB
  refine cw_vret hx hb hr hlocks hB ?_ hz dc_R_init_56
  show _ = ow_wl ([(3, 2)] ++ cg_E ++ cg_H ++ cg_K ++ cg_A ++ [(0, 7)]) cA (aw b) om_0
  rw [cw_app, cw_app, cw_app, cw_app, cw_app]
  rfl
def cg_W : List (Nat × Nat) := [(3, 7)] ++ cg_R ++ cg_P ++ cg_S
abbrev rm_W_init : Room := { frames := 3, cells := 49, slots := 1449, locals := 60 }
theorem hd_W_init : yn_W_init.cls ≠ "java/lang/invoke/MethodHandle" ∧ yn_W_init.cls ≠ "java/lang/invoke/VarHandle" ∧ (parseMethodDescriptor yn_W_init.desc).map (fun d => d.parameters.length) = some 0 := by decide +kernel
set_option maxHeartbeats 4000000 in
set_option maxRecDepth 100000 in
theorem cc_W_init (l : Launch) (D : va_G) (cA : Nat → ClassId) (b : Nat) : Met l yn_W_init (ow_ws yn_W_init cb_W_init 1 none) rm_W_init (cw_Pc D cA b 7 [.null, .null, .null, .int 0]) (cw_Q D cA b cg_W om_0) 49 1449 (fun q => b ≤ q) := by
  refine Met.ofW (cc := cb_W_init) (maxL := 1) (ret := none) (by decide) rfl ?_
  intro p e s m args below meth c s₁ B hml hv
  obtain ⟨rfl, hz, hB, hN, hA⟩ := cw_entry hv
  have hx := B.exec
  have hb := B.bytes
  have hr := B.returns
  have hlocks := B.notSynchronized
  have hin : meth.name = "<init>" := (name_of_methodNamed B.named B.method).1
  have hts : ∀ w ∈ lw_g, w.before ([.ref b] : List Value).toArray s = true := fun w h => atoms_spec (ws := ow_ws yn_W_init cb_W_init 1 none) B.pre w (List.mem_cons_of_mem _ h)
  have hown : s.vm.findClass "BallotDesk$WhatIf" = some m.cls := findClass_of_methodNamed B.named
  clear B hv
  have hl := lv_entry ([.ref b]) (n := 1) (Nat.le_of_ble_eq_true rfl)
  rw [lg_entry_eq]
  generalize (lg_sl ([.ref b]) ++ List.replicate (1 - (lg_sl ([.ref b])).length) Slot.unset).toArray = ls at hl ⊢
  have hl : lv_has ls 1 [(0, .ref b)] := hl
  show W p l e rm_W_init s m _ below meth c s.heap [] 0 0 _ _
  obtain ⟨H, hH⟩ : ∃ H, H = s.heap := ⟨_, rfl⟩
  obtain ⟨locs, hlocs⟩ : ∃ locs : List Loc, locs = [] := ⟨_, rfl⟩
  have hz0 := hz
  suffices K : ∀ (H : Heap) (locs : List Loc), H.size = b + 1 → cw_B D cA (fun q => b ≤ q) [(b, .inr (7, [.null, .null, .null, .int 0]))] s s.heap H locs → W p l e rm_W_init s m ([.ref b] : List Value).toArray below meth c H locs 0 0 (MQ below (cw_Q D cA b cg_W om_0) ([.ref b] : List Value).toArray s 49 1449 (fun q => b ≤ q)) (F0 m 0 ls []) from K s.heap [] hz hB
  clear hB hz hH hlocs
  intro H locs hz hB
  refine lv_aload_n hx hb dc_W_init_0 rfl (lv_at hl 0 rfl) ?_
  refine W.objInit hx hb hown (hts _ mw_117) (hts _ mw_29) (hts _ mw_30) rfl (by rw [hml]; exact hl.1) rfl dc_W_init_1 (Nat.le_of_ble_eq_true rfl) (Nat.le_of_ble_eq_true rfl) ?_
  refine W.eq (g2 := F0 m 4 ls []) rfl ?_
  refine lv_aload_n hx hb dc_W_init_4 rfl (lv_at hl 0 rfl) ?_
  refine cw_new (ci := 2) (fs := [.null, .null, .null, .null, .null]) hx hb hts iw_R yf_R of_R hown mw_118 mw_119 mw_6 hB hA hz rfl (by decide) (Nat.le_of_ble_eq_true rfl) (Nat.le_of_ble_eq_true rfl) dc_W_init_5 (fun H hz hB => ?_)
  refine lv_dup hx hb dc_W_init_8 rfl ?_
  refine cw_call (ws := (b, .inr (7, [.null, .null, .null, .int 0])) :: ([] : va_W)) (va_runIN (As := []) (rest := [.ref (b + 1), .ref b]) ⟨hx, hb, hml, hown, hts⟩ (cc_R_init l D cA (b + 1)) ⟨va_cnB 0 hts (cw_good mw_122) rfl rfl rfl (hN.1 _ (List.mem_of_getElem? (i := 2) rfl)) (hts _ mw_6) hd_R_init ⟨Nat.le_of_ble_eq_true rfl, Nat.le_of_ble_eq_true rfl⟩, rfl, hts _ mw_121⟩ (cw_pre hB hz hN) rfl rfl hl.1 rfl (lv_room (Nat.le_of_ble_eq_true rfl)) dc_W_init_9 ⟨Nat.le_of_ble_eq_true rfl, Nat.le_of_ble_eq_true rfl⟩) hB hz hA (by omega) (fun H locs hz hB => ?_)
  have hz : H.size = b + 28 := hz
  have hB : cw_B D cA (fun q => b ≤ q) ((b, .inr (7, [.null, .null, .null, .int 0])) :: (([] : va_W) ++ ow_wl cg_R cA (aw (b + 1)) om_0)) s s.heap H locs := hB
  refine cw_putF hx hb hts iw_W yf_W of_W nf_W hown hB rfl 0 (by decide) mw_214 rfl hin rfl (of_W 0 (by decide)) rfl rfl (Nat.le_of_ble_eq_true rfl) dc_W_init_12 (fun H1 locs e hB => ?_)
  rw [← e] at hz
  generalize H1 = H at hB hz ⊢
  have hB : cw_B D cA (fun q => b ≤ q) ((b, .inr (7, [.ref (b + 1), .null, .null, .int 0])) :: (([] : va_W) ++ ow_wl cg_R cA (aw (b + 1)) om_0)) s s.heap H locs := hB
  refine lv_aload_n hx hb dc_W_init_15 rfl (lv_at hl 0 rfl) ?_
  refine cw_new (ci := 1) (fs := [.null, .null, .null, .null, .null, .int 0, .int 0, .int 0, .int 0]) hx hb hts iw_P yf_P of_P hown mw_199 mw_32 mw_2 hB hA hz rfl (by decide) (Nat.le_of_ble_eq_true rfl) (Nat.le_of_ble_eq_true rfl) dc_W_init_16 (fun H hz hB => ?_)
  refine lv_dup hx hb dc_W_init_19 rfl ?_
  refine cw_call (ws := (b, .inr (7, [.ref (b + 1), .null, .null, .int 0])) :: (([] : va_W) ++ ow_wl cg_R cA (aw (b + 1)) om_0)) (va_runIN (As := []) (rest := [.ref (b + 28), .ref b]) ⟨hx, hb, hml, hown, hts⟩ (cc_P_init l D cA (b + 28)) ⟨va_cnB 0 hts (cw_good mw_35) rfl rfl rfl (hN.1 _ (List.mem_of_getElem? (i := 7) rfl)) (hts _ mw_2) hd_P_init ⟨Nat.le_of_ble_eq_true rfl, Nat.le_of_ble_eq_true rfl⟩, rfl, hts _ mw_34⟩ (cw_pre hB hz hN) rfl rfl hl.1 rfl (lv_room (Nat.le_of_ble_eq_true rfl)) dc_W_init_20 ⟨Nat.le_of_ble_eq_true rfl, Nat.le_of_ble_eq_true rfl⟩) hB hz hA (by omega) (fun H locs hz hB => ?_)
  have hz : H.size = b + 48 := hz
  have hB : cw_B D cA (fun q => b ≤ q) ((b, .inr (7, [.ref (b + 1), .null, .null, .int 0])) :: ((([] : va_W) ++ ow_wl cg_R cA (aw (b + 1)) om_0) ++ ow_wl cg_P cA (aw (b + 28)) om_0)) s s.heap H locs := hB
  refine cw_putF hx hb hts iw_W yf_W of_W nf_W hown hB rfl 1 (by decide) mw_216 rfl hin rfl (of_W 1 (by decide)) rfl rfl (Nat.le_of_ble_eq_true rfl) dc_W_init_23 (fun H1 locs e hB => ?_)
  rw [← e] at hz
  generalize H1 = H at hB hz ⊢
  have hB : cw_B D cA (fun q => b ≤ q) ((b, .inr (7, [.ref (b + 1), .ref (b + 28), .null, .int 0])) :: ((([] : va_W) ++ ow_wl cg_R cA (aw (b + 1)) om_0) ++ ow_wl cg_P cA (aw (b + 28)) om_0)) s s.heap H locs := hB
  refine lv_aload_n hx hb dc_W_init_26 rfl (lv_at hl 0 rfl) ?_
  refine cw_new (ci := 8) (fs := [.null, .int 0]) hx hb hts iw_S yf_S of_S hown mw_201 mw_202 mw_11 hB hA hz rfl (by decide) (Nat.le_of_ble_eq_true rfl) (Nat.le_of_ble_eq_true rfl) dc_W_init_27 (fun H hz hB => ?_)
  refine lv_dup hx hb dc_W_init_30 rfl ?_
  refine cw_call (ws := (b, .inr (7, [.ref (b + 1), .ref (b + 28), .null, .int 0])) :: ((([] : va_W) ++ ow_wl cg_R cA (aw (b + 1)) om_0) ++ ow_wl cg_P cA (aw (b + 28)) om_0)) (va_runIN (As := []) (rest := [.ref (b + 48), .ref b]) ⟨hx, hb, hml, hown, hts⟩ (cc_S_init l D cA (b + 48)) ⟨va_cnB 0 hts (cw_good mw_205) rfl rfl rfl (hN.1 _ (List.mem_of_getElem? (i := 8) rfl)) (hts _ mw_11) hd_S_init ⟨Nat.le_of_ble_eq_true rfl, Nat.le_of_ble_eq_true rfl⟩, rfl, hts _ mw_204⟩ (cw_pre hB hz hN) rfl rfl hl.1 rfl (lv_room (Nat.le_of_ble_eq_true rfl)) dc_W_init_31 ⟨Nat.le_of_ble_eq_true rfl, Nat.le_of_ble_eq_true rfl⟩) hB hz hA (by omega) (fun H locs hz hB => ?_)
  have hz : H.size = b + 50 := hz
  have hB : cw_B D cA (fun q => b ≤ q) ((b, .inr (7, [.ref (b + 1), .ref (b + 28), .null, .int 0])) :: (((([] : va_W) ++ ow_wl cg_R cA (aw (b + 1)) om_0) ++ ow_wl cg_P cA (aw (b + 28)) om_0) ++ ow_wl cg_S cA (aw (b + 48)) om_0)) s s.heap H locs := hB
  refine cw_putF hx hb hts iw_W yf_W of_W nf_W hown hB rfl 2 (by decide) mw_217 rfl hin rfl (of_W 2 (by decide)) rfl rfl (Nat.le_of_ble_eq_true rfl) dc_W_init_34 (fun H1 locs e hB => ?_)
  rw [← e] at hz
  generalize H1 = H at hB hz ⊢
  have hB : cw_B D cA (fun q => b ≤ q) ((b, .inr (7, [.ref (b + 1), .ref (b + 28), .ref (b + 48), .int 0])) :: (((([] : va_W) ++ ow_wl cg_R cA (aw (b + 1)) om_0) ++ ow_wl cg_P cA (aw (b + 28)) om_0) ++ ow_wl cg_S cA (aw (b + 48)) om_0)) s s.heap H locs := hB
  refine cw_vret hx hb hr hlocks hB ?_ hz dc_W_init_37
  show _ = ow_wl ([(3, 7)] ++ cg_R ++ cg_P ++ cg_S) cA (aw b) om_0
  rw [cw_app, cw_app, cw_app]
  rfl
