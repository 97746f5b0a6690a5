theorem lay_P : ow_lay cg_P := ⟨(fun o h => (by decide +kernel : ∀ o, o < 20 → ow_kd cg_P o = (3, 0) → ow_kd cg_P (o + 1) = (3, 1)) o (ow_lt h (by decide)) h), (fun o h => (by decide +kernel : ∀ o, o < 20 → ow_kd cg_P o = (3, 0) → ow_kd cg_P (o + 22) = (3, 2)) o (ow_lt h (by decide)) h), (fun o h => (by decide +kernel : ∀ o, o < 20 → ow_kd cg_P o = (3, 0) → ow_kd cg_P (o + 21) = (3, 7)) o (ow_lt h (by decide)) h), (fun o h => (by decide +kernel : ∀ o, o < 20 → ow_kd cg_P o = (3, 1) → ow_kd cg_P (o + 1) = (0, 21)) o (ow_lt h (by decide)) h), (fun o h => (by decide +kernel : ∀ o, o < 20 → ow_kd cg_P o = (3, 1) → ow_kd cg_P (o + 2) = (0, 21)) o (ow_lt h (by decide)) h), (fun o h => (by decide +kernel : ∀ o, o < 20 → ow_kd cg_P o = (3, 1) → ow_kd cg_P (o + 3) = (0, 7)) o (ow_lt h (by decide)) h), (fun o h => (by decide +kernel : ∀ o, o < 20 → ow_kd cg_P o = (3, 1) → ow_kd cg_P (o + 4) = (2, 7)) o (ow_lt h (by decide)) h), (fun o h => (by decide +kernel : ∀ o, o < 20 → ow_kd cg_P o = (3, 1) → ow_kd cg_P (o + 12) = (2, 7)) o (ow_lt h (by decide)) h), (fun o h => (by decide +kernel : ∀ o, o < 20 → ow_kd cg_P o = (3, 2) → ow_kd cg_P (o + 1) = (3, 3)) o (ow_lt h (by decide)) h), (fun o h => (by decide +kernel : ∀ o, o < 20 → ow_kd cg_P o = (3, 2) → ow_kd cg_P (o + 4) = (3, 4)) o (ow_lt h (by decide)) h), (fun o h => (by decide +kernel : ∀ o, o < 20 → ow_kd cg_P o = (3, 2) → ow_kd cg_P (o + 13) = (3, 5)) o (ow_lt h (by decide)) h), (fun o h => (by decide +kernel : ∀ o, o < 20 → ow_kd cg_P o = (3, 2) → ow_kd cg_P (o + 16) = (3, 6)) o (ow_lt h (by decide)) h), (fun o h => (by decide +kernel : ∀ o, o < 20 → ow_kd cg_P o = (3, 2) → ow_kd cg_P (o + 26) = (0, 7)) o (ow_lt h (by decide)) h), (fun o h => (by decide +kernel : ∀ o, o < 20 → ow_kd cg_P o = (3, 3) → ow_kd cg_P (o + 1) = (1, 128)) o (ow_lt h (by decide)) h), (fun o h => (by decide +kernel : ∀ o, o < 20 → ow_kd cg_P o = (3, 3) → ow_kd cg_P (o + 2) = (0, 7)) o (ow_lt h (by decide)) h), (fun o h => (by decide +kernel : ∀ o, o < 20 → ow_kd cg_P o = (3, 4) → ow_kd cg_P (o + 1) = (2, 7)) o (ow_lt h (by decide)) h), (fun o h => (by decide +kernel : ∀ o, o < 20 → ow_kd cg_P o = (3, 5) → ow_kd cg_P (o + 1) = (0, 21)) o (ow_lt h (by decide)) h), (fun o h => (by decide +kernel : ∀ o, o < 20 → ow_kd cg_P o = (3, 5) → ow_kd cg_P (o + 2) = (0, 7)) o (ow_lt h (by decide)) h), (fun o h => (by decide +kernel : ∀ o, o < 20 → ow_kd cg_P o = (3, 6) → ow_kd cg_P (o + 1) = (0, 128)) o (ow_lt h (by decide)) h), (fun o h => (by decide +kernel : ∀ o, o < 20 → ow_kd cg_P o = (3, 6) → ow_kd cg_P (o + 2) = (5, 7)) o (ow_lt h (by decide)) h), (fun o h => (by decide +kernel : ∀ o, o < 20 → ow_kd cg_P o = (3, 7) → ow_kd cg_P (o + 1) = (3, 2)) o (ow_lt h (by decide)) h), (fun o h => (by decide +kernel : ∀ o, o < 20 → ow_kd cg_P o = (3, 7) → ow_kd cg_P (o + 28) = (3, 1)) o (ow_lt h (by decide)) h), (fun o h => (by decide +kernel : ∀ o, o < 20 → ow_kd cg_P o = (3, 7) → ow_kd cg_P (o + 48) = (3, 8)) o (ow_lt h (by decide)) h), (fun o h => (by decide +kernel : ∀ o, o < 20 → ow_kd cg_P o = (3, 8) → ow_kd cg_P (o + 1) = (0, 7)) o (ow_lt h (by decide)) h), (fun o h => (by decide +kernel : ∀ o, o < 20 → ow_kd cg_P o = (3, 9) → ow_kd cg_P (o + 1) = (0, 140)) o (ow_lt h (by decide)) h), (fun o h => (by decide +kernel : ∀ o, o < 20 → ow_kd cg_P o = (3, 9) → ow_kd cg_P (o + 2) = (0, 20)) o (ow_lt h (by decide)) h), (fun o h => (by decide +kernel : ∀ o, o < 20 → ow_kd cg_P o = (3, 9) → ow_kd cg_P (o + 3) = (0, 7)) o (ow_lt h (by decide)) h), (fun o h => (by decide +kernel : ∀ o, o < 20 → ow_kd cg_P o = (3, 9) → ow_kd cg_P (o + 4) = (0, 7)) o (ow_lt h (by decide)) h), (fun o h => (by decide +kernel : ∀ o, o < 20 → ow_kd cg_P o = (3, 9) → ow_kd cg_P (o + 5) = (0, 7)) o (ow_lt h (by decide)) h), (fun o h => (by decide +kernel : ∀ o, o < 20 → ow_kd cg_P o = (3, 9) → ow_kd cg_P (o + 6) = (0, 154)) o (ow_lt h (by decide)) h), (fun o h => (by decide +kernel : ∀ o, o < 20 → ow_kd cg_P o = (3, 9) → ow_kd cg_P (o + 7) = (0, 22)) o (ow_lt h (by decide)) h), (fun o h => (by decide +kernel : ∀ o, o < 20 → ow_kd cg_P o = (3, 9) → ow_kd cg_P (o + 8) = (0, 7)) o (ow_lt h (by decide)) h), (fun o h => (by decide +kernel : ∀ o, o < 20 → ow_kd cg_P o = (3, 9) → ow_kd cg_P (o + 9) = (0, 7)) o (ow_lt h (by decide)) h), (fun o h => (by decide +kernel : ∀ o, o < 20 → ow_kd cg_P o = (3, 9) → ow_kd cg_P (o + 10) = (0, 7)) o (ow_lt h (by decide)) h), (fun o h => (by decide +kernel : ∀ o, o < 20 → ow_kd cg_P o = (3, 9) → ow_kd cg_P (o + 11) = (0, 49)) o (ow_lt h (by decide)) h), (fun o h => (by decide +kernel : ∀ o, o < 20 → ow_kd cg_P o = (3, 9) → ow_kd cg_P (o + 12) = (0, 49)) o (ow_lt h (by decide)) h), (fun o h => (by decide +kernel : ∀ o, o < 20 → ow_kd cg_P o = (3, 9) → ow_kd cg_P (o + 13) = (1, 49)) o (ow_lt h (by decide)) h), (fun o h => (by decide +kernel : ∀ o, o < 20 → ow_kd cg_P o = (3, 9) → ow_kd cg_P (o + 14) = (1, 128)) o (ow_lt h (by decide)) h), (fun o h => (by decide +kernel : ∀ o, o < 20 → ow_kd cg_P o = (3, 9) → ow_kd cg_P (o + 15) = (4, 128)) o (ow_lt h (by decide)) h), (fun o h => (by decide +kernel : ∀ o, o < 20 → ow_kd cg_P o = (3, 9) → ow_kd cg_P (o + 16) = (0, 7)) o (ow_lt h (by decide)) h), (fun o h => (by decide +kernel : ∀ o, o < 20 → ow_kd cg_P o = (3, 9) → ow_kd cg_P (o + 17) = (0, 7)) o (ow_lt h (by decide)) h), (fun o h j hj => (by decide +kernel : ∀ o, o < 20 → ow_kd cg_P o = (2, 7) → ∀ j, j < 7 → ow_kd cg_P (o + 1 + j) = (0, 7)) o (ow_lt h (by decide)) h j hj), (fun o h j hj => (by decide +kernel : ∀ o, o < 20 → ow_kd cg_P o = (5, 7) → ∀ j, j < 7 → ow_kd cg_P (o + 1 + j) = (0, 128)) o (ow_lt h (by decide)) h j hj)⟩
def cg_D : List (Nat × Nat) := [(3, 0)] ++ cg_P ++ cg_W
def om_Di : om_M := (fun _ j => if j = 3 then -1 else if j = 4 then -1 else 0, fun _ _ => 0)
abbrev rm_D_init : Room := { frames := 4, cells := 70, slots := 1623, locals := 80 }
theorem hd_D_init : yn_D_init.cls ≠ "java/lang/invoke/MethodHandle" ∧ yn_D_init.cls ≠ "java/lang/invoke/VarHandle" ∧ (parseMethodDescriptor yn_D_init.desc).map (fun d => d.parameters.length) = some 0 := by decide +kernel
set_option maxHeartbeats 8000000 in
set_option maxRecDepth 100000 in
theorem cc_D_init (l : Launch) (D : va_G) (cA : Nat → ClassId) (b F : Nat) (Q : om_M → Prop) (h : wp_P_open F 0 4 om_0 (fun M1 => Q (om_j 21 (om_j 1 om_Di M1) om_0))) : Met l yn_D_init (ow_ws yn_D_init cb_D_init 1 none) rm_D_init (cw_Pc D cA b 0 [.null, .null, .null, .int 0, .int 0]) (cw_QQ D cA b cg_D Q) 70 1623 (fun q => b ≤ q) := by
  refine Met.ofW (cc := cb_D_init) (maxL := 1) (ret := none) (by decide) rfl ?_
  intro p e s m args below meth c s₁ B hml hv
  obtain ⟨rfl, hz, hB, hN, hA⟩ := cw_entry hv
  have hx := B.exec
  have hb := B.bytes
  have hr := B.returns
  have hlocks := B.notSynchronized
  have hin : meth.name = "<init>" := (name_of_methodNamed B.named B.method).1
  have hts : ∀ w ∈ lw_g, w.before ([.ref b] : List Value).toArray s = true := fun w h => atoms_spec (ws := ow_ws yn_D_init cb_D_init 1 none) B.pre w (List.mem_cons_of_mem _ h)
  have hown : s.vm.findClass "BallotDesk" = some m.cls := findClass_of_methodNamed B.named
  clear B hv
  have hl := lv_entry ([.ref b]) (n := 1) (Nat.le_of_ble_eq_true rfl)
  rw [lg_entry_eq]
  generalize (lg_sl ([.ref b]) ++ List.replicate (1 - (lg_sl ([.ref b])).length) Slot.unset).toArray = ls at hl ⊢
  have hl : lv_has ls 1 [(0, .ref b)] := hl
  show W p l e rm_D_init s m _ below meth c s.heap [] 0 0 _ _
  have hz0 := hz
  suffices K : ∀ (H : Heap) (locs : List Loc), H.size = b + 1 → cw_B D cA (fun q => b ≤ q) ([(b, .inr (0, [.null, .null, .null, .int 0, .int 0]))]) s s.heap H locs → W p l e rm_D_init s m ([.ref b] : List Value).toArray below meth c H locs 0 0 (MQ below (cw_QQ D cA b cg_D Q) ([.ref b] : List Value).toArray s 70 1623 (fun q => b ≤ q)) (F0 m 0 ls []) from K s.heap [] hz hB
  clear hB hz
  intro H locs hz hB
  refine lv_aload_n hx hb dc_D_init_0 rfl (lv_at hl 0 rfl) ?_
  refine W.objInit hx hb hown (hts _ mw_28) (hts _ mw_29) (hts _ mw_30) rfl (by rw [hml]; exact hl.1) rfl dc_D_init_1 (Nat.le_of_ble_eq_true rfl) (Nat.le_of_ble_eq_true rfl) ?_
  refine W.eq (g2 := F0 m 4 ls []) rfl ?_
  refine lv_aload_n hx hb dc_D_init_4 rfl (lv_at hl 0 rfl) ?_
  refine cw_new (ci := 1) (fs := [.null, .null, .null, .null, .null, .int 0, .int 0, .int 0, .int 0]) hx hb hts iw_P yf_P of_P hown mw_31 mw_32 mw_2 hB hA hz rfl (by decide) (Nat.le_of_ble_eq_true rfl) (Nat.le_of_ble_eq_true rfl) dc_D_init_5 (fun H hz hB => ?_)
  refine lv_dup hx hb dc_D_init_8 rfl ?_
  refine cw_call (ws := (b, .inr (0, [.null, .null, .null, .int 0, .int 0])) :: ([] : va_W)) (va_runIN (As := []) (rest := [.ref (b + 1), .ref b]) ⟨hx, hb, hml, hown, hts⟩ (cc_P_init l D cA (b + 1)) ⟨va_cnB 0 hts (cw_good mw_35) rfl rfl rfl (hN.1 _ (List.mem_of_getElem? (i := 0) rfl)) (hts _ mw_2) hd_P_init ⟨Nat.le_of_ble_eq_true rfl, Nat.le_of_ble_eq_true rfl⟩, rfl, hts _ mw_34⟩ (cw_pre hB hz hN) rfl rfl hl.1 rfl (lv_room (Nat.le_of_ble_eq_true rfl)) dc_D_init_9 ⟨Nat.le_of_ble_eq_true rfl, Nat.le_of_ble_eq_true rfl⟩) hB hz hA (by omega) (fun H locs hz hB => ?_)
  have hz : H.size = b + 21 := hz
  have hB : cw_B D cA (fun q => b ≤ q) ((b, .inr (0, [.null, .null, .null, .int 0, .int 0])) :: (([] : va_W) ++ ow_wl cg_P cA (aw (b + 1)) om_0)) s s.heap H locs := hB
  refine cw_putF hx hb hts iw_D yf_D of_D nf_D hown hB rfl 0 (by decide) mw_229 rfl hin rfl (of_D 0 (by decide)) rfl rfl (Nat.le_of_ble_eq_true rfl) dc_D_init_12 (fun H1 locs e hB => ?_)
  rw [← e] at hz
  generalize H1 = H at hB hz ⊢
  have hB : cw_B D cA (fun q => b ≤ q) ((b, .inr (0, [.ref (b + 1), .null, .null, .int 0, .int 0])) :: (([] : va_W) ++ ow_wl cg_P cA (aw (b + 1)) om_0)) s s.heap H locs := hB
  refine lv_aload_n hx hb dc_D_init_15 rfl (lv_at hl 0 rfl) ?_
  refine cw_get hx hb hts iw_D hown hB rfl 0 (by decide) mw_229 rfl dc_D_init_16 ?_
  refine lv_iconst (v := 4) hx hb dc_D_init_19 rfl ?_
  have hB : cw_B D cA (fun q => b ≤ q) ([(b, .inr (0, [.ref (b + 1), .null, .null, .int 0, .int 0]))] ++ ow_wl cg_P cA (aw (b + 1)) om_0) s s.heap H locs := hB
  have hO := cw_sub (ws := [(b, .inr (0, [.ref (b + 1), .null, .null, .int 0, .int 0]))]) (G := cg_P) (h := b + 1) (M := om_0) hB
  have hC := ct_P_open l cg_P lay_P D cA (aw (b + 1)) F 0 rfl 4 om_0 _ h
  have hz : H.size = b + 1 + cg_P.length := hz
  refine cw_callO (ws := [(b, .inr (0, [.ref (b + 1), .null, .null, .int 0, .int 0]))]) (G := cg_P) (h := b + 1) (M := om_0) (va_runV (As := [.int 4]) (rest := []) ⟨hx, hb, hml, hown, hts⟩ hC ⟨ow_cb 1 hts mw_101 mw_2 mw_98 rfl rfl hd_P_open ⟨Nat.le_of_ble_eq_true rfl, Nat.le_of_ble_eq_true rfl⟩, hts _ mw_99, hts _ mw_100⟩ (ow_preV hO rfl rfl) rfl rfl hl.1 rfl (lv_room (Nat.le_of_ble_eq_true rfl)) dc_D_init_20 ⟨Nat.le_of_ble_eq_true rfl, Nat.le_of_ble_eq_true rfl⟩) hB (fun k x hx => by cases k with | zero => cases hx; exact Nat.lt_succ_self b | succ k => cases hx) hz (fun M1 H1 locs h hs hB => ?_)
  refine cw_sz (fun hsz => ?_)
  have hz : H1.size = b + 21 := cw_z (L := 21) hz0 hz hs hsz rfl
  generalize H1 = H at hB hz ⊢
  have hB : cw_B D cA (fun q => b ≤ q) ((b, .inr (0, [.ref (b + 1), .null, .null, .int 0, .int 0])) :: (([] : va_W) ++ ow_wl cg_P cA (aw (b + 1)) M1)) s s.heap H locs := hB
  refine lv_aload_n hx hb dc_D_init_23 rfl (lv_at hl 0 rfl) ?_
  refine cw_new (ci := 7) (fs := [.null, .null, .null, .int 0]) hx hb hts iw_W yf_W of_W hown mw_112 mw_113 mw_5 hB hA hz rfl (by decide) (Nat.le_of_ble_eq_true rfl) (Nat.le_of_ble_eq_true rfl) dc_D_init_24 (fun H hz hB => ?_)
  refine lv_dup hx hb dc_D_init_27 rfl ?_
  refine cw_call (ws := (b, .inr (0, [.ref (b + 1), .null, .null, .int 0, .int 0])) :: (([] : va_W) ++ ow_wl cg_P cA (aw (b + 1)) M1)) (va_runIN (As := []) (rest := [.ref (b + 21), .ref b]) ⟨hx, hb, hml, hown, hts⟩ (cc_W_init l D cA (b + 21)) ⟨va_cnB 0 hts (cw_good mw_116) rfl rfl rfl (hN.1 _ (List.mem_of_getElem? (i := 1) rfl)) (hts _ mw_5) hd_W_init ⟨Nat.le_of_ble_eq_true rfl, Nat.le_of_ble_eq_true rfl⟩, rfl, hts _ mw_115⟩ (cw_pre hB hz hN) rfl rfl hl.1 rfl (lv_room (Nat.le_of_ble_eq_true rfl)) dc_D_init_28 ⟨Nat.le_of_ble_eq_true rfl, Nat.le_of_ble_eq_true rfl⟩) hB hz hA (by omega) (fun H locs hz hB => ?_)
  have hz : H.size = b + 71 := hz
  have hB : cw_B D cA (fun q => b ≤ q) ((b, .inr (0, [.ref (b + 1), .null, .null, .int 0, .int 0])) :: ((([] : va_W) ++ ow_wl cg_P cA (aw (b + 1)) M1) ++ ow_wl cg_W cA (aw (b + 21)) om_0)) s s.heap H locs := hB
  refine cw_putF hx hb hts iw_D yf_D of_D nf_D hown hB rfl 2 (by decide) mw_231 rfl hin rfl (of_D 2 (by decide)) rfl rfl (Nat.le_of_ble_eq_true rfl) dc_D_init_31 (fun H1 locs e hB => ?_)
  rw [← e] at hz
  generalize H1 = H at hB hz ⊢
  have hB : cw_B D cA (fun q => b ≤ q) ((b, .inr (0, [.ref (b + 1), .null, .ref (b + 21), .int 0, .int 0])) :: ((([] : va_W) ++ ow_wl cg_P cA (aw (b + 1)) M1) ++ ow_wl cg_W cA (aw (b + 21)) om_0)) s s.heap H locs := hB
  refine lv_aload_n hx hb dc_D_init_34 rfl (lv_at hl 0 rfl) ?_
  refine lv_aload_n hx hb dc_D_init_35 rfl (lv_at hl 0 rfl) ?_
  refine cw_get hx hb hts iw_D hown hB rfl 2 (by decide) mw_231 rfl dc_D_init_36 ?_
  have hO : ow_B cg_W D cA (aw (b + 21)) (fun q => b ≤ q) om_0 s s.heap H locs := cw_sub (ws := (b, .inr (0, [.ref (b + 1), .null, .ref (b + 21), .int 0, .int 0])) :: (([] : va_W) ++ ow_wl cg_P cA (aw (b + 1)) M1)) hB
  refine ow_get (o := 0) hx hb hts iw_W hown hO rfl rfl 0 (by decide) mw_215 rfl dc_D_init_39 ?_
  refine cw_putF hx hb hts iw_D yf_D of_D nf_D hown hB rfl 1 (by decide) mw_230 rfl hin rfl (of_D 1 (by decide)) rfl rfl (Nat.le_of_ble_eq_true rfl) dc_D_init_42 (fun H1 locs e hB => ?_)
  rw [← e] at hz
  generalize H1 = H at hB hz ⊢
  have hB : cw_B D cA (fun q => b ≤ q) ((b, .inr (0, [.ref (b + 1), .ref (b + 22), .ref (b + 21), .int 0, .int 0])) :: ((([] : va_W) ++ ow_wl cg_P cA (aw (b + 1)) M1) ++ ow_wl cg_W cA (aw (b + 21)) om_0)) s s.heap H locs := hB
  refine lv_aload_n hx hb dc_D_init_45 rfl (lv_at hl 0 rfl) ?_
  refine lv_iconst (v := (-1)) hx hb dc_D_init_46 rfl ?_
  refine cw_putIz hx hb hts iw_D yf_D of_D nf_D hown hB rfl 3 (by decide) mw_232 rfl (of_D 3 (by decide)) (Nat.le_of_ble_eq_true rfl) dc_D_init_47 (fun H1 locs e hB => ?_)
  rw [← e] at hz
  generalize H1 = H at hB hz ⊢
  have hB : cw_B D cA (fun q => b ≤ q) ((b, .inr (0, [.ref (b + 1), .ref (b + 22), .ref (b + 21), .int (-1), .int 0])) :: ((([] : va_W) ++ ow_wl cg_P cA (aw (b + 1)) M1) ++ ow_wl cg_W cA (aw (b + 21)) om_0)) s s.heap H locs := hB
  refine lv_aload_n hx hb dc_D_init_50 rfl (lv_at hl 0 rfl) ?_
  refine lv_iconst (v := (-1)) hx hb dc_D_init_51 rfl ?_
  refine cw_putIz hx hb hts iw_D yf_D of_D nf_D hown hB rfl 4 (by decide) mw_233 rfl (of_D 4 (by decide)) (Nat.le_of_ble_eq_true rfl) dc_D_init_52 (fun H1 locs e hB => ?_)
  rw [← e] at hz
  generalize H1 = H at hB hz ⊢
  have hB : cw_B D cA (fun q => b ≤ q) ((b, .inr (0, [.ref (b + 1), .ref (b + 22), .ref (b + 21), .int (-1), .int (-1)])) :: ((([] : va_W) ++ ow_wl cg_P cA (aw (b + 1)) M1) ++ ow_wl cg_W cA (aw (b + 21)) om_0)) s s.heap H locs := hB
  refine cw_vretQ (G := cg_D) (M := om_j 21 (om_j 1 om_Di M1) om_0) hx hb hr hlocks hB ?_ hz h dc_D_init_55
  show _ = ow_wl ([(3, 0)] ++ cg_P ++ cg_W) cA (aw b) (om_j ([(3, 0)] ++ cg_P).length (om_j [(3, 0)].length om_Di M1) om_0)
  rw [cw_appM, cw_appM]
  rfl
