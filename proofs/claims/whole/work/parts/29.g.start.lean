set_option maxHeartbeats 8000000 in
set_option maxRecDepth 100000 in
/-- what the pure part must give: the world as made keeps I, and I is kept by each call -/
theorem lw_start {p : Program} {e : Env} {s : State} {m : MethodId} {below : List Frame} {meth : Method} {c : Code} (l : Launch) (hfl : l.flags = Jvm.pinnedFlags ++ [Jvm.noTraceFlag]) {b0 L : Nat} {xs : Nat → Int32} (hL : L ≤ 2048) (C0 : lw_At p s m meth c b0 L xs) {F : Nat} {I : om_M → Prop} (h : wp_P_open F 0 4 om_0 (fun M1 => wp_M_reset F 0 om_Mi (fun M2 => I (om_j 89 (om_j 71 (om_j 21 (om_j 1 om_Di M1) om_0) M2) om_0)))) (hI : lw_inv F 0 71 89 I) : W p l e room_1 s m #[Value.ref b0] below meth c s.heap [] 0 0 (lw_Z below #[Value.ref b0] s) (entryFrame m ([Value.ref b0] : List Value).toArray 8) := by
  obtain ⟨hx, hb, hr, hml, hown, hts0, hX, hbl, hlocks, hgv⟩ := C0
  have hts := lw_hg hts0
  obtain ⟨D, cA, hK⟩ := lw_K0 hts0
  have hZ := lw_Z0 hts0 hgv
  have hN := lw_N0 hgv
  have hC := lw_C0 hts0
  have hA : ∀ q, s.heap.size ≤ q → (fun q => s.heap.size ≤ q) q := fun q h => h
  have hB : cw_B D cA (fun q => s.heap.size ≤ q) ([] : va_W) s s.heap s.heap [] := ⟨(fun k q h => (by cases h)), ⟨(fun i j x y h => (by cases h)), (fun k q h => (by cases h))⟩, hK, va_S.rf⟩
  have hl := lv_entry ([.ref b0]) (n := 8) (Nat.le_of_ble_eq_true rfl)
  rw [lg_entry_eq]
  generalize (lg_sl ([.ref b0]) ++ List.replicate (8 - (lg_sl ([.ref b0])).length) Slot.unset).toArray = ls at hl ⊢
  have hl : lv_has ls 8 [(0, .ref b0)] := hl
  obtain ⟨b, hb0⟩ : ∃ b, s.heap.size = b := ⟨_, rfl⟩
  refine cw_new (ci := 0) (fs := [.null, .null, .null, .int 0, .int 0]) hx hb hts iw_D yf_D of_D hown mw_23 mw_24 mw_1 hB hA hb0 rfl (by decide) (Nat.le_of_ble_eq_true rfl) (Nat.le_of_ble_eq_true rfl) dc_L_law_0 (fun H hz hB => ?_)
  refine lv_dup hx hb dc_L_law_3 rfl ?_
  refine cw_callQ (ws := []) (va_runI (As := []) (rest := [.ref b]) ⟨hx, hb, hml, hown, hts⟩ (cc_D_init l D cA b F (fun MD => wp_M_reset F 0 om_Mi (fun M2 => I (om_j 89 (om_j 71 MD M2) om_0))) h) ⟨ow_cb 0 hts mw_27 mw_1 mw_25 rfl rfl hd_D_init ⟨Nat.le_of_ble_eq_true rfl, Nat.le_of_ble_eq_true rfl⟩, rfl, hts _ mw_26⟩ (cw_pre hB hz hC) rfl rfl hl.1 rfl (lv_room (Nat.le_of_ble_eq_true rfl)) dc_L_law_4 ⟨Nat.le_of_ble_eq_true rfl, Nat.le_of_ble_eq_true rfl⟩) hB hz hA (Nat.le_of_eq hb0) (fun MD H locs h hz hB => ?_)
  have hz : H.size = b + 71 := hz
  refine lv_astore_n hx hb dc_L_law_7 rfl hl (by decide) rfl (fun ls hl => ?_)
  generalize e1 : ([] : va_W) ++ ow_wl cg_D cA (aw b) MD = w1 at hB
  refine cw_new (ci := 9) (fs := [.int 0, .int 0, .int 0, .null, .null, .null, .null, .null, .int 0, .int 0, .null, .null, .null, .null, .null, .null, .null, .null, .null, .null, .null, .null, .int 0, .int 0]) hx hb hts iw_M yf_M of_M hown mw_787 mw_788 mw_12 hB hA hz rfl (by decide) (Nat.le_of_ble_eq_true rfl) (Nat.le_of_ble_eq_true rfl) dc_L_law_8 (fun H hz hB => ?_)
  refine lv_dup hx hb dc_L_law_11 rfl ?_
  refine cw_callQ (ws := w1) (va_runI (As := []) (rest := [.ref (b + 71)]) ⟨hx, hb, hml, hown, hts⟩ (cc_M_init l D cA (b + 71) F (fun M2 => I (om_j 89 (om_j 71 MD M2) om_0)) h) ⟨ow_cb 0 hts mw_791 mw_12 mw_789 rfl rfl hd_M_init ⟨Nat.le_of_ble_eq_true rfl, Nat.le_of_ble_eq_true rfl⟩, rfl, hts _ mw_790⟩ (cw_pre hB hz hC) rfl rfl hl.1 rfl (lv_room (Nat.le_of_ble_eq_true rfl)) dc_L_law_12 ⟨Nat.le_of_ble_eq_true rfl, Nat.le_of_ble_eq_true rfl⟩) hB hz hA (by rw [hb0]; exact Nat.le_add_right _ _) (fun MM H locs h hz hB => ?_)
  have hz : H.size = b + 89 := hz
  refine lv_astore_n hx hb dc_L_law_15 rfl hl (by decide) rfl (fun ls hl => ?_)
  refine lv_iconst (v := 1) hx hb dc_L_law_16 rfl ?_
  refine cw_newaJ (N := 1) hx hb hts hB hA hz (by decide) rfl (by decide) (Nat.le_of_ble_eq_true rfl) (Nat.le_of_ble_eq_true rfl) dc_L_law_17 (fun H hz hB => ?_)
  refine lv_astore_n hx hb dc_L_law_19 rfl hl (by decide) rfl (fun ls hl => ?_)
  refine lv_iconst (v := 0) hx hb dc_L_law_20 rfl ?_
  refine lv_istore hx hb dc_L_law_21 hl (by decide) rfl (fun ls hl => ?_)
  rw [← e1, cw_joinL] at hB
  have hO := cw_sub (ws := []) (G := cg_L) (h := b) (M := om_j 89 (om_j 71 MD MM) om_0) hB
  refine W.widen (k := 90 + 2 * 0) (n := 2448 + 12 * 0) (by decide) (by decide) ?_
  have hl := lv_sub hl [4, 3, 2, 1, 0] rfl
  exact lw_loop hfl hx hb hml hown hts lay_L hL hX hbl (fun q => absurd hbl (Nat.not_lt.mpr q)) hZ hN kd_L0 kd_L71 kd_L89 hI (c0 := 90) (s0 := 2448) (by decide) (by decide) (fun M H locs ls _ hB => va_forget (fun q hq => hB.2.2.2.2.2 q hq) (lv_iconst (v := 1) hx hb dc_L_law_1345 rfl (lw_ret hx hb hr hlocks dc_L_law_1346))) 512 0 (by omega) (by decide) _ H locs ls h hO hl
