def wl_0 (F o1 o2 o3 : Nat) (a1 a2 a3 : Int32) (M : om_M) (Q : om_M → Prop) : Prop := wp_L_candidates F o1 a1 o3 1 M (fun r2 M1 => wp_M_candidates F o2 a1 M1 (fun r4 M3 => wp_M_thrown F o2 M3 (fun r6 M5 => ((r6 = r2 → ((r2 = 0 → vp_in 0 1 ∧ (((M5.2 o3 (0 : Int32).toNatClampNeg) = ((r4 : Int32).toInt64) → Q M5) ∧ (¬ (M5.2 o3 (0 : Int32).toNatClampNeg) = ((r4 : Int32).toInt64) → False))) ∧ (¬ r2 = 0 → Q M5))) ∧ (¬ r6 = r2 → False)))))
def wl_1 (F o1 o2 o3 : Nat) (a1 a2 a3 : Int32) (M : om_M) (Q : om_M → Prop) : Prop := wp_L_ballot F o1 a1 a2 o3 1 M (fun r2 M1 => wp_M_ballot F o2 a1 a2 M1 (fun r4 M3 => wp_M_thrown F o2 M3 (fun r6 M5 => ((r6 = r2 → ((r2 = 0 → vp_in 0 1 ∧ (((M5.2 o3 (0 : Int32).toNatClampNeg) = ((r4 : Int32).toInt64) → Q M5) ∧ (¬ (M5.2 o3 (0 : Int32).toNatClampNeg) = ((r4 : Int32).toInt64) → False))) ∧ (¬ r2 = 0 → Q M5))) ∧ (¬ r6 = r2 → False)))))
def wl_2 (F o1 o2 o3 : Nat) (a1 a2 a3 : Int32) (M : om_M) (Q : om_M → Prop) : Prop := wp_L_amount F o1 a1 a2 o3 1 M (fun r2 M1 => wp_M_amount F o2 a1 a2 M1 (fun r4 M3 => wp_M_thrown F o2 M3 (fun r6 M5 => ((r6 = r2 → ((r2 = 0 → vp_in 0 1 ∧ (((M5.2 o3 (0 : Int32).toNatClampNeg) = ((r4 : Int32).toInt64) → Q M5) ∧ (¬ (M5.2 o3 (0 : Int32).toNatClampNeg) = ((r4 : Int32).toInt64) → False))) ∧ (¬ r2 = 0 → Q M5))) ∧ (¬ r6 = r2 → False)))))
def wl_3 (F o1 o2 o3 : Nat) (a1 a2 a3 : Int32) (M : om_M) (Q : om_M → Prop) : Prop := wp_L_drop F o1 a1 o3 1 M (fun r2 M1 => wp_M_drop F o2 a1 M1 (fun r4 M3 => wp_M_thrown F o2 M3 (fun r6 M5 => ((r6 = r2 → ((r2 = 0 → vp_in 0 1 ∧ (((M5.2 o3 (0 : Int32).toNatClampNeg) = ((r4 : Int32).toInt64) → Q M5) ∧ (¬ (M5.2 o3 (0 : Int32).toNatClampNeg) = ((r4 : Int32).toInt64) → False))) ∧ (¬ r2 = 0 → Q M5))) ∧ (¬ r6 = r2 → False)))))
def wl_4 (F o1 o2 o3 : Nat) (a1 a2 a3 : Int32) (M : om_M) (Q : om_M → Prop) : Prop := wp_L_tieOrder F o1 a1 o3 1 M (fun r2 M1 => wp_M_tieOrder F o2 a1 M1 (fun r4 M3 => wp_M_thrown F o2 M3 (fun r6 M5 => ((r6 = r2 → ((r2 = 0 → vp_in 0 1 ∧ (((M5.2 o3 (0 : Int32).toNatClampNeg) = ((r4 : Int32).toInt64) → Q M5) ∧ (¬ (M5.2 o3 (0 : Int32).toNatClampNeg) = ((r4 : Int32).toInt64) → False))) ∧ (¬ r2 = 0 → Q M5))) ∧ (¬ r6 = r2 → False)))))
def wl_5 (F o1 o2 o3 : Nat) (a1 a2 a3 : Int32) (M : om_M) (Q : om_M → Prop) : Prop := wp_L_agenda F o1 a1 o3 1 M (fun r2 M1 => wp_M_agenda F o2 a1 M1 (fun r4 M3 => wp_M_thrown F o2 M3 (fun r6 M5 => ((r6 = r2 → ((r2 = 0 → vp_in 0 1 ∧ (((M5.2 o3 (0 : Int32).toNatClampNeg) = ((r4 : Int32).toInt64) → Q M5) ∧ (¬ (M5.2 o3 (0 : Int32).toNatClampNeg) = ((r4 : Int32).toInt64) → False))) ∧ (¬ r2 = 0 → Q M5))) ∧ (¬ r6 = r2 → False)))))
def wl_6 (F o1 o2 o3 : Nat) (a1 a2 a3 : Int32) (M : om_M) (Q : om_M → Prop) : Prop := wp_L_weight F o1 a1 a2 o3 1 M (fun r2 M1 => wp_M_weight F o2 a1 a2 M1 (fun r4 M3 => wp_M_thrown F o2 M3 (fun r6 M5 => ((r6 = r2 → ((r2 = 0 → vp_in 0 1 ∧ (((M5.2 o3 (0 : Int32).toNatClampNeg) = ((r4 : Int32).toInt64) → Q M5) ∧ (¬ (M5.2 o3 (0 : Int32).toNatClampNeg) = ((r4 : Int32).toInt64) → False))) ∧ (¬ r2 = 0 → Q M5))) ∧ (¬ r6 = r2 → False)))))
def wl_7 (F o1 o2 o3 : Nat) (a1 a2 a3 : Int32) (M : om_M) (Q : om_M → Prop) : Prop := wp_L_winners F o1 a1 o3 1 M (fun r2 M1 => wp_M_winners F o2 a1 M1 (fun r4 M3 => wp_M_thrown F o2 M3 (fun r6 M5 => ((r6 = r2 → ((r2 = 0 → vp_in 0 1 ∧ (((M5.2 o3 (0 : Int32).toNatClampNeg) = ((r4 : Int32).toInt64) → Q M5) ∧ (¬ (M5.2 o3 (0 : Int32).toNatClampNeg) = ((r4 : Int32).toInt64) → False))) ∧ (¬ r2 = 0 → Q M5))) ∧ (¬ r6 = r2 → False)))))
def wl_8 (F o1 o2 o3 : Nat) (a1 a2 a3 : Int32) (M : om_M) (Q : om_M → Prop) : Prop := wp_L_winner F o1 a1 o3 1 M (fun r2 M1 => wp_M_winner F o2 a1 M1 (fun r4 M3 => wp_M_thrown F o2 M3 (fun r6 M5 => ((r6 = r2 → ((r2 = 0 → vp_in 0 1 ∧ (((M5.2 o3 (0 : Int32).toNatClampNeg) = ((r4 : Int32).toInt64) → Q M5) ∧ (¬ (M5.2 o3 (0 : Int32).toNatClampNeg) = ((r4 : Int32).toInt64) → False))) ∧ (¬ r2 = 0 → Q M5))) ∧ (¬ r6 = r2 → False)))))
def wl_9 (F o1 o2 o3 : Nat) (a1 a2 a3 : Int32) (M : om_M) (Q : om_M → Prop) : Prop := wp_L_score F o1 a1 a2 o3 1 M (fun r2 M1 => wp_M_score F o2 a1 a2 M1 (fun r4 M3 => wp_M_thrown F o2 M3 (fun r6 M5 => ((r6 = r2 → ((r2 = 0 → vp_in 0 1 ∧ (((M5.2 o3 (0 : Int32).toNatClampNeg) = r4 → Q M5) ∧ (¬ (M5.2 o3 (0 : Int32).toNatClampNeg) = r4 → False))) ∧ (¬ r2 = 0 → Q M5))) ∧ (¬ r6 = r2 → False)))))
def wl_10 (F o1 o2 o3 : Nat) (a1 a2 a3 : Int32) (M : om_M) (Q : om_M → Prop) : Prop := wp_L_pair F o1 a1 a2 o3 1 M (fun r2 M1 => wp_M_pair F o2 a1 a2 M1 (fun r4 M3 => wp_M_thrown F o2 M3 (fun r6 M5 => ((r6 = r2 → ((r2 = 0 → vp_in 0 1 ∧ (((M5.2 o3 (0 : Int32).toNatClampNeg) = ((r4 : Int32).toInt64) → Q M5) ∧ (¬ (M5.2 o3 (0 : Int32).toNatClampNeg) = ((r4 : Int32).toInt64) → False))) ∧ (¬ r2 = 0 → Q M5))) ∧ (¬ r6 = r2 → False)))))
def wl_11 (F o1 o2 o3 : Nat) (a1 a2 a3 : Int32) (M : om_M) (Q : om_M → Prop) : Prop := wp_L_path F o1 a1 a2 o3 1 M (fun r2 M1 => wp_M_path F o2 a1 a2 M1 (fun r4 M3 => wp_M_thrown F o2 M3 (fun r6 M5 => ((r6 = r2 → ((r2 = 0 → vp_in 0 1 ∧ (((M5.2 o3 (0 : Int32).toNatClampNeg) = ((r4 : Int32).toInt64) → Q M5) ∧ (¬ (M5.2 o3 (0 : Int32).toNatClampNeg) = ((r4 : Int32).toInt64) → False))) ∧ (¬ r2 = 0 → Q M5))) ∧ (¬ r6 = r2 → False)))))
def wl_12 (F o1 o2 o3 : Nat) (a1 a2 a3 : Int32) (M : om_M) (Q : om_M → Prop) : Prop := wp_D_branches F o1 M (fun r2 M1 => wp_M_branches F o2 M1 (fun r4 M3 => ((r2 = r4 → Q M3) ∧ (¬ r2 = r4 → False))))
def wl_13 (F o1 o2 o3 : Nat) (a1 a2 a3 : Int32) (M : om_M) (Q : om_M → Prop) : Prop := wp_L_step F o1 a1 o3 1 M (fun r2 M1 => wp_M_step F o2 a1 M1 (fun r4 M3 => wp_M_thrown F o2 M3 (fun r6 M5 => ((r6 = r2 → ((r2 = 0 → vp_in 0 1 ∧ (((M5.2 o3 (0 : Int32).toNatClampNeg) = ((r4 : Int32).toInt64) → Q M5) ∧ (¬ (M5.2 o3 (0 : Int32).toNatClampNeg) = ((r4 : Int32).toInt64) → False))) ∧ (¬ r2 = 0 → Q M5))) ∧ (¬ r6 = r2 → False)))))
def wl_14 (F o1 o2 o3 : Nat) (a1 a2 a3 : Int32) (M : om_M) (Q : om_M → Prop) : Prop := wp_D_disagreement F o1 M (fun r2 M1 => wp_M_disagreement F o2 M1 (fun r4 M3 => ((r2 = r4 → Q M3) ∧ (¬ r2 = r4 → False))))
def wl_15 (F o1 o2 o3 : Nat) (a1 a2 a3 : Int32) (M : om_M) (Q : om_M → Prop) : Prop := wp_D_agreed F o1 M (fun r2 M1 => wp_M_agreed F o2 M1 (fun r4 M3 => ((r2 = r4 → Q M3) ∧ (¬ r2 = r4 → False))))
def wl_16 (F o1 o2 o3 : Nat) (a1 a2 a3 : Int32) (M : om_M) (Q : om_M → Prop) : Prop := wp_L_change F o1 a1 a2 a3 o3 1 M (fun r2 M1 => wp_M_change F o2 a1 a2 a3 M1 (fun r4 M3 => wp_M_thrown F o2 M3 (fun r6 M5 => ((r6 = r2 → ((r2 = 0 → vp_in 0 1 ∧ (((M5.2 o3 (0 : Int32).toNatClampNeg) = ((r4 : Int32).toInt64) → Q M5) ∧ (¬ (M5.2 o3 (0 : Int32).toNatClampNeg) = ((r4 : Int32).toInt64) → False))) ∧ (¬ r2 = 0 → Q M5))) ∧ (¬ r6 = r2 → False)))))
def wl_17 (F o1 o2 o3 : Nat) (a1 a2 a3 : Int32) (M : om_M) (Q : om_M → Prop) : Prop := wp_D_changed F o1 M (fun r2 M1 => wp_M_changed F o2 M1 (fun r4 M3 => ((r2 = r4 → Q M3) ∧ (¬ r2 = r4 → False))))
def wl_18 (F o1 o2 o3 : Nat) (a1 a2 a3 : Int32) (M : om_M) (Q : om_M → Prop) : Prop := wp_L_property F o1 a1 a2 o3 1 M (fun r2 M1 => wp_M_property F o2 a1 a2 M1 (fun r4 M3 => wp_M_thrown F o2 M3 (fun r6 M5 => ((r6 = r2 → ((r2 = 0 → vp_in 0 1 ∧ ((r4 = 0 → (((M5.2 o3 (0 : Int32).toNatClampNeg) = 0 → Q M5) ∧ (¬ (M5.2 o3 (0 : Int32).toNatClampNeg) = 0 → False))) ∧ (¬ r4 = 0 → (((M5.2 o3 (0 : Int32).toNatClampNeg) = 1 → Q M5) ∧ (¬ (M5.2 o3 (0 : Int32).toNatClampNeg) = 1 → False))))) ∧ (¬ r2 = 0 → Q M5))) ∧ (¬ r6 = r2 → False)))))
def wl_19 (F o1 o2 o3 : Nat) (a1 a2 a3 : Int32) (M : om_M) (Q : om_M → Prop) : Prop := wp_D_witness F o1 M (fun r2 M1 => wp_M_witness F o2 M1 (fun r4 M3 => ((r2 = r4 → Q M3) ∧ (¬ r2 = r4 → False))))
def wl_20 (F o1 o2 o3 : Nat) (a1 a2 a3 : Int32) (M : om_M) (Q : om_M → Prop) : Prop := wp_L_circle F o1 a1 o3 1 M (fun r2 M1 => wp_M_circle F o2 a1 M1 (fun r4 M3 => wp_M_thrown F o2 M3 (fun r6 M5 => ((r6 = r2 → ((r2 = 0 → vp_in 0 1 ∧ (((M5.2 o3 (0 : Int32).toNatClampNeg) = ((r4 : Int32).toInt64) → Q M5) ∧ (¬ (M5.2 o3 (0 : Int32).toNatClampNeg) = ((r4 : Int32).toInt64) → False))) ∧ (¬ r2 = 0 → Q M5))) ∧ (¬ r6 = r2 → False)))))
def wl_21 (F o1 o2 o3 : Nat) (a1 a2 a3 : Int32) (M : om_M) (Q : om_M → Prop) : Prop := wp_L_clones F o1 a1 o3 1 M (fun r2 M1 => wp_M_clones F o2 a1 M1 (fun r4 M3 => wp_M_thrown F o2 M3 (fun r6 M5 => ((r6 = r2 → ((r2 = 0 → vp_in 0 1 ∧ ((r4 = 0 → (((M5.2 o3 (0 : Int32).toNatClampNeg) = 0 → Q M5) ∧ (¬ (M5.2 o3 (0 : Int32).toNatClampNeg) = 0 → False))) ∧ (¬ r4 = 0 → (((M5.2 o3 (0 : Int32).toNatClampNeg) = 1 → Q M5) ∧ (¬ (M5.2 o3 (0 : Int32).toNatClampNeg) = 1 → False))))) ∧ (¬ r2 = 0 → Q M5))) ∧ (¬ r6 = r2 → False)))))
def wl_22 (F o1 o2 o3 : Nat) (a1 a2 a3 : Int32) (M : om_M) (Q : om_M → Prop) : Prop := wp_L_count F o1 a1 o3 1 M (fun r2 M1 => wp_M_count F o2 a1 M1 (fun r4 M3 => wp_M_thrown F o2 M3 (fun r6 M5 => ((r6 = r2 → ((r2 = 0 → vp_in 0 1 ∧ (((M5.2 o3 (0 : Int32).toNatClampNeg) = ((r4 : Int32).toInt64) → Q M5) ∧ (¬ (M5.2 o3 (0 : Int32).toNatClampNeg) = ((r4 : Int32).toInt64) → False))) ∧ (¬ r2 = 0 → Q M5))) ∧ (¬ r6 = r2 → False)))))
theorem lw_rc {cells n : Nat} (h : cells + 2 ≤ 601024) (hn : n ≤ 2) : cells + n ≤ room_1.cells := by show _ ≤ 601024; omega
theorem lw_rs {slots n : Nat} (h : slots + 12 ≤ 7293034) (hn : n ≤ 12) : slots + n ≤ room_1.slots := by show _ ≤ 7293034; omega
theorem lw_sld {p : Program} {l : Launch} {e : Env} {R : Room} {s : State} {m : MethodId} {args : Array Value} {below : List Frame} {meth : Method} {c : Code} {H H0 : Heap} {locs : List Loc} {cells slots : Nat} {Q : State → Prop} {cc : ByteArray} {pc : Nat} {ls : Array Slot} {rest : List Value} {A : Nat → Prop} (hexec : p.tables.exec = Jvm.exec) (hb : c.code = cc) {b L : Nat} {xs : Nat → Int32} (hX : va_X b L xs s H0) (hbl : b < H0.size) (hbA : ¬ A b) (hS : va_S A H0 H locs) {i a : Int32} (hin : vp_in i L) (ea : xs i.toNatClampNeg = a) (hdg : decode cc pc = .ok (.iaload, 1)) (kk : W p l e R s m args below meth c H locs cells slots Q (F0 m (pc + 1) ls (.int a :: rest))) : W p l e R s m args below meth c H locs cells slots Q (F0 m pc ls (.int i :: .ref b :: rest)) :=
  va_sld hexec hb hX hbl hbA hS hin hdg (by rw [ea]; exact kk)
set_option maxHeartbeats 4000000 in
set_option maxRecDepth 100000 in
theorem lc_0 {p : Program} {l : Launch} (hfl : l.flags = Jvm.pinnedFlags ++ [Jvm.noTraceFlag]) {e : Env} {s : State} {m : MethodId} {args : Array Value} {below : List Frame} {meth : Method} {c : Code} {cells slots : Nat} {Qw : State → Prop} (hx : p.tables.exec = Jvm.exec) (hb : c.code = code) (hml : c.maxLocals = 8) (hown : s.vm.findClass "BallotDeskLaw" = some m.cls) (hts : ∀ w ∈ lw_g, w.before args s = true) {G : List (Nat × Nat)} (hG : ow_lay G) {D : va_G} {cA : Nat → ClassId} {ad : Nat → Nat} {A : Nat → Prop} {b0 L : Nat} {xs : Nat → Int32} (hX : va_X b0 L xs s s.heap) (hbl : b0 < s.heap.size) (hbA : ¬ A b0) (hZ : xw_Z A s s.heap) (hN : xw_N s) {F o1 o2 o3 : Nat} (k1 : ow_kd G o1 = (3, 0)) (k2 : ow_kd G o2 = (3, 9)) (k3 : ow_kd G o3 = (4, 1)) {i a1 a2 a3 : Int32} (hi1 : vp_in (i + 1) L) (ea1 : xs (i + 1).toNatClampNeg = a1) (hi2 : vp_in (i + 2) L) (ea2 : xs (i + 2).toNatClampNeg = a2) (hi3 : vp_in (i + 3) L) (ea3 : xs (i + 3).toNatClampNeg = a3) {M : om_M} {Q : om_M → Prop} {H : Heap} {locs : List Loc} {ls : Array Slot} (hcl : cells + 2 ≤ 601024) (hsl : slots + 12 ≤ 7293034) (h : wl_0 F o1 o2 o3 a1 a2 a3 M Q) (hB : ow_B G D cA ad A M s s.heap H locs) (hl : lv_has ls 8 [(0, .ref b0), (1, .ref (ad o1)), (2, .ref (ad o2)), (3, .ref (ad o3)), (4, .int i)])
    (hK : ∀ (M1 : om_M) (H : Heap) (locs : List Loc) (ls : Array Slot), Q M1 → ow_B G D cA ad A M1 s s.heap H locs → lv_has ls 8 [(0, .ref b0), (1, .ref (ad o1)), (2, .ref (ad o2)), (3, .ref (ad o3)), (4, .int i)] → W p l e room_1 s m args below meth c H locs (cells + 2) (slots + 12) Qw (F0 m 1339 ls [])) : W p l e room_1 s m args below meth c H locs cells slots Qw (F0 m 144 ls []) := by
  refine lv_aload_n hx hb dc_L_law_144 rfl (lv_at hl 1 rfl) ?_
  refine lv_aload_n hx hb dc_L_law_145 rfl (lv_at hl 0 rfl) ?_
  refine lv_iload hx hb dc_L_law_146 (lv_at hl 4 rfl) ?_
  refine lv_iconst (v := 1) hx hb dc_L_law_148 rfl ?_
  refine lv_iadd hx hb dc_L_law_149 ?_
  refine lw_sld hx hb hX hbl hbA hB.2.2.2 hi1 ea1 dc_L_law_150 ?_
  refine lv_aload_n hx hb dc_L_law_151 rfl (lv_at hl 3 rfl) ?_
  refine xw_callS (As := [.ref (ad o1), .int a1, .ref (ad o3)]) (rest := []) (maxL := 4) (mc := 1) (ms := 6) hx hb hown hts (ct_L_candidates l hfl G hG D cA ad F _ k1 _ _ _ k3 _ _ h) (hw_wsin mh_L_candidates) (xw_cd_ofW (hts _ mh_L_candidates)) mw_0 mw_323 mw_324 hd_L_candidates rfl rfl (Nat.le_of_ble_eq_true rfl) (Nat.le_of_ble_eq_true rfl) hB (hw_pre hB hZ hN) (hl.1.trans hml.symm) (Nat.le_of_ble_eq_true rfl) rfl dc_L_law_152 (lw_rc hcl (by decide)) (lw_rs hsl (by decide)) (fun q k M H locs ce hX => False.elim hX) (fun v M1 H locs h hB => ?_)
  obtain ⟨r2, rfl, h⟩ := h
  refine lv_istore hx hb dc_L_law_155 hl (by decide) rfl (fun ls hl => ?_)
  refine lv_aload_n hx hb dc_L_law_157 rfl (lv_at hl 3 rfl) ?_
  refine lv_aload_n hx hb dc_L_law_158 rfl (lv_at hl 1 rfl) ?_
  refine lv_iload hx hb dc_L_law_159 (lv_at hl 5 rfl) ?_
  refine lv_iconst (v := 1) hx hb dc_L_law_161 rfl ?_
  refine lv_iadd hx hb dc_L_law_162 ?_
  refine lw_sld hx hb hX hbl hbA hB.2.2.2 hi1 ea1 dc_L_law_163 ?_
  refine ow_calli (va_runV (As := [.int a1]) (rest := []) ⟨hx, hb, hml, hown, hts⟩ (ct_M_candidates l G hG D cA ad F _ k2 _ _ _ h) ⟨ow_cb 1 hts mw_878 mw_12 mw_875 rfl rfl hd_M_candidates ⟨Nat.le_of_ble_eq_true rfl, Nat.le_of_ble_eq_true rfl⟩, hts _ mw_876, hts _ mw_877⟩ (ow_preV hB k2 rfl) rfl rfl hl.1 rfl (lv_room (Nat.le_of_ble_eq_true rfl)) dc_L_law_164 ⟨(by have := hcl; show _ ≤ 601024; omega), (by have := hsl; show _ ≤ 7293034; omega)⟩) hB (fun r4 M3 H locs h hB => ?_)
  refine lv_istore hx hb dc_L_law_167 hl (by decide) rfl (fun ls hl => ?_)
  refine lv_aload_n hx hb dc_L_law_169 rfl (lv_at hl 4 rfl) ?_
  refine ow_calli (va_runV (As := []) (rest := []) ⟨hx, hb, hml, hown, hts⟩ (ct_M_thrown l G hG D cA ad F _ k2 _ _ h) ⟨ow_cb 0 hts mw_874 mw_12 mw_871 rfl rfl hd_M_thrown ⟨Nat.le_of_ble_eq_true rfl, Nat.le_of_ble_eq_true rfl⟩, hts _ mw_872, hts _ mw_873⟩ (ow_preV hB k2 rfl) rfl rfl hl.1 rfl (lv_room (Nat.le_of_ble_eq_true rfl)) dc_L_law_170 ⟨(by have := hcl; show _ ≤ 601024; omega), (by have := hsl; show _ ≤ 7293034; omega)⟩) hB (fun r6 M5 H locs h hB => ?_)
  refine lv_iload hx hb dc_L_law_173 (lv_at hl 1 rfl) ?_
  obtain ⟨h1, h2⟩ := h
  refine lv_icmp_eq hx hb dc_L_law_175 rfl (fun hc => ?_) (fun hc => ?_)
  · have h := h1 hc
    refine lv_iload hx hb dc_L_law_180 (lv_at hl 1 rfl) ?_
    obtain ⟨h1, h2⟩ := h
    refine lv_if_ne hx hb dc_L_law_182 rfl (fun hc => ?_) (fun hc => ?_)
    · have h := h2 hc
      refine lv_goto hx hb dc_L_law_197 rfl ?_
      refine W.widen (k := cells + 2) (n := slots + 12) (by omega) (by omega) ?_
      exact hK _ _ _ _ h hB (lv_sub hl [2, 3, 4, 5, 6] rfl)
    · have h := h1 hc
      refine lv_aload_n hx hb dc_L_law_185 rfl (lv_at hl 5 rfl) ?_
      refine lv_iconst (v := 0) hx hb dc_L_law_186 rfl ?_
      obtain ⟨hi7, h⟩ := h
      refine ow_lald hx hb hB k3 hi7 dc_L_law_187 ?_
      refine lv_iload hx hb dc_L_law_188 (lv_at hl 0 rfl) ?_
      refine lv_i2l hx hb dc_L_law_190 rfl ?_
      obtain ⟨h1, h2⟩ := h
      refine ow_lcmp_eq hx hb dc_L_law_191 dc_L_law_192 rfl (fun hc => ?_) (fun hc => ?_)
      · have h := h1 hc
        refine lv_goto hx hb dc_L_law_197 rfl ?_
        refine W.widen (k := cells + 2) (n := slots + 12) (by omega) (by omega) ?_
        exact hK _ _ _ _ h hB (lv_sub hl [2, 3, 4, 5, 6] rfl)
      · have h := h2 hc
        exact False.elim h
  · have h := h2 hc
    exact False.elim h
set_option maxHeartbeats 4000000 in
set_option maxRecDepth 100000 in
theorem lc_1 {p : Program} {l : Launch} (hfl : l.flags = Jvm.pinnedFlags ++ [Jvm.noTraceFlag]) {e : Env} {s : State} {m : MethodId} {args : Array Value} {below : List Frame} {meth : Method} {c : Code} {cells slots : Nat} {Qw : State → Prop} (hx : p.tables.exec = Jvm.exec) (hb : c.code = code) (hml : c.maxLocals = 8) (hown : s.vm.findClass "BallotDeskLaw" = some m.cls) (hts : ∀ w ∈ lw_g, w.before args s = true) {G : List (Nat × Nat)} (hG : ow_lay G) {D : va_G} {cA : Nat → ClassId} {ad : Nat → Nat} {A : Nat → Prop} {b0 L : Nat} {xs : Nat → Int32} (hX : va_X b0 L xs s s.heap) (hbl : b0 < s.heap.size) (hbA : ¬ A b0) (hZ : xw_Z A s s.heap) (hN : xw_N s) {F o1 o2 o3 : Nat} (k1 : ow_kd G o1 = (3, 0)) (k2 : ow_kd G o2 = (3, 9)) (k3 : ow_kd G o3 = (4, 1)) {i a1 a2 a3 : Int32} (hi1 : vp_in (i + 1) L) (ea1 : xs (i + 1).toNatClampNeg = a1) (hi2 : vp_in (i + 2) L) (ea2 : xs (i + 2).toNatClampNeg = a2) (hi3 : vp_in (i + 3) L) (ea3 : xs (i + 3).toNatClampNeg = a3) {M : om_M} {Q : om_M → Prop} {H : Heap} {locs : List Loc} {ls : Array Slot} (hcl : cells + 2 ≤ 601024) (hsl : slots + 12 ≤ 7293034) (h : wl_1 F o1 o2 o3 a1 a2 a3 M Q) (hB : ow_B G D cA ad A M s s.heap H locs) (hl : lv_has ls 8 [(0, .ref b0), (1, .ref (ad o1)), (2, .ref (ad o2)), (3, .ref (ad o3)), (4, .int i)])
    (hK : ∀ (M1 : om_M) (H : Heap) (locs : List Loc) (ls : Array Slot), Q M1 → ow_B G D cA ad A M1 s s.heap H locs → lv_has ls 8 [(0, .ref b0), (1, .ref (ad o1)), (2, .ref (ad o2)), (3, .ref (ad o3)), (4, .int i)] → W p l e room_1 s m args below meth c H locs (cells + 2) (slots + 12) Qw (F0 m 1339 ls [])) : W p l e room_1 s m args below meth c H locs cells slots Qw (F0 m 200 ls []) := by
  refine lv_aload_n hx hb dc_L_law_200 rfl (lv_at hl 1 rfl) ?_
  refine lv_aload_n hx hb dc_L_law_201 rfl (lv_at hl 0 rfl) ?_
  refine lv_iload hx hb dc_L_law_202 (lv_at hl 4 rfl) ?_
  refine lv_iconst (v := 1) hx hb dc_L_law_204 rfl ?_
  refine lv_iadd hx hb dc_L_law_205 ?_
  refine lw_sld hx hb hX hbl hbA hB.2.2.2 hi1 ea1 dc_L_law_206 ?_
  refine lv_aload_n hx hb dc_L_law_207 rfl (lv_at hl 0 rfl) ?_
  refine lv_iload hx hb dc_L_law_208 (lv_at hl 4 rfl) ?_
  refine lv_iconst (v := 2) hx hb dc_L_law_210 rfl ?_
  refine lv_iadd hx hb dc_L_law_211 ?_
  refine lw_sld hx hb hX hbl hbA hB.2.2.2 hi2 ea2 dc_L_law_212 ?_
  refine lv_aload_n hx hb dc_L_law_213 rfl (lv_at hl 3 rfl) ?_
  refine xw_callS (As := [.ref (ad o1), .int a1, .int a2, .ref (ad o3)]) (rest := []) (maxL := 5) (mc := 2) (ms := 12) hx hb hown hts (ct_L_ballot l hfl G hG D cA ad F _ k1 _ _ _ _ k3 _ _ h) (hw_wsin mh_L_ballot) (xw_cd_ofW (hts _ mh_L_ballot)) mw_0 mw_397 mw_398 hd_L_ballot rfl rfl (Nat.le_of_ble_eq_true rfl) (Nat.le_of_ble_eq_true rfl) hB (hw_pre hB hZ hN) (hl.1.trans hml.symm) (Nat.le_of_ble_eq_true rfl) rfl dc_L_law_214 (lw_rc hcl (by decide)) (lw_rs hsl (by decide)) (fun q k M H locs ce hX => False.elim hX) (fun v M1 H locs h hB => ?_)
  obtain ⟨r2, rfl, h⟩ := h
  refine lv_istore hx hb dc_L_law_217 hl (by decide) rfl (fun ls hl => ?_)
  refine lv_aload_n hx hb dc_L_law_219 rfl (lv_at hl 3 rfl) ?_
  refine lv_aload_n hx hb dc_L_law_220 rfl (lv_at hl 1 rfl) ?_
  refine lv_iload hx hb dc_L_law_221 (lv_at hl 5 rfl) ?_
  refine lv_iconst (v := 1) hx hb dc_L_law_223 rfl ?_
  refine lv_iadd hx hb dc_L_law_224 ?_
  refine lw_sld hx hb hX hbl hbA hB.2.2.2 hi1 ea1 dc_L_law_225 ?_
  refine lv_aload_n hx hb dc_L_law_226 rfl (lv_at hl 1 rfl) ?_
  refine lv_iload hx hb dc_L_law_227 (lv_at hl 5 rfl) ?_
  refine lv_iconst (v := 2) hx hb dc_L_law_229 rfl ?_
  refine lv_iadd hx hb dc_L_law_230 ?_
  refine lw_sld hx hb hX hbl hbA hB.2.2.2 hi2 ea2 dc_L_law_231 ?_
  refine ow_calli (va_runV (As := [.int a1, .int a2]) (rest := []) ⟨hx, hb, hml, hown, hts⟩ (ct_M_ballot l G hG D cA ad F _ k2 _ _ _ _ h) ⟨ow_cb 2 hts mw_889 mw_12 mw_886 rfl rfl hd_M_ballot ⟨Nat.le_of_ble_eq_true rfl, Nat.le_of_ble_eq_true rfl⟩, hts _ mw_887, hts _ mw_888⟩ (ow_preV hB k2 rfl) rfl rfl hl.1 rfl (lv_room (Nat.le_of_ble_eq_true rfl)) dc_L_law_232 ⟨(by have := hcl; show _ ≤ 601024; omega), (by have := hsl; show _ ≤ 7293034; omega)⟩) hB (fun r4 M3 H locs h hB => ?_)
  refine lv_istore hx hb dc_L_law_235 hl (by decide) rfl (fun ls hl => ?_)
  refine lv_aload_n hx hb dc_L_law_237 rfl (lv_at hl 4 rfl) ?_
  refine ow_calli (va_runV (As := []) (rest := []) ⟨hx, hb, hml, hown, hts⟩ (ct_M_thrown l G hG D cA ad F _ k2 _ _ h) ⟨ow_cb 0 hts mw_874 mw_12 mw_871 rfl rfl hd_M_thrown ⟨Nat.le_of_ble_eq_true rfl, Nat.le_of_ble_eq_true rfl⟩, hts _ mw_872, hts _ mw_873⟩ (ow_preV hB k2 rfl) rfl rfl hl.1 rfl (lv_room (Nat.le_of_ble_eq_true rfl)) dc_L_law_238 ⟨(by have := hcl; show _ ≤ 601024; omega), (by have := hsl; show _ ≤ 7293034; omega)⟩) hB (fun r6 M5 H locs h hB => ?_)
  refine lv_iload hx hb dc_L_law_241 (lv_at hl 1 rfl) ?_
  obtain ⟨h1, h2⟩ := h
  refine lv_icmp_eq hx hb dc_L_law_243 rfl (fun hc => ?_) (fun hc => ?_)
  · have h := h1 hc
    refine lv_iload hx hb dc_L_law_248 (lv_at hl 1 rfl) ?_
    obtain ⟨h1, h2⟩ := h
    refine lv_if_ne hx hb dc_L_law_250 rfl (fun hc => ?_) (fun hc => ?_)
    · have h := h2 hc
      refine lv_goto hx hb dc_L_law_265 rfl ?_
      refine W.widen (k := cells + 2) (n := slots + 12) (by omega) (by omega) ?_
      exact hK _ _ _ _ h hB (lv_sub hl [2, 3, 4, 5, 6] rfl)
    · have h := h1 hc
      refine lv_aload_n hx hb dc_L_law_253 rfl (lv_at hl 5 rfl) ?_
      refine lv_iconst (v := 0) hx hb dc_L_law_254 rfl ?_
      obtain ⟨hi7, h⟩ := h
      refine ow_lald hx hb hB k3 hi7 dc_L_law_255 ?_
      refine lv_iload hx hb dc_L_law_256 (lv_at hl 0 rfl) ?_
      refine lv_i2l hx hb dc_L_law_258 rfl ?_
      obtain ⟨h1, h2⟩ := h
      refine ow_lcmp_eq hx hb dc_L_law_259 dc_L_law_260 rfl (fun hc => ?_) (fun hc => ?_)
      · have h := h1 hc
        refine lv_goto hx hb dc_L_law_265 rfl ?_
        refine W.widen (k := cells + 2) (n := slots + 12) (by omega) (by omega) ?_
        exact hK _ _ _ _ h hB (lv_sub hl [2, 3, 4, 5, 6] rfl)
      · have h := h2 hc
        exact False.elim h
  · have h := h2 hc
    exact False.elim h
set_option maxHeartbeats 4000000 in
set_option maxRecDepth 100000 in
theorem lc_2 {p : Program} {l : Launch} (hfl : l.flags = Jvm.pinnedFlags ++ [Jvm.noTraceFlag]) {e : Env} {s : State} {m : MethodId} {args : Array Value} {below : List Frame} {meth : Method} {c : Code} {cells slots : Nat} {Qw : State → Prop} (hx : p.tables.exec = Jvm.exec) (hb : c.code = code) (hml : c.maxLocals = 8) (hown : s.vm.findClass "BallotDeskLaw" = some m.cls) (hts : ∀ w ∈ lw_g, w.before args s = true) {G : List (Nat × Nat)} (hG : ow_lay G) {D : va_G} {cA : Nat → ClassId} {ad : Nat → Nat} {A : Nat → Prop} {b0 L : Nat} {xs : Nat → Int32} (hX : va_X b0 L xs s s.heap) (hbl : b0 < s.heap.size) (hbA : ¬ A b0) (hZ : xw_Z A s s.heap) (hN : xw_N s) {F o1 o2 o3 : Nat} (k1 : ow_kd G o1 = (3, 0)) (k2 : ow_kd G o2 = (3, 9)) (k3 : ow_kd G o3 = (4, 1)) {i a1 a2 a3 : Int32} (hi1 : vp_in (i + 1) L) (ea1 : xs (i + 1).toNatClampNeg = a1) (hi2 : vp_in (i + 2) L) (ea2 : xs (i + 2).toNatClampNeg = a2) (hi3 : vp_in (i + 3) L) (ea3 : xs (i + 3).toNatClampNeg = a3) {M : om_M} {Q : om_M → Prop} {H : Heap} {locs : List Loc} {ls : Array Slot} (hcl : cells + 2 ≤ 601024) (hsl : slots + 12 ≤ 7293034) (h : wl_2 F o1 o2 o3 a1 a2 a3 M Q) (hB : ow_B G D cA ad A M s s.heap H locs) (hl : lv_has ls 8 [(0, .ref b0), (1, .ref (ad o1)), (2, .ref (ad o2)), (3, .ref (ad o3)), (4, .int i)])
    (hK : ∀ (M1 : om_M) (H : Heap) (locs : List Loc) (ls : Array Slot), Q M1 → ow_B G D cA ad A M1 s s.heap H locs → lv_has ls 8 [(0, .ref b0), (1, .ref (ad o1)), (2, .ref (ad o2)), (3, .ref (ad o3)), (4, .int i)] → W p l e room_1 s m args below meth c H locs (cells + 2) (slots + 12) Qw (F0 m 1339 ls [])) : W p l e room_1 s m args below meth c H locs cells slots Qw (F0 m 268 ls []) := by
  refine lv_aload_n hx hb dc_L_law_268 rfl (lv_at hl 1 rfl) ?_
  refine lv_aload_n hx hb dc_L_law_269 rfl (lv_at hl 0 rfl) ?_
  refine lv_iload hx hb dc_L_law_270 (lv_at hl 4 rfl) ?_
  refine lv_iconst (v := 1) hx hb dc_L_law_272 rfl ?_
  refine lv_iadd hx hb dc_L_law_273 ?_
  refine lw_sld hx hb hX hbl hbA hB.2.2.2 hi1 ea1 dc_L_law_274 ?_
  refine lv_aload_n hx hb dc_L_law_275 rfl (lv_at hl 0 rfl) ?_
  refine lv_iload hx hb dc_L_law_276 (lv_at hl 4 rfl) ?_
  refine lv_iconst (v := 2) hx hb dc_L_law_278 rfl ?_
  refine lv_iadd hx hb dc_L_law_279 ?_
  refine lw_sld hx hb hX hbl hbA hB.2.2.2 hi2 ea2 dc_L_law_280 ?_
  refine lv_aload_n hx hb dc_L_law_281 rfl (lv_at hl 3 rfl) ?_
  refine xw_callS (As := [.ref (ad o1), .int a1, .int a2, .ref (ad o3)]) (rest := []) (maxL := 5) (mc := 2) (ms := 12) hx hb hown hts (ct_L_amount l hfl G hG D cA ad F _ k1 _ _ _ _ k3 _ _ h) (hw_wsin mh_L_amount) (xw_cd_ofW (hts _ mh_L_amount)) mw_0 mw_436 mw_437 hd_L_amount rfl rfl (Nat.le_of_ble_eq_true rfl) (Nat.le_of_ble_eq_true rfl) hB (hw_pre hB hZ hN) (hl.1.trans hml.symm) (Nat.le_of_ble_eq_true rfl) rfl dc_L_law_282 (lw_rc hcl (by decide)) (lw_rs hsl (by decide)) (fun q k M H locs ce hX => False.elim hX) (fun v M1 H locs h hB => ?_)
  obtain ⟨r2, rfl, h⟩ := h
  refine lv_istore hx hb dc_L_law_285 hl (by decide) rfl (fun ls hl => ?_)
  refine lv_aload_n hx hb dc_L_law_287 rfl (lv_at hl 3 rfl) ?_
  refine lv_aload_n hx hb dc_L_law_288 rfl (lv_at hl 1 rfl) ?_
  refine lv_iload hx hb dc_L_law_289 (lv_at hl 5 rfl) ?_
  refine lv_iconst (v := 1) hx hb dc_L_law_291 rfl ?_
  refine lv_iadd hx hb dc_L_law_292 ?_
  refine lw_sld hx hb hX hbl hbA hB.2.2.2 hi1 ea1 dc_L_law_293 ?_
  refine lv_aload_n hx hb dc_L_law_294 rfl (lv_at hl 1 rfl) ?_
  refine lv_iload hx hb dc_L_law_295 (lv_at hl 5 rfl) ?_
  refine lv_iconst (v := 2) hx hb dc_L_law_297 rfl ?_
  refine lv_iadd hx hb dc_L_law_298 ?_
  refine lw_sld hx hb hX hbl hbA hB.2.2.2 hi2 ea2 dc_L_law_299 ?_
  refine ow_calli (va_runV (As := [.int a1, .int a2]) (rest := []) ⟨hx, hb, hml, hown, hts⟩ (ct_M_amount l G hG D cA ad F _ k2 _ _ _ _ h) ⟨ow_cb 2 hts mw_902 mw_12 mw_899 rfl rfl hd_M_amount ⟨Nat.le_of_ble_eq_true rfl, Nat.le_of_ble_eq_true rfl⟩, hts _ mw_900, hts _ mw_901⟩ (ow_preV hB k2 rfl) rfl rfl hl.1 rfl (lv_room (Nat.le_of_ble_eq_true rfl)) dc_L_law_300 ⟨(by have := hcl; show _ ≤ 601024; omega), (by have := hsl; show _ ≤ 7293034; omega)⟩) hB (fun r4 M3 H locs h hB => ?_)
  refine lv_istore hx hb dc_L_law_303 hl (by decide) rfl (fun ls hl => ?_)
  refine lv_aload_n hx hb dc_L_law_305 rfl (lv_at hl 4 rfl) ?_
  refine ow_calli (va_runV (As := []) (rest := []) ⟨hx, hb, hml, hown, hts⟩ (ct_M_thrown l G hG D cA ad F _ k2 _ _ h) ⟨ow_cb 0 hts mw_874 mw_12 mw_871 rfl rfl hd_M_thrown ⟨Nat.le_of_ble_eq_true rfl, Nat.le_of_ble_eq_true rfl⟩, hts _ mw_872, hts _ mw_873⟩ (ow_preV hB k2 rfl) rfl rfl hl.1 rfl (lv_room (Nat.le_of_ble_eq_true rfl)) dc_L_law_306 ⟨(by have := hcl; show _ ≤ 601024; omega), (by have := hsl; show _ ≤ 7293034; omega)⟩) hB (fun r6 M5 H locs h hB => ?_)
  refine lv_iload hx hb dc_L_law_309 (lv_at hl 1 rfl) ?_
  obtain ⟨h1, h2⟩ := h
  refine lv_icmp_eq hx hb dc_L_law_311 rfl (fun hc => ?_) (fun hc => ?_)
  · have h := h1 hc
    refine lv_iload hx hb dc_L_law_316 (lv_at hl 1 rfl) ?_
    obtain ⟨h1, h2⟩ := h
    refine lv_if_ne hx hb dc_L_law_318 rfl (fun hc => ?_) (fun hc => ?_)
    · have h := h2 hc
      refine lv_goto hx hb dc_L_law_333 rfl ?_
      refine W.widen (k := cells + 2) (n := slots + 12) (by omega) (by omega) ?_
      exact hK _ _ _ _ h hB (lv_sub hl [2, 3, 4, 5, 6] rfl)
    · have h := h1 hc
      refine lv_aload_n hx hb dc_L_law_321 rfl (lv_at hl 5 rfl) ?_
      refine lv_iconst (v := 0) hx hb dc_L_law_322 rfl ?_
      obtain ⟨hi7, h⟩ := h
      refine ow_lald hx hb hB k3 hi7 dc_L_law_323 ?_
      refine lv_iload hx hb dc_L_law_324 (lv_at hl 0 rfl) ?_
      refine lv_i2l hx hb dc_L_law_326 rfl ?_
      obtain ⟨h1, h2⟩ := h
      refine ow_lcmp_eq hx hb dc_L_law_327 dc_L_law_328 rfl (fun hc => ?_) (fun hc => ?_)
      · have h := h1 hc
        refine lv_goto hx hb dc_L_law_333 rfl ?_
        refine W.widen (k := cells + 2) (n := slots + 12) (by omega) (by omega) ?_
        exact hK _ _ _ _ h hB (lv_sub hl [2, 3, 4, 5, 6] rfl)
      · have h := h2 hc
        exact False.elim h
  · have h := h2 hc
    exact False.elim h
set_option maxHeartbeats 4000000 in
set_option maxRecDepth 100000 in
theorem lc_3 {p : Program} {l : Launch} (hfl : l.flags = Jvm.pinnedFlags ++ [Jvm.noTraceFlag]) {e : Env} {s : State} {m : MethodId} {args : Array Value} {below : List Frame} {meth : Method} {c : Code} {cells slots : Nat} {Qw : State → Prop} (hx : p.tables.exec = Jvm.exec) (hb : c.code = code) (hml : c.maxLocals = 8) (hown : s.vm.findClass "BallotDeskLaw" = some m.cls) (hts : ∀ w ∈ lw_g, w.before args s = true) {G : List (Nat × Nat)} (hG : ow_lay G) {D : va_G} {cA : Nat → ClassId} {ad : Nat → Nat} {A : Nat → Prop} {b0 L : Nat} {xs : Nat → Int32} (hX : va_X b0 L xs s s.heap) (hbl : b0 < s.heap.size) (hbA : ¬ A b0) (hZ : xw_Z A s s.heap) (hN : xw_N s) {F o1 o2 o3 : Nat} (k1 : ow_kd G o1 = (3, 0)) (k2 : ow_kd G o2 = (3, 9)) (k3 : ow_kd G o3 = (4, 1)) {i a1 a2 a3 : Int32} (hi1 : vp_in (i + 1) L) (ea1 : xs (i + 1).toNatClampNeg = a1) (hi2 : vp_in (i + 2) L) (ea2 : xs (i + 2).toNatClampNeg = a2) (hi3 : vp_in (i + 3) L) (ea3 : xs (i + 3).toNatClampNeg = a3) {M : om_M} {Q : om_M → Prop} {H : Heap} {locs : List Loc} {ls : Array Slot} (hcl : cells + 2 ≤ 601024) (hsl : slots + 12 ≤ 7293034) (h : wl_3 F o1 o2 o3 a1 a2 a3 M Q) (hB : ow_B G D cA ad A M s s.heap H locs) (hl : lv_has ls 8 [(0, .ref b0), (1, .ref (ad o1)), (2, .ref (ad o2)), (3, .ref (ad o3)), (4, .int i)])
    (hK : ∀ (M1 : om_M) (H : Heap) (locs : List Loc) (ls : Array Slot), Q M1 → ow_B G D cA ad A M1 s s.heap H locs → lv_has ls 8 [(0, .ref b0), (1, .ref (ad o1)), (2, .ref (ad o2)), (3, .ref (ad o3)), (4, .int i)] → W p l e room_1 s m args below meth c H locs (cells + 2) (slots + 12) Qw (F0 m 1339 ls [])) : W p l e room_1 s m args below meth c H locs cells slots Qw (F0 m 336 ls []) := by
  refine lv_aload_n hx hb dc_L_law_336 rfl (lv_at hl 1 rfl) ?_
  refine lv_aload_n hx hb dc_L_law_337 rfl (lv_at hl 0 rfl) ?_
  refine lv_iload hx hb dc_L_law_338 (lv_at hl 4 rfl) ?_
  refine lv_iconst (v := 1) hx hb dc_L_law_340 rfl ?_
  refine lv_iadd hx hb dc_L_law_341 ?_
  refine lw_sld hx hb hX hbl hbA hB.2.2.2 hi1 ea1 dc_L_law_342 ?_
  refine lv_aload_n hx hb dc_L_law_343 rfl (lv_at hl 3 rfl) ?_
  refine xw_callS (As := [.ref (ad o1), .int a1, .ref (ad o3)]) (rest := []) (maxL := 4) (mc := 1) (ms := 6) hx hb hown hts (ct_L_drop l hfl G hG D cA ad F _ k1 _ _ _ k3 _ _ h) (hw_wsin mh_L_drop) (xw_cd_ofW (hts _ mh_L_drop)) mw_0 mw_470 mw_471 hd_L_drop rfl rfl (Nat.le_of_ble_eq_true rfl) (Nat.le_of_ble_eq_true rfl) hB (hw_pre hB hZ hN) (hl.1.trans hml.symm) (Nat.le_of_ble_eq_true rfl) rfl dc_L_law_344 (lw_rc hcl (by decide)) (lw_rs hsl (by decide)) (fun q k M H locs ce hX => False.elim hX) (fun v M1 H locs h hB => ?_)
  obtain ⟨r2, rfl, h⟩ := h
  refine lv_istore hx hb dc_L_law_347 hl (by decide) rfl (fun ls hl => ?_)
  refine lv_aload_n hx hb dc_L_law_349 rfl (lv_at hl 3 rfl) ?_
  refine lv_aload_n hx hb dc_L_law_350 rfl (lv_at hl 1 rfl) ?_
  refine lv_iload hx hb dc_L_law_351 (lv_at hl 5 rfl) ?_
  refine lv_iconst (v := 1) hx hb dc_L_law_353 rfl ?_
  refine lv_iadd hx hb dc_L_law_354 ?_
  refine lw_sld hx hb hX hbl hbA hB.2.2.2 hi1 ea1 dc_L_law_355 ?_
  refine ow_calli (va_runV (As := [.int a1]) (rest := []) ⟨hx, hb, hml, hown, hts⟩ (ct_M_drop l G hG D cA ad F _ k2 _ _ _ h) ⟨ow_cb 1 hts mw_910 mw_12 mw_907 rfl rfl hd_M_drop ⟨Nat.le_of_ble_eq_true rfl, Nat.le_of_ble_eq_true rfl⟩, hts _ mw_908, hts _ mw_909⟩ (ow_preV hB k2 rfl) rfl rfl hl.1 rfl (lv_room (Nat.le_of_ble_eq_true rfl)) dc_L_law_356 ⟨(by have := hcl; show _ ≤ 601024; omega), (by have := hsl; show _ ≤ 7293034; omega)⟩) hB (fun r4 M3 H locs h hB => ?_)
  refine lv_istore hx hb dc_L_law_359 hl (by decide) rfl (fun ls hl => ?_)
  refine lv_aload_n hx hb dc_L_law_361 rfl (lv_at hl 4 rfl) ?_
  refine ow_calli (va_runV (As := []) (rest := []) ⟨hx, hb, hml, hown, hts⟩ (ct_M_thrown l G hG D cA ad F _ k2 _ _ h) ⟨ow_cb 0 hts mw_874 mw_12 mw_871 rfl rfl hd_M_thrown ⟨Nat.le_of_ble_eq_true rfl, Nat.le_of_ble_eq_true rfl⟩, hts _ mw_872, hts _ mw_873⟩ (ow_preV hB k2 rfl) rfl rfl hl.1 rfl (lv_room (Nat.le_of_ble_eq_true rfl)) dc_L_law_362 ⟨(by have := hcl; show _ ≤ 601024; omega), (by have := hsl; show _ ≤ 7293034; omega)⟩) hB (fun r6 M5 H locs h hB => ?_)
  refine lv_iload hx hb dc_L_law_365 (lv_at hl 1 rfl) ?_
  obtain ⟨h1, h2⟩ := h
  refine lv_icmp_eq hx hb dc_L_law_367 rfl (fun hc => ?_) (fun hc => ?_)
  · have h := h1 hc
    refine lv_iload hx hb dc_L_law_372 (lv_at hl 1 rfl) ?_
    obtain ⟨h1, h2⟩ := h
    refine lv_if_ne hx hb dc_L_law_374 rfl (fun hc => ?_) (fun hc => ?_)
    · have h := h2 hc
      refine lv_goto hx hb dc_L_law_389 rfl ?_
      refine W.widen (k := cells + 2) (n := slots + 12) (by omega) (by omega) ?_
      exact hK _ _ _ _ h hB (lv_sub hl [2, 3, 4, 5, 6] rfl)
    · have h := h1 hc
      refine lv_aload_n hx hb dc_L_law_377 rfl (lv_at hl 5 rfl) ?_
      refine lv_iconst (v := 0) hx hb dc_L_law_378 rfl ?_
      obtain ⟨hi7, h⟩ := h
      refine ow_lald hx hb hB k3 hi7 dc_L_law_379 ?_
      refine lv_iload hx hb dc_L_law_380 (lv_at hl 0 rfl) ?_
      refine lv_i2l hx hb dc_L_law_382 rfl ?_
      obtain ⟨h1, h2⟩ := h
      refine ow_lcmp_eq hx hb dc_L_law_383 dc_L_law_384 rfl (fun hc => ?_) (fun hc => ?_)
      · have h := h1 hc
        refine lv_goto hx hb dc_L_law_389 rfl ?_
        refine W.widen (k := cells + 2) (n := slots + 12) (by omega) (by omega) ?_
        exact hK _ _ _ _ h hB (lv_sub hl [2, 3, 4, 5, 6] rfl)
      · have h := h2 hc
        exact False.elim h
  · have h := h2 hc
    exact False.elim h
set_option maxHeartbeats 4000000 in
set_option maxRecDepth 100000 in
theorem lc_4 {p : Program} {l : Launch} (hfl : l.flags = Jvm.pinnedFlags ++ [Jvm.noTraceFlag]) {e : Env} {s : State} {m : MethodId} {args : Array Value} {below : List Frame} {meth : Method} {c : Code} {cells slots : Nat} {Qw : State → Prop} (hx : p.tables.exec = Jvm.exec) (hb : c.code = code) (hml : c.maxLocals = 8) (hown : s.vm.findClass "BallotDeskLaw" = some m.cls) (hts : ∀ w ∈ lw_g, w.before args s = true) {G : List (Nat × Nat)} (hG : ow_lay G) {D : va_G} {cA : Nat → ClassId} {ad : Nat → Nat} {A : Nat → Prop} {b0 L : Nat} {xs : Nat → Int32} (hX : va_X b0 L xs s s.heap) (hbl : b0 < s.heap.size) (hbA : ¬ A b0) (hZ : xw_Z A s s.heap) (hN : xw_N s) {F o1 o2 o3 : Nat} (k1 : ow_kd G o1 = (3, 0)) (k2 : ow_kd G o2 = (3, 9)) (k3 : ow_kd G o3 = (4, 1)) {i a1 a2 a3 : Int32} (hi1 : vp_in (i + 1) L) (ea1 : xs (i + 1).toNatClampNeg = a1) (hi2 : vp_in (i + 2) L) (ea2 : xs (i + 2).toNatClampNeg = a2) (hi3 : vp_in (i + 3) L) (ea3 : xs (i + 3).toNatClampNeg = a3) {M : om_M} {Q : om_M → Prop} {H : Heap} {locs : List Loc} {ls : Array Slot} (hcl : cells + 2 ≤ 601024) (hsl : slots + 12 ≤ 7293034) (h : wl_4 F o1 o2 o3 a1 a2 a3 M Q) (hB : ow_B G D cA ad A M s s.heap H locs) (hl : lv_has ls 8 [(0, .ref b0), (1, .ref (ad o1)), (2, .ref (ad o2)), (3, .ref (ad o3)), (4, .int i)])
    (hK : ∀ (M1 : om_M) (H : Heap) (locs : List Loc) (ls : Array Slot), Q M1 → ow_B G D cA ad A M1 s s.heap H locs → lv_has ls 8 [(0, .ref b0), (1, .ref (ad o1)), (2, .ref (ad o2)), (3, .ref (ad o3)), (4, .int i)] → W p l e room_1 s m args below meth c H locs (cells + 2) (slots + 12) Qw (F0 m 1339 ls [])) : W p l e room_1 s m args below meth c H locs cells slots Qw (F0 m 392 ls []) := by
  refine lv_aload_n hx hb dc_L_law_392 rfl (lv_at hl 1 rfl) ?_
  refine lv_aload_n hx hb dc_L_law_393 rfl (lv_at hl 0 rfl) ?_
  refine lv_iload hx hb dc_L_law_394 (lv_at hl 4 rfl) ?_
  refine lv_iconst (v := 1) hx hb dc_L_law_396 rfl ?_
  refine lv_iadd hx hb dc_L_law_397 ?_
  refine lw_sld hx hb hX hbl hbA hB.2.2.2 hi1 ea1 dc_L_law_398 ?_
  refine lv_aload_n hx hb dc_L_law_399 rfl (lv_at hl 3 rfl) ?_
  refine xw_callS (As := [.ref (ad o1), .int a1, .ref (ad o3)]) (rest := []) (maxL := 4) (mc := 1) (ms := 6) hx hb hown hts (ct_L_tieOrder l hfl G hG D cA ad F _ k1 _ _ _ k3 _ _ h) (hw_wsin mh_L_tieOrder) (xw_cd_ofW (hts _ mh_L_tieOrder)) mw_0 mw_481 mw_482 hd_L_tieOrder rfl rfl (Nat.le_of_ble_eq_true rfl) (Nat.le_of_ble_eq_true rfl) hB (hw_pre hB hZ hN) (hl.1.trans hml.symm) (Nat.le_of_ble_eq_true rfl) rfl dc_L_law_400 (lw_rc hcl (by decide)) (lw_rs hsl (by decide)) (fun q k M H locs ce hX => False.elim hX) (fun v M1 H locs h hB => ?_)
  obtain ⟨r2, rfl, h⟩ := h
  refine lv_istore hx hb dc_L_law_403 hl (by decide) rfl (fun ls hl => ?_)
  refine lv_aload_n hx hb dc_L_law_405 rfl (lv_at hl 3 rfl) ?_
  refine lv_aload_n hx hb dc_L_law_406 rfl (lv_at hl 1 rfl) ?_
  refine lv_iload hx hb dc_L_law_407 (lv_at hl 5 rfl) ?_
  refine lv_iconst (v := 1) hx hb dc_L_law_409 rfl ?_
  refine lv_iadd hx hb dc_L_law_410 ?_
  refine lw_sld hx hb hX hbl hbA hB.2.2.2 hi1 ea1 dc_L_law_411 ?_
  refine ow_calli (va_runV (As := [.int a1]) (rest := []) ⟨hx, hb, hml, hown, hts⟩ (ct_M_tieOrder l G hG D cA ad F _ k2 _ _ _ h) ⟨ow_cb 1 hts mw_914 mw_12 mw_911 rfl rfl hd_M_tieOrder ⟨Nat.le_of_ble_eq_true rfl, Nat.le_of_ble_eq_true rfl⟩, hts _ mw_912, hts _ mw_913⟩ (ow_preV hB k2 rfl) rfl rfl hl.1 rfl (lv_room (Nat.le_of_ble_eq_true rfl)) dc_L_law_412 ⟨(by have := hcl; show _ ≤ 601024; omega), (by have := hsl; show _ ≤ 7293034; omega)⟩) hB (fun r4 M3 H locs h hB => ?_)
  refine lv_istore hx hb dc_L_law_415 hl (by decide) rfl (fun ls hl => ?_)
  refine lv_aload_n hx hb dc_L_law_417 rfl (lv_at hl 4 rfl) ?_
  refine ow_calli (va_runV (As := []) (rest := []) ⟨hx, hb, hml, hown, hts⟩ (ct_M_thrown l G hG D cA ad F _ k2 _ _ h) ⟨ow_cb 0 hts mw_874 mw_12 mw_871 rfl rfl hd_M_thrown ⟨Nat.le_of_ble_eq_true rfl, Nat.le_of_ble_eq_true rfl⟩, hts _ mw_872, hts _ mw_873⟩ (ow_preV hB k2 rfl) rfl rfl hl.1 rfl (lv_room (Nat.le_of_ble_eq_true rfl)) dc_L_law_418 ⟨(by have := hcl; show _ ≤ 601024; omega), (by have := hsl; show _ ≤ 7293034; omega)⟩) hB (fun r6 M5 H locs h hB => ?_)
  refine lv_iload hx hb dc_L_law_421 (lv_at hl 1 rfl) ?_
  obtain ⟨h1, h2⟩ := h
  refine lv_icmp_eq hx hb dc_L_law_423 rfl (fun hc => ?_) (fun hc => ?_)
  · have h := h1 hc
    refine lv_iload hx hb dc_L_law_428 (lv_at hl 1 rfl) ?_
    obtain ⟨h1, h2⟩ := h
    refine lv_if_ne hx hb dc_L_law_430 rfl (fun hc => ?_) (fun hc => ?_)
    · have h := h2 hc
      refine lv_goto hx hb dc_L_law_445 rfl ?_
      refine W.widen (k := cells + 2) (n := slots + 12) (by omega) (by omega) ?_
      exact hK _ _ _ _ h hB (lv_sub hl [2, 3, 4, 5, 6] rfl)
    · have h := h1 hc
      refine lv_aload_n hx hb dc_L_law_433 rfl (lv_at hl 5 rfl) ?_
      refine lv_iconst (v := 0) hx hb dc_L_law_434 rfl ?_
      obtain ⟨hi7, h⟩ := h
      refine ow_lald hx hb hB k3 hi7 dc_L_law_435 ?_
      refine lv_iload hx hb dc_L_law_436 (lv_at hl 0 rfl) ?_
      refine lv_i2l hx hb dc_L_law_438 rfl ?_
      obtain ⟨h1, h2⟩ := h
      refine ow_lcmp_eq hx hb dc_L_law_439 dc_L_law_440 rfl (fun hc => ?_) (fun hc => ?_)
      · have h := h1 hc
        refine lv_goto hx hb dc_L_law_445 rfl ?_
        refine W.widen (k := cells + 2) (n := slots + 12) (by omega) (by omega) ?_
        exact hK _ _ _ _ h hB (lv_sub hl [2, 3, 4, 5, 6] rfl)
      · have h := h2 hc
        exact False.elim h
  · have h := h2 hc
    exact False.elim h
set_option maxHeartbeats 4000000 in
set_option maxRecDepth 100000 in
theorem lc_5 {p : Program} {l : Launch} (hfl : l.flags = Jvm.pinnedFlags ++ [Jvm.noTraceFlag]) {e : Env} {s : State} {m : MethodId} {args : Array Value} {below : List Frame} {meth : Method} {c : Code} {cells slots : Nat} {Qw : State → Prop} (hx : p.tables.exec = Jvm.exec) (hb : c.code = code) (hml : c.maxLocals = 8) (hown : s.vm.findClass "BallotDeskLaw" = some m.cls) (hts : ∀ w ∈ lw_g, w.before args s = true) {G : List (Nat × Nat)} (hG : ow_lay G) {D : va_G} {cA : Nat → ClassId} {ad : Nat → Nat} {A : Nat → Prop} {b0 L : Nat} {xs : Nat → Int32} (hX : va_X b0 L xs s s.heap) (hbl : b0 < s.heap.size) (hbA : ¬ A b0) (hZ : xw_Z A s s.heap) (hN : xw_N s) {F o1 o2 o3 : Nat} (k1 : ow_kd G o1 = (3, 0)) (k2 : ow_kd G o2 = (3, 9)) (k3 : ow_kd G o3 = (4, 1)) {i a1 a2 a3 : Int32} (hi1 : vp_in (i + 1) L) (ea1 : xs (i + 1).toNatClampNeg = a1) (hi2 : vp_in (i + 2) L) (ea2 : xs (i + 2).toNatClampNeg = a2) (hi3 : vp_in (i + 3) L) (ea3 : xs (i + 3).toNatClampNeg = a3) {M : om_M} {Q : om_M → Prop} {H : Heap} {locs : List Loc} {ls : Array Slot} (hcl : cells + 2 ≤ 601024) (hsl : slots + 12 ≤ 7293034) (h : wl_5 F o1 o2 o3 a1 a2 a3 M Q) (hB : ow_B G D cA ad A M s s.heap H locs) (hl : lv_has ls 8 [(0, .ref b0), (1, .ref (ad o1)), (2, .ref (ad o2)), (3, .ref (ad o3)), (4, .int i)])
    (hK : ∀ (M1 : om_M) (H : Heap) (locs : List Loc) (ls : Array Slot), Q M1 → ow_B G D cA ad A M1 s s.heap H locs → lv_has ls 8 [(0, .ref b0), (1, .ref (ad o1)), (2, .ref (ad o2)), (3, .ref (ad o3)), (4, .int i)] → W p l e room_1 s m args below meth c H locs (cells + 2) (slots + 12) Qw (F0 m 1339 ls [])) : W p l e room_1 s m args below meth c H locs cells slots Qw (F0 m 448 ls []) := by
  refine lv_aload_n hx hb dc_L_law_448 rfl (lv_at hl 1 rfl) ?_
  refine lv_aload_n hx hb dc_L_law_449 rfl (lv_at hl 0 rfl) ?_
  refine lv_iload hx hb dc_L_law_450 (lv_at hl 4 rfl) ?_
  refine lv_iconst (v := 1) hx hb dc_L_law_452 rfl ?_
  refine lv_iadd hx hb dc_L_law_453 ?_
  refine lw_sld hx hb hX hbl hbA hB.2.2.2 hi1 ea1 dc_L_law_454 ?_
  refine lv_aload_n hx hb dc_L_law_455 rfl (lv_at hl 3 rfl) ?_
  refine xw_callS (As := [.ref (ad o1), .int a1, .ref (ad o3)]) (rest := []) (maxL := 4) (mc := 1) (ms := 6) hx hb hown hts (ct_L_agenda l hfl G hG D cA ad F _ k1 _ _ _ k3 _ _ h) (hw_wsin mh_L_agenda) (xw_cd_ofW (hts _ mh_L_agenda)) mw_0 mw_488 mw_489 hd_L_agenda rfl rfl (Nat.le_of_ble_eq_true rfl) (Nat.le_of_ble_eq_true rfl) hB (hw_pre hB hZ hN) (hl.1.trans hml.symm) (Nat.le_of_ble_eq_true rfl) rfl dc_L_law_456 (lw_rc hcl (by decide)) (lw_rs hsl (by decide)) (fun q k M H locs ce hX => False.elim hX) (fun v M1 H locs h hB => ?_)
  obtain ⟨r2, rfl, h⟩ := h
  refine lv_istore hx hb dc_L_law_459 hl (by decide) rfl (fun ls hl => ?_)
  refine lv_aload_n hx hb dc_L_law_461 rfl (lv_at hl 3 rfl) ?_
  refine lv_aload_n hx hb dc_L_law_462 rfl (lv_at hl 1 rfl) ?_
  refine lv_iload hx hb dc_L_law_463 (lv_at hl 5 rfl) ?_
  refine lv_iconst (v := 1) hx hb dc_L_law_465 rfl ?_
  refine lv_iadd hx hb dc_L_law_466 ?_
  refine lw_sld hx hb hX hbl hbA hB.2.2.2 hi1 ea1 dc_L_law_467 ?_
  refine ow_calli (va_runV (As := [.int a1]) (rest := []) ⟨hx, hb, hml, hown, hts⟩ (ct_M_agenda l G hG D cA ad F _ k2 _ _ _ h) ⟨ow_cb 1 hts mw_922 mw_12 mw_919 rfl rfl hd_M_agenda ⟨Nat.le_of_ble_eq_true rfl, Nat.le_of_ble_eq_true rfl⟩, hts _ mw_920, hts _ mw_921⟩ (ow_preV hB k2 rfl) rfl rfl hl.1 rfl (lv_room (Nat.le_of_ble_eq_true rfl)) dc_L_law_468 ⟨(by have := hcl; show _ ≤ 601024; omega), (by have := hsl; show _ ≤ 7293034; omega)⟩) hB (fun r4 M3 H locs h hB => ?_)
  refine lv_istore hx hb dc_L_law_471 hl (by decide) rfl (fun ls hl => ?_)
  refine lv_aload_n hx hb dc_L_law_473 rfl (lv_at hl 4 rfl) ?_
  refine ow_calli (va_runV (As := []) (rest := []) ⟨hx, hb, hml, hown, hts⟩ (ct_M_thrown l G hG D cA ad F _ k2 _ _ h) ⟨ow_cb 0 hts mw_874 mw_12 mw_871 rfl rfl hd_M_thrown ⟨Nat.le_of_ble_eq_true rfl, Nat.le_of_ble_eq_true rfl⟩, hts _ mw_872, hts _ mw_873⟩ (ow_preV hB k2 rfl) rfl rfl hl.1 rfl (lv_room (Nat.le_of_ble_eq_true rfl)) dc_L_law_474 ⟨(by have := hcl; show _ ≤ 601024; omega), (by have := hsl; show _ ≤ 7293034; omega)⟩) hB (fun r6 M5 H locs h hB => ?_)
  refine lv_iload hx hb dc_L_law_477 (lv_at hl 1 rfl) ?_
  obtain ⟨h1, h2⟩ := h
  refine lv_icmp_eq hx hb dc_L_law_479 rfl (fun hc => ?_) (fun hc => ?_)
  · have h := h1 hc
    refine lv_iload hx hb dc_L_law_484 (lv_at hl 1 rfl) ?_
    obtain ⟨h1, h2⟩ := h
    refine lv_if_ne hx hb dc_L_law_486 rfl (fun hc => ?_) (fun hc => ?_)
    · have h := h2 hc
      refine lv_goto hx hb dc_L_law_501 rfl ?_
      refine W.widen (k := cells + 2) (n := slots + 12) (by omega) (by omega) ?_
      exact hK _ _ _ _ h hB (lv_sub hl [2, 3, 4, 5, 6] rfl)
    · have h := h1 hc
      refine lv_aload_n hx hb dc_L_law_489 rfl (lv_at hl 5 rfl) ?_
      refine lv_iconst (v := 0) hx hb dc_L_law_490 rfl ?_
      obtain ⟨hi7, h⟩ := h
      refine ow_lald hx hb hB k3 hi7 dc_L_law_491 ?_
      refine lv_iload hx hb dc_L_law_492 (lv_at hl 0 rfl) ?_
      refine lv_i2l hx hb dc_L_law_494 rfl ?_
      obtain ⟨h1, h2⟩ := h
      refine ow_lcmp_eq hx hb dc_L_law_495 dc_L_law_496 rfl (fun hc => ?_) (fun hc => ?_)
      · have h := h1 hc
        refine lv_goto hx hb dc_L_law_501 rfl ?_
        refine W.widen (k := cells + 2) (n := slots + 12) (by omega) (by omega) ?_
        exact hK _ _ _ _ h hB (lv_sub hl [2, 3, 4, 5, 6] rfl)
      · have h := h2 hc
        exact False.elim h
  · have h := h2 hc
    exact False.elim h
set_option maxHeartbeats 4000000 in
set_option maxRecDepth 100000 in
theorem lc_6 {p : Program} {l : Launch} (hfl : l.flags = Jvm.pinnedFlags ++ [Jvm.noTraceFlag]) {e : Env} {s : State} {m : MethodId} {args : Array Value} {below : List Frame} {meth : Method} {c : Code} {cells slots : Nat} {Qw : State → Prop} (hx : p.tables.exec = Jvm.exec) (hb : c.code = code) (hml : c.maxLocals = 8) (hown : s.vm.findClass "BallotDeskLaw" = some m.cls) (hts : ∀ w ∈ lw_g, w.before args s = true) {G : List (Nat × Nat)} (hG : ow_lay G) {D : va_G} {cA : Nat → ClassId} {ad : Nat → Nat} {A : Nat → Prop} {b0 L : Nat} {xs : Nat → Int32} (hX : va_X b0 L xs s s.heap) (hbl : b0 < s.heap.size) (hbA : ¬ A b0) (hZ : xw_Z A s s.heap) (hN : xw_N s) {F o1 o2 o3 : Nat} (k1 : ow_kd G o1 = (3, 0)) (k2 : ow_kd G o2 = (3, 9)) (k3 : ow_kd G o3 = (4, 1)) {i a1 a2 a3 : Int32} (hi1 : vp_in (i + 1) L) (ea1 : xs (i + 1).toNatClampNeg = a1) (hi2 : vp_in (i + 2) L) (ea2 : xs (i + 2).toNatClampNeg = a2) (hi3 : vp_in (i + 3) L) (ea3 : xs (i + 3).toNatClampNeg = a3) {M : om_M} {Q : om_M → Prop} {H : Heap} {locs : List Loc} {ls : Array Slot} (hcl : cells + 2 ≤ 601024) (hsl : slots + 12 ≤ 7293034) (h : wl_6 F o1 o2 o3 a1 a2 a3 M Q) (hB : ow_B G D cA ad A M s s.heap H locs) (hl : lv_has ls 8 [(0, .ref b0), (1, .ref (ad o1)), (2, .ref (ad o2)), (3, .ref (ad o3)), (4, .int i)])
    (hK : ∀ (M1 : om_M) (H : Heap) (locs : List Loc) (ls : Array Slot), Q M1 → ow_B G D cA ad A M1 s s.heap H locs → lv_has ls 8 [(0, .ref b0), (1, .ref (ad o1)), (2, .ref (ad o2)), (3, .ref (ad o3)), (4, .int i)] → W p l e room_1 s m args below meth c H locs (cells + 2) (slots + 12) Qw (F0 m 1339 ls [])) : W p l e room_1 s m args below meth c H locs cells slots Qw (F0 m 504 ls []) := by
  refine lv_aload_n hx hb dc_L_law_504 rfl (lv_at hl 1 rfl) ?_
  refine lv_aload_n hx hb dc_L_law_505 rfl (lv_at hl 0 rfl) ?_
  refine lv_iload hx hb dc_L_law_506 (lv_at hl 4 rfl) ?_
  refine lv_iconst (v := 1) hx hb dc_L_law_508 rfl ?_
  refine lv_iadd hx hb dc_L_law_509 ?_
  refine lw_sld hx hb hX hbl hbA hB.2.2.2 hi1 ea1 dc_L_law_510 ?_
  refine lv_aload_n hx hb dc_L_law_511 rfl (lv_at hl 0 rfl) ?_
  refine lv_iload hx hb dc_L_law_512 (lv_at hl 4 rfl) ?_
  refine lv_iconst (v := 2) hx hb dc_L_law_514 rfl ?_
  refine lv_iadd hx hb dc_L_law_515 ?_
  refine lw_sld hx hb hX hbl hbA hB.2.2.2 hi2 ea2 dc_L_law_516 ?_
  refine lv_aload_n hx hb dc_L_law_517 rfl (lv_at hl 3 rfl) ?_
  refine xw_callS (As := [.ref (ad o1), .int a1, .int a2, .ref (ad o3)]) (rest := []) (maxL := 5) (mc := 2) (ms := 12) hx hb hown hts (ct_L_weight l hfl G hG D cA ad F _ k1 _ _ _ _ k3 _ _ h) (hw_wsin mh_L_weight) (xw_cd_ofW (hts _ mh_L_weight)) mw_0 mw_495 mw_496 hd_L_weight rfl rfl (Nat.le_of_ble_eq_true rfl) (Nat.le_of_ble_eq_true rfl) hB (hw_pre hB hZ hN) (hl.1.trans hml.symm) (Nat.le_of_ble_eq_true rfl) rfl dc_L_law_518 (lw_rc hcl (by decide)) (lw_rs hsl (by decide)) (fun q k M H locs ce hX => False.elim hX) (fun v M1 H locs h hB => ?_)
  obtain ⟨r2, rfl, h⟩ := h
  refine lv_istore hx hb dc_L_law_521 hl (by decide) rfl (fun ls hl => ?_)
  refine lv_aload_n hx hb dc_L_law_523 rfl (lv_at hl 3 rfl) ?_
  refine lv_aload_n hx hb dc_L_law_524 rfl (lv_at hl 1 rfl) ?_
  refine lv_iload hx hb dc_L_law_525 (lv_at hl 5 rfl) ?_
  refine lv_iconst (v := 1) hx hb dc_L_law_527 rfl ?_
  refine lv_iadd hx hb dc_L_law_528 ?_
  refine lw_sld hx hb hX hbl hbA hB.2.2.2 hi1 ea1 dc_L_law_529 ?_
  refine lv_aload_n hx hb dc_L_law_530 rfl (lv_at hl 1 rfl) ?_
  refine lv_iload hx hb dc_L_law_531 (lv_at hl 5 rfl) ?_
  refine lv_iconst (v := 2) hx hb dc_L_law_533 rfl ?_
  refine lv_iadd hx hb dc_L_law_534 ?_
  refine lw_sld hx hb hX hbl hbA hB.2.2.2 hi2 ea2 dc_L_law_535 ?_
  refine ow_calli (va_runV (As := [.int a1, .int a2]) (rest := []) ⟨hx, hb, hml, hown, hts⟩ (ct_M_weight l G hG D cA ad F _ k2 _ _ _ _ h) ⟨ow_cb 2 hts mw_926 mw_12 mw_923 rfl rfl hd_M_weight ⟨Nat.le_of_ble_eq_true rfl, Nat.le_of_ble_eq_true rfl⟩, hts _ mw_924, hts _ mw_925⟩ (ow_preV hB k2 rfl) rfl rfl hl.1 rfl (lv_room (Nat.le_of_ble_eq_true rfl)) dc_L_law_536 ⟨(by have := hcl; show _ ≤ 601024; omega), (by have := hsl; show _ ≤ 7293034; omega)⟩) hB (fun r4 M3 H locs h hB => ?_)
  refine lv_istore hx hb dc_L_law_539 hl (by decide) rfl (fun ls hl => ?_)
  refine lv_aload_n hx hb dc_L_law_541 rfl (lv_at hl 4 rfl) ?_
  refine ow_calli (va_runV (As := []) (rest := []) ⟨hx, hb, hml, hown, hts⟩ (ct_M_thrown l G hG D cA ad F _ k2 _ _ h) ⟨ow_cb 0 hts mw_874 mw_12 mw_871 rfl rfl hd_M_thrown ⟨Nat.le_of_ble_eq_true rfl, Nat.le_of_ble_eq_true rfl⟩, hts _ mw_872, hts _ mw_873⟩ (ow_preV hB k2 rfl) rfl rfl hl.1 rfl (lv_room (Nat.le_of_ble_eq_true rfl)) dc_L_law_542 ⟨(by have := hcl; show _ ≤ 601024; omega), (by have := hsl; show _ ≤ 7293034; omega)⟩) hB (fun r6 M5 H locs h hB => ?_)
  refine lv_iload hx hb dc_L_law_545 (lv_at hl 1 rfl) ?_
  obtain ⟨h1, h2⟩ := h
  refine lv_icmp_eq hx hb dc_L_law_547 rfl (fun hc => ?_) (fun hc => ?_)
  · have h := h1 hc
    refine lv_iload hx hb dc_L_law_552 (lv_at hl 1 rfl) ?_
    obtain ⟨h1, h2⟩ := h
    refine lv_if_ne hx hb dc_L_law_554 rfl (fun hc => ?_) (fun hc => ?_)
    · have h := h2 hc
      refine lv_goto hx hb dc_L_law_569 rfl ?_
      refine W.widen (k := cells + 2) (n := slots + 12) (by omega) (by omega) ?_
      exact hK _ _ _ _ h hB (lv_sub hl [2, 3, 4, 5, 6] rfl)
    · have h := h1 hc
      refine lv_aload_n hx hb dc_L_law_557 rfl (lv_at hl 5 rfl) ?_
      refine lv_iconst (v := 0) hx hb dc_L_law_558 rfl ?_
      obtain ⟨hi7, h⟩ := h
      refine ow_lald hx hb hB k3 hi7 dc_L_law_559 ?_
      refine lv_iload hx hb dc_L_law_560 (lv_at hl 0 rfl) ?_
      refine lv_i2l hx hb dc_L_law_562 rfl ?_
      obtain ⟨h1, h2⟩ := h
      refine ow_lcmp_eq hx hb dc_L_law_563 dc_L_law_564 rfl (fun hc => ?_) (fun hc => ?_)
      · have h := h1 hc
        refine lv_goto hx hb dc_L_law_569 rfl ?_
        refine W.widen (k := cells + 2) (n := slots + 12) (by omega) (by omega) ?_
        exact hK _ _ _ _ h hB (lv_sub hl [2, 3, 4, 5, 6] rfl)
      · have h := h2 hc
        exact False.elim h
  · have h := h2 hc
    exact False.elim h
set_option maxHeartbeats 4000000 in
set_option maxRecDepth 100000 in
theorem lc_7 {p : Program} {l : Launch} (hfl : l.flags = Jvm.pinnedFlags ++ [Jvm.noTraceFlag]) {e : Env} {s : State} {m : MethodId} {args : Array Value} {below : List Frame} {meth : Method} {c : Code} {cells slots : Nat} {Qw : State → Prop} (hx : p.tables.exec = Jvm.exec) (hb : c.code = code) (hml : c.maxLocals = 8) (hown : s.vm.findClass "BallotDeskLaw" = some m.cls) (hts : ∀ w ∈ lw_g, w.before args s = true) {G : List (Nat × Nat)} (hG : ow_lay G) {D : va_G} {cA : Nat → ClassId} {ad : Nat → Nat} {A : Nat → Prop} {b0 L : Nat} {xs : Nat → Int32} (hX : va_X b0 L xs s s.heap) (hbl : b0 < s.heap.size) (hbA : ¬ A b0) (hZ : xw_Z A s s.heap) (hN : xw_N s) {F o1 o2 o3 : Nat} (k1 : ow_kd G o1 = (3, 0)) (k2 : ow_kd G o2 = (3, 9)) (k3 : ow_kd G o3 = (4, 1)) {i a1 a2 a3 : Int32} (hi1 : vp_in (i + 1) L) (ea1 : xs (i + 1).toNatClampNeg = a1) (hi2 : vp_in (i + 2) L) (ea2 : xs (i + 2).toNatClampNeg = a2) (hi3 : vp_in (i + 3) L) (ea3 : xs (i + 3).toNatClampNeg = a3) {M : om_M} {Q : om_M → Prop} {H : Heap} {locs : List Loc} {ls : Array Slot} (hcl : cells + 2 ≤ 601024) (hsl : slots + 12 ≤ 7293034) (h : wl_7 F o1 o2 o3 a1 a2 a3 M Q) (hB : ow_B G D cA ad A M s s.heap H locs) (hl : lv_has ls 8 [(0, .ref b0), (1, .ref (ad o1)), (2, .ref (ad o2)), (3, .ref (ad o3)), (4, .int i)])
    (hK : ∀ (M1 : om_M) (H : Heap) (locs : List Loc) (ls : Array Slot), Q M1 → ow_B G D cA ad A M1 s s.heap H locs → lv_has ls 8 [(0, .ref b0), (1, .ref (ad o1)), (2, .ref (ad o2)), (3, .ref (ad o3)), (4, .int i)] → W p l e room_1 s m args below meth c H locs (cells + 2) (slots + 12) Qw (F0 m 1339 ls [])) : W p l e room_1 s m args below meth c H locs cells slots Qw (F0 m 572 ls []) := by
  refine lv_aload_n hx hb dc_L_law_572 rfl (lv_at hl 1 rfl) ?_
  refine lv_aload_n hx hb dc_L_law_573 rfl (lv_at hl 0 rfl) ?_
  refine lv_iload hx hb dc_L_law_574 (lv_at hl 4 rfl) ?_
  refine lv_iconst (v := 1) hx hb dc_L_law_576 rfl ?_
  refine lv_iadd hx hb dc_L_law_577 ?_
  refine lw_sld hx hb hX hbl hbA hB.2.2.2 hi1 ea1 dc_L_law_578 ?_
  refine lv_aload_n hx hb dc_L_law_579 rfl (lv_at hl 3 rfl) ?_
  refine xw_callS (As := [.ref (ad o1), .int a1, .ref (ad o3)]) (rest := []) (maxL := 4) (mc := 1) (ms := 6) hx hb hown hts (ct_L_winners l hfl G hG D cA ad F _ k1 _ _ _ k3 _ _ h) (hw_wsin mh_L_winners) (xw_cd_ofW (hts _ mh_L_winners)) mw_0 mw_502 mw_503 hd_L_winners rfl rfl (Nat.le_of_ble_eq_true rfl) (Nat.le_of_ble_eq_true rfl) hB (hw_pre hB hZ hN) (hl.1.trans hml.symm) (Nat.le_of_ble_eq_true rfl) rfl dc_L_law_580 (lw_rc hcl (by decide)) (lw_rs hsl (by decide)) (fun q k M H locs ce hX => False.elim hX) (fun v M1 H locs h hB => ?_)
  obtain ⟨r2, rfl, h⟩ := h
  refine lv_istore hx hb dc_L_law_583 hl (by decide) rfl (fun ls hl => ?_)
  refine lv_aload_n hx hb dc_L_law_585 rfl (lv_at hl 3 rfl) ?_
  refine lv_aload_n hx hb dc_L_law_586 rfl (lv_at hl 1 rfl) ?_
  refine lv_iload hx hb dc_L_law_587 (lv_at hl 5 rfl) ?_
  refine lv_iconst (v := 1) hx hb dc_L_law_589 rfl ?_
  refine lv_iadd hx hb dc_L_law_590 ?_
  refine lw_sld hx hb hX hbl hbA hB.2.2.2 hi1 ea1 dc_L_law_591 ?_
  refine ow_calli (va_runV (As := [.int a1]) (rest := []) ⟨hx, hb, hml, hown, hts⟩ (ct_M_winners l G hG D cA ad F _ k2 _ _ _ h) ⟨ow_cb 1 hts mw_930 mw_12 mw_927 rfl rfl hd_M_winners ⟨Nat.le_of_ble_eq_true rfl, Nat.le_of_ble_eq_true rfl⟩, hts _ mw_928, hts _ mw_929⟩ (ow_preV hB k2 rfl) rfl rfl hl.1 rfl (lv_room (Nat.le_of_ble_eq_true rfl)) dc_L_law_592 ⟨(by have := hcl; show _ ≤ 601024; omega), (by have := hsl; show _ ≤ 7293034; omega)⟩) hB (fun r4 M3 H locs h hB => ?_)
  refine lv_istore hx hb dc_L_law_595 hl (by decide) rfl (fun ls hl => ?_)
  refine lv_aload_n hx hb dc_L_law_597 rfl (lv_at hl 4 rfl) ?_
  refine ow_calli (va_runV (As := []) (rest := []) ⟨hx, hb, hml, hown, hts⟩ (ct_M_thrown l G hG D cA ad F _ k2 _ _ h) ⟨ow_cb 0 hts mw_874 mw_12 mw_871 rfl rfl hd_M_thrown ⟨Nat.le_of_ble_eq_true rfl, Nat.le_of_ble_eq_true rfl⟩, hts _ mw_872, hts _ mw_873⟩ (ow_preV hB k2 rfl) rfl rfl hl.1 rfl (lv_room (Nat.le_of_ble_eq_true rfl)) dc_L_law_598 ⟨(by have := hcl; show _ ≤ 601024; omega), (by have := hsl; show _ ≤ 7293034; omega)⟩) hB (fun r6 M5 H locs h hB => ?_)
  refine lv_iload hx hb dc_L_law_601 (lv_at hl 1 rfl) ?_
  obtain ⟨h1, h2⟩ := h
  refine lv_icmp_eq hx hb dc_L_law_603 rfl (fun hc => ?_) (fun hc => ?_)
  · have h := h1 hc
    refine lv_iload hx hb dc_L_law_608 (lv_at hl 1 rfl) ?_
    obtain ⟨h1, h2⟩ := h
    refine lv_if_ne hx hb dc_L_law_610 rfl (fun hc => ?_) (fun hc => ?_)
    · have h := h2 hc
      refine lv_goto hx hb dc_L_law_625 rfl ?_
      refine W.widen (k := cells + 2) (n := slots + 12) (by omega) (by omega) ?_
      exact hK _ _ _ _ h hB (lv_sub hl [2, 3, 4, 5, 6] rfl)
    · have h := h1 hc
      refine lv_aload_n hx hb dc_L_law_613 rfl (lv_at hl 5 rfl) ?_
      refine lv_iconst (v := 0) hx hb dc_L_law_614 rfl ?_
      obtain ⟨hi7, h⟩ := h
      refine ow_lald hx hb hB k3 hi7 dc_L_law_615 ?_
      refine lv_iload hx hb dc_L_law_616 (lv_at hl 0 rfl) ?_
      refine lv_i2l hx hb dc_L_law_618 rfl ?_
      obtain ⟨h1, h2⟩ := h
      refine ow_lcmp_eq hx hb dc_L_law_619 dc_L_law_620 rfl (fun hc => ?_) (fun hc => ?_)
      · have h := h1 hc
        refine lv_goto hx hb dc_L_law_625 rfl ?_
        refine W.widen (k := cells + 2) (n := slots + 12) (by omega) (by omega) ?_
        exact hK _ _ _ _ h hB (lv_sub hl [2, 3, 4, 5, 6] rfl)
      · have h := h2 hc
        exact False.elim h
  · have h := h2 hc
    exact False.elim h
set_option maxHeartbeats 4000000 in
set_option maxRecDepth 100000 in
theorem lc_8 {p : Program} {l : Launch} (hfl : l.flags = Jvm.pinnedFlags ++ [Jvm.noTraceFlag]) {e : Env} {s : State} {m : MethodId} {args : Array Value} {below : List Frame} {meth : Method} {c : Code} {cells slots : Nat} {Qw : State → Prop} (hx : p.tables.exec = Jvm.exec) (hb : c.code = code) (hml : c.maxLocals = 8) (hown : s.vm.findClass "BallotDeskLaw" = some m.cls) (hts : ∀ w ∈ lw_g, w.before args s = true) {G : List (Nat × Nat)} (hG : ow_lay G) {D : va_G} {cA : Nat → ClassId} {ad : Nat → Nat} {A : Nat → Prop} {b0 L : Nat} {xs : Nat → Int32} (hX : va_X b0 L xs s s.heap) (hbl : b0 < s.heap.size) (hbA : ¬ A b0) (hZ : xw_Z A s s.heap) (hN : xw_N s) {F o1 o2 o3 : Nat} (k1 : ow_kd G o1 = (3, 0)) (k2 : ow_kd G o2 = (3, 9)) (k3 : ow_kd G o3 = (4, 1)) {i a1 a2 a3 : Int32} (hi1 : vp_in (i + 1) L) (ea1 : xs (i + 1).toNatClampNeg = a1) (hi2 : vp_in (i + 2) L) (ea2 : xs (i + 2).toNatClampNeg = a2) (hi3 : vp_in (i + 3) L) (ea3 : xs (i + 3).toNatClampNeg = a3) {M : om_M} {Q : om_M → Prop} {H : Heap} {locs : List Loc} {ls : Array Slot} (hcl : cells + 2 ≤ 601024) (hsl : slots + 12 ≤ 7293034) (h : wl_8 F o1 o2 o3 a1 a2 a3 M Q) (hB : ow_B G D cA ad A M s s.heap H locs) (hl : lv_has ls 8 [(0, .ref b0), (1, .ref (ad o1)), (2, .ref (ad o2)), (3, .ref (ad o3)), (4, .int i)])
    (hK : ∀ (M1 : om_M) (H : Heap) (locs : List Loc) (ls : Array Slot), Q M1 → ow_B G D cA ad A M1 s s.heap H locs → lv_has ls 8 [(0, .ref b0), (1, .ref (ad o1)), (2, .ref (ad o2)), (3, .ref (ad o3)), (4, .int i)] → W p l e room_1 s m args below meth c H locs (cells + 2) (slots + 12) Qw (F0 m 1339 ls [])) : W p l e room_1 s m args below meth c H locs cells slots Qw (F0 m 628 ls []) := by
  refine lv_aload_n hx hb dc_L_law_628 rfl (lv_at hl 1 rfl) ?_
  refine lv_aload_n hx hb dc_L_law_629 rfl (lv_at hl 0 rfl) ?_
  refine lv_iload hx hb dc_L_law_630 (lv_at hl 4 rfl) ?_
  refine lv_iconst (v := 1) hx hb dc_L_law_632 rfl ?_
  refine lv_iadd hx hb dc_L_law_633 ?_
  refine lw_sld hx hb hX hbl hbA hB.2.2.2 hi1 ea1 dc_L_law_634 ?_
  refine lv_aload_n hx hb dc_L_law_635 rfl (lv_at hl 3 rfl) ?_
  refine xw_callS (As := [.ref (ad o1), .int a1, .ref (ad o3)]) (rest := []) (maxL := 4) (mc := 1) (ms := 6) hx hb hown hts (ct_L_winner l hfl G hG D cA ad F _ k1 _ _ _ k3 _ _ h) (hw_wsin mh_L_winner) (xw_cd_ofW (hts _ mh_L_winner)) mw_0 mw_605 mw_606 hd_L_winner rfl rfl (Nat.le_of_ble_eq_true rfl) (Nat.le_of_ble_eq_true rfl) hB (hw_pre hB hZ hN) (hl.1.trans hml.symm) (Nat.le_of_ble_eq_true rfl) rfl dc_L_law_636 (lw_rc hcl (by decide)) (lw_rs hsl (by decide)) (fun q k M H locs ce hX => False.elim hX) (fun v M1 H locs h hB => ?_)
  obtain ⟨r2, rfl, h⟩ := h
  refine lv_istore hx hb dc_L_law_639 hl (by decide) rfl (fun ls hl => ?_)
  refine lv_aload_n hx hb dc_L_law_641 rfl (lv_at hl 3 rfl) ?_
  refine lv_aload_n hx hb dc_L_law_642 rfl (lv_at hl 1 rfl) ?_
  refine lv_iload hx hb dc_L_law_643 (lv_at hl 5 rfl) ?_
  refine lv_iconst (v := 1) hx hb dc_L_law_645 rfl ?_
  refine lv_iadd hx hb dc_L_law_646 ?_
  refine lw_sld hx hb hX hbl hbA hB.2.2.2 hi1 ea1 dc_L_law_647 ?_
  refine ow_calli (va_runV (As := [.int a1]) (rest := []) ⟨hx, hb, hml, hown, hts⟩ (ct_M_winner l G hG D cA ad F _ k2 _ _ _ h) ⟨ow_cb 1 hts mw_1033 mw_12 mw_1030 rfl rfl hd_M_winner ⟨Nat.le_of_ble_eq_true rfl, Nat.le_of_ble_eq_true rfl⟩, hts _ mw_1031, hts _ mw_1032⟩ (ow_preV hB k2 rfl) rfl rfl hl.1 rfl (lv_room (Nat.le_of_ble_eq_true rfl)) dc_L_law_648 ⟨(by have := hcl; show _ ≤ 601024; omega), (by have := hsl; show _ ≤ 7293034; omega)⟩) hB (fun r4 M3 H locs h hB => ?_)
  refine lv_istore hx hb dc_L_law_651 hl (by decide) rfl (fun ls hl => ?_)
  refine lv_aload_n hx hb dc_L_law_653 rfl (lv_at hl 4 rfl) ?_
  refine ow_calli (va_runV (As := []) (rest := []) ⟨hx, hb, hml, hown, hts⟩ (ct_M_thrown l G hG D cA ad F _ k2 _ _ h) ⟨ow_cb 0 hts mw_874 mw_12 mw_871 rfl rfl hd_M_thrown ⟨Nat.le_of_ble_eq_true rfl, Nat.le_of_ble_eq_true rfl⟩, hts _ mw_872, hts _ mw_873⟩ (ow_preV hB k2 rfl) rfl rfl hl.1 rfl (lv_room (Nat.le_of_ble_eq_true rfl)) dc_L_law_654 ⟨(by have := hcl; show _ ≤ 601024; omega), (by have := hsl; show _ ≤ 7293034; omega)⟩) hB (fun r6 M5 H locs h hB => ?_)
  refine lv_iload hx hb dc_L_law_657 (lv_at hl 1 rfl) ?_
  obtain ⟨h1, h2⟩ := h
  refine lv_icmp_eq hx hb dc_L_law_659 rfl (fun hc => ?_) (fun hc => ?_)
  · have h := h1 hc
    refine lv_iload hx hb dc_L_law_664 (lv_at hl 1 rfl) ?_
    obtain ⟨h1, h2⟩ := h
    refine lv_if_ne hx hb dc_L_law_666 rfl (fun hc => ?_) (fun hc => ?_)
    · have h := h2 hc
      refine lv_goto hx hb dc_L_law_681 rfl ?_
      refine W.widen (k := cells + 2) (n := slots + 12) (by omega) (by omega) ?_
      exact hK _ _ _ _ h hB (lv_sub hl [2, 3, 4, 5, 6] rfl)
    · have h := h1 hc
      refine lv_aload_n hx hb dc_L_law_669 rfl (lv_at hl 5 rfl) ?_
      refine lv_iconst (v := 0) hx hb dc_L_law_670 rfl ?_
      obtain ⟨hi7, h⟩ := h
      refine ow_lald hx hb hB k3 hi7 dc_L_law_671 ?_
      refine lv_iload hx hb dc_L_law_672 (lv_at hl 0 rfl) ?_
      refine lv_i2l hx hb dc_L_law_674 rfl ?_
      obtain ⟨h1, h2⟩ := h
      refine ow_lcmp_eq hx hb dc_L_law_675 dc_L_law_676 rfl (fun hc => ?_) (fun hc => ?_)
      · have h := h1 hc
        refine lv_goto hx hb dc_L_law_681 rfl ?_
        refine W.widen (k := cells + 2) (n := slots + 12) (by omega) (by omega) ?_
        exact hK _ _ _ _ h hB (lv_sub hl [2, 3, 4, 5, 6] rfl)
      · have h := h2 hc
        exact False.elim h
  · have h := h2 hc
    exact False.elim h
set_option maxHeartbeats 4000000 in
set_option maxRecDepth 100000 in
theorem lc_9 {p : Program} {l : Launch} (hfl : l.flags = Jvm.pinnedFlags ++ [Jvm.noTraceFlag]) {e : Env} {s : State} {m : MethodId} {args : Array Value} {below : List Frame} {meth : Method} {c : Code} {cells slots : Nat} {Qw : State → Prop} (hx : p.tables.exec = Jvm.exec) (hb : c.code = code) (hml : c.maxLocals = 8) (hown : s.vm.findClass "BallotDeskLaw" = some m.cls) (hts : ∀ w ∈ lw_g, w.before args s = true) {G : List (Nat × Nat)} (hG : ow_lay G) {D : va_G} {cA : Nat → ClassId} {ad : Nat → Nat} {A : Nat → Prop} {b0 L : Nat} {xs : Nat → Int32} (hX : va_X b0 L xs s s.heap) (hbl : b0 < s.heap.size) (hbA : ¬ A b0) (hZ : xw_Z A s s.heap) (hN : xw_N s) {F o1 o2 o3 : Nat} (k1 : ow_kd G o1 = (3, 0)) (k2 : ow_kd G o2 = (3, 9)) (k3 : ow_kd G o3 = (4, 1)) {i a1 a2 a3 : Int32} (hi1 : vp_in (i + 1) L) (ea1 : xs (i + 1).toNatClampNeg = a1) (hi2 : vp_in (i + 2) L) (ea2 : xs (i + 2).toNatClampNeg = a2) (hi3 : vp_in (i + 3) L) (ea3 : xs (i + 3).toNatClampNeg = a3) {M : om_M} {Q : om_M → Prop} {H : Heap} {locs : List Loc} {ls : Array Slot} (hcl : cells + 2 ≤ 601024) (hsl : slots + 12 ≤ 7293034) (h : wl_9 F o1 o2 o3 a1 a2 a3 M Q) (hB : ow_B G D cA ad A M s s.heap H locs) (hl : lv_has ls 8 [(0, .ref b0), (1, .ref (ad o1)), (2, .ref (ad o2)), (3, .ref (ad o3)), (4, .int i)])
    (hK : ∀ (M1 : om_M) (H : Heap) (locs : List Loc) (ls : Array Slot), Q M1 → ow_B G D cA ad A M1 s s.heap H locs → lv_has ls 8 [(0, .ref b0), (1, .ref (ad o1)), (2, .ref (ad o2)), (3, .ref (ad o3)), (4, .int i)] → W p l e room_1 s m args below meth c H locs (cells + 2) (slots + 12) Qw (F0 m 1339 ls [])) : W p l e room_1 s m args below meth c H locs cells slots Qw (F0 m 684 ls []) := by
  refine lv_aload_n hx hb dc_L_law_684 rfl (lv_at hl 1 rfl) ?_
  refine lv_aload_n hx hb dc_L_law_685 rfl (lv_at hl 0 rfl) ?_
  refine lv_iload hx hb dc_L_law_686 (lv_at hl 4 rfl) ?_
  refine lv_iconst (v := 1) hx hb dc_L_law_688 rfl ?_
  refine lv_iadd hx hb dc_L_law_689 ?_
  refine lw_sld hx hb hX hbl hbA hB.2.2.2 hi1 ea1 dc_L_law_690 ?_
  refine lv_aload_n hx hb dc_L_law_691 rfl (lv_at hl 0 rfl) ?_
  refine lv_iload hx hb dc_L_law_692 (lv_at hl 4 rfl) ?_
  refine lv_iconst (v := 2) hx hb dc_L_law_694 rfl ?_
  refine lv_iadd hx hb dc_L_law_695 ?_
  refine lw_sld hx hb hX hbl hbA hB.2.2.2 hi2 ea2 dc_L_law_696 ?_
  refine lv_aload_n hx hb dc_L_law_697 rfl (lv_at hl 3 rfl) ?_
  refine xw_callS (As := [.ref (ad o1), .int a1, .int a2, .ref (ad o3)]) (rest := []) (maxL := 5) (mc := 2) (ms := 12) hx hb hown hts (ct_L_score l hfl G hG D cA ad F _ k1 _ _ _ _ k3 _ _ h) (hw_wsin mh_L_score) (xw_cd_ofW (hts _ mh_L_score)) mw_0 mw_617 mw_618 hd_L_score rfl rfl (Nat.le_of_ble_eq_true rfl) (Nat.le_of_ble_eq_true rfl) hB (hw_pre hB hZ hN) (hl.1.trans hml.symm) (Nat.le_of_ble_eq_true rfl) rfl dc_L_law_698 (lw_rc hcl (by decide)) (lw_rs hsl (by decide)) (fun q k M H locs ce hX => False.elim hX) (fun v M1 H locs h hB => ?_)
  obtain ⟨r2, rfl, h⟩ := h
  refine lv_istore hx hb dc_L_law_701 hl (by decide) rfl (fun ls hl => ?_)
  refine lv_aload_n hx hb dc_L_law_703 rfl (lv_at hl 3 rfl) ?_
  refine lv_aload_n hx hb dc_L_law_704 rfl (lv_at hl 1 rfl) ?_
  refine lv_iload hx hb dc_L_law_705 (lv_at hl 5 rfl) ?_
  refine lv_iconst (v := 1) hx hb dc_L_law_707 rfl ?_
  refine lv_iadd hx hb dc_L_law_708 ?_
  refine lw_sld hx hb hX hbl hbA hB.2.2.2 hi1 ea1 dc_L_law_709 ?_
  refine lv_aload_n hx hb dc_L_law_710 rfl (lv_at hl 1 rfl) ?_
  refine lv_iload hx hb dc_L_law_711 (lv_at hl 5 rfl) ?_
  refine lv_iconst (v := 2) hx hb dc_L_law_713 rfl ?_
  refine lv_iadd hx hb dc_L_law_714 ?_
  refine lw_sld hx hb hX hbl hbA hB.2.2.2 hi2 ea2 dc_L_law_715 ?_
  refine ow_calll (va_runV (As := [.int a1, .int a2]) (rest := []) ⟨hx, hb, hml, hown, hts⟩ (ct_M_score l G hG D cA ad F _ k2 _ _ _ _ h) ⟨ow_cb 2 hts mw_1041 mw_12 mw_1038 rfl rfl hd_M_score ⟨Nat.le_of_ble_eq_true rfl, Nat.le_of_ble_eq_true rfl⟩, hts _ mw_1039, hts _ mw_1040⟩ (ow_preV hB k2 rfl) rfl rfl hl.1 rfl (lv_room (Nat.le_of_ble_eq_true rfl)) dc_L_law_716 ⟨(by have := hcl; show _ ≤ 601024; omega), (by have := hsl; show _ ≤ 7293034; omega)⟩) hB (fun r4 M3 H locs h hB => ?_)
  refine lv_lstore hx hb dc_L_law_719 hl (by decide) rfl (fun ls hl => ?_)
  refine lv_aload_n hx hb dc_L_law_721 rfl (lv_at hl 4 rfl) ?_
  refine ow_calli (va_runV (As := []) (rest := []) ⟨hx, hb, hml, hown, hts⟩ (ct_M_thrown l G hG D cA ad F _ k2 _ _ h) ⟨ow_cb 0 hts mw_874 mw_12 mw_871 rfl rfl hd_M_thrown ⟨Nat.le_of_ble_eq_true rfl, Nat.le_of_ble_eq_true rfl⟩, hts _ mw_872, hts _ mw_873⟩ (ow_preV hB k2 rfl) rfl rfl hl.1 rfl (lv_room (Nat.le_of_ble_eq_true rfl)) dc_L_law_722 ⟨(by have := hcl; show _ ≤ 601024; omega), (by have := hsl; show _ ≤ 7293034; omega)⟩) hB (fun r6 M5 H locs h hB => ?_)
  refine lv_iload hx hb dc_L_law_725 (lv_at hl 1 rfl) ?_
  obtain ⟨h1, h2⟩ := h
  refine lv_icmp_eq hx hb dc_L_law_727 rfl (fun hc => ?_) (fun hc => ?_)
  · have h := h1 hc
    refine lv_iload hx hb dc_L_law_732 (lv_at hl 1 rfl) ?_
    obtain ⟨h1, h2⟩ := h
    refine lv_if_ne hx hb dc_L_law_734 rfl (fun hc => ?_) (fun hc => ?_)
    · have h := h2 hc
      refine lv_goto hx hb dc_L_law_748 rfl ?_
      refine W.widen (k := cells + 2) (n := slots + 12) (by omega) (by omega) ?_
      exact hK _ _ _ _ h hB (lv_sub hl [2, 3, 4, 5, 6] rfl)
    · have h := h1 hc
      refine lv_aload_n hx hb dc_L_law_737 rfl (lv_at hl 5 rfl) ?_
      refine lv_iconst (v := 0) hx hb dc_L_law_738 rfl ?_
      obtain ⟨hi7, h⟩ := h
      refine ow_lald hx hb hB k3 hi7 dc_L_law_739 ?_
      refine lv_lload hx hb dc_L_law_740 (lv_at hl 0 rfl) ?_
      obtain ⟨h1, h2⟩ := h
      refine ow_lcmp_eq hx hb dc_L_law_742 dc_L_law_743 rfl (fun hc => ?_) (fun hc => ?_)
      · have h := h1 hc
        refine lv_goto hx hb dc_L_law_748 rfl ?_
        refine W.widen (k := cells + 2) (n := slots + 12) (by omega) (by omega) ?_
        exact hK _ _ _ _ h hB (lv_sub hl [2, 3, 4, 5, 6] rfl)
      · have h := h2 hc
        exact False.elim h
  · have h := h2 hc
    exact False.elim h
set_option maxHeartbeats 4000000 in
set_option maxRecDepth 100000 in
theorem lc_10 {p : Program} {l : Launch} (hfl : l.flags = Jvm.pinnedFlags ++ [Jvm.noTraceFlag]) {e : Env} {s : State} {m : MethodId} {args : Array Value} {below : List Frame} {meth : Method} {c : Code} {cells slots : Nat} {Qw : State → Prop} (hx : p.tables.exec = Jvm.exec) (hb : c.code = code) (hml : c.maxLocals = 8) (hown : s.vm.findClass "BallotDeskLaw" = some m.cls) (hts : ∀ w ∈ lw_g, w.before args s = true) {G : List (Nat × Nat)} (hG : ow_lay G) {D : va_G} {cA : Nat → ClassId} {ad : Nat → Nat} {A : Nat → Prop} {b0 L : Nat} {xs : Nat → Int32} (hX : va_X b0 L xs s s.heap) (hbl : b0 < s.heap.size) (hbA : ¬ A b0) (hZ : xw_Z A s s.heap) (hN : xw_N s) {F o1 o2 o3 : Nat} (k1 : ow_kd G o1 = (3, 0)) (k2 : ow_kd G o2 = (3, 9)) (k3 : ow_kd G o3 = (4, 1)) {i a1 a2 a3 : Int32} (hi1 : vp_in (i + 1) L) (ea1 : xs (i + 1).toNatClampNeg = a1) (hi2 : vp_in (i + 2) L) (ea2 : xs (i + 2).toNatClampNeg = a2) (hi3 : vp_in (i + 3) L) (ea3 : xs (i + 3).toNatClampNeg = a3) {M : om_M} {Q : om_M → Prop} {H : Heap} {locs : List Loc} {ls : Array Slot} (hcl : cells + 2 ≤ 601024) (hsl : slots + 12 ≤ 7293034) (h : wl_10 F o1 o2 o3 a1 a2 a3 M Q) (hB : ow_B G D cA ad A M s s.heap H locs) (hl : lv_has ls 8 [(0, .ref b0), (1, .ref (ad o1)), (2, .ref (ad o2)), (3, .ref (ad o3)), (4, .int i)])
    (hK : ∀ (M1 : om_M) (H : Heap) (locs : List Loc) (ls : Array Slot), Q M1 → ow_B G D cA ad A M1 s s.heap H locs → lv_has ls 8 [(0, .ref b0), (1, .ref (ad o1)), (2, .ref (ad o2)), (3, .ref (ad o3)), (4, .int i)] → W p l e room_1 s m args below meth c H locs (cells + 2) (slots + 12) Qw (F0 m 1339 ls [])) : W p l e room_1 s m args below meth c H locs cells slots Qw (F0 m 751 ls []) := by
  refine lv_aload_n hx hb dc_L_law_751 rfl (lv_at hl 1 rfl) ?_
  refine lv_aload_n hx hb dc_L_law_752 rfl (lv_at hl 0 rfl) ?_
  refine lv_iload hx hb dc_L_law_753 (lv_at hl 4 rfl) ?_
  refine lv_iconst (v := 1) hx hb dc_L_law_755 rfl ?_
  refine lv_iadd hx hb dc_L_law_756 ?_
  refine lw_sld hx hb hX hbl hbA hB.2.2.2 hi1 ea1 dc_L_law_757 ?_
  refine lv_aload_n hx hb dc_L_law_758 rfl (lv_at hl 0 rfl) ?_
  refine lv_iload hx hb dc_L_law_759 (lv_at hl 4 rfl) ?_
  refine lv_iconst (v := 2) hx hb dc_L_law_761 rfl ?_
  refine lv_iadd hx hb dc_L_law_762 ?_
  refine lw_sld hx hb hX hbl hbA hB.2.2.2 hi2 ea2 dc_L_law_763 ?_
  refine lv_aload_n hx hb dc_L_law_764 rfl (lv_at hl 3 rfl) ?_
  refine xw_callS (As := [.ref (ad o1), .int a1, .int a2, .ref (ad o3)]) (rest := []) (maxL := 5) (mc := 1) (ms := 6) hx hb hown hts (ct_L_pair l hfl G hG D cA ad F _ k1 _ _ _ _ k3 _ _ h) (hw_wsin mh_L_pair) (xw_cd_ofW (hts _ mh_L_pair)) mw_0 mw_632 mw_633 hd_L_pair rfl rfl (Nat.le_of_ble_eq_true rfl) (Nat.le_of_ble_eq_true rfl) hB (hw_pre hB hZ hN) (hl.1.trans hml.symm) (Nat.le_of_ble_eq_true rfl) rfl dc_L_law_765 (lw_rc hcl (by decide)) (lw_rs hsl (by decide)) (fun q k M H locs ce hX => False.elim hX) (fun v M1 H locs h hB => ?_)
  obtain ⟨r2, rfl, h⟩ := h
  refine lv_istore hx hb dc_L_law_768 hl (by decide) rfl (fun ls hl => ?_)
  refine lv_aload_n hx hb dc_L_law_770 rfl (lv_at hl 3 rfl) ?_
  refine lv_aload_n hx hb dc_L_law_771 rfl (lv_at hl 1 rfl) ?_
  refine lv_iload hx hb dc_L_law_772 (lv_at hl 5 rfl) ?_
  refine lv_iconst (v := 1) hx hb dc_L_law_774 rfl ?_
  refine lv_iadd hx hb dc_L_law_775 ?_
  refine lw_sld hx hb hX hbl hbA hB.2.2.2 hi1 ea1 dc_L_law_776 ?_
  refine lv_aload_n hx hb dc_L_law_777 rfl (lv_at hl 1 rfl) ?_
  refine lv_iload hx hb dc_L_law_778 (lv_at hl 5 rfl) ?_
  refine lv_iconst (v := 2) hx hb dc_L_law_780 rfl ?_
  refine lv_iadd hx hb dc_L_law_781 ?_
  refine lw_sld hx hb hX hbl hbA hB.2.2.2 hi2 ea2 dc_L_law_782 ?_
  refine ow_calli (va_runV (As := [.int a1, .int a2]) (rest := []) ⟨hx, hb, hml, hown, hts⟩ (ct_M_pair l G hG D cA ad F _ k2 _ _ _ _ h) ⟨ow_cb 2 hts mw_1049 mw_12 mw_1046 rfl rfl hd_M_pair ⟨Nat.le_of_ble_eq_true rfl, Nat.le_of_ble_eq_true rfl⟩, hts _ mw_1047, hts _ mw_1048⟩ (ow_preV hB k2 rfl) rfl rfl hl.1 rfl (lv_room (Nat.le_of_ble_eq_true rfl)) dc_L_law_783 ⟨(by have := hcl; show _ ≤ 601024; omega), (by have := hsl; show _ ≤ 7293034; omega)⟩) hB (fun r4 M3 H locs h hB => ?_)
  refine lv_istore hx hb dc_L_law_786 hl (by decide) rfl (fun ls hl => ?_)
  refine lv_aload_n hx hb dc_L_law_788 rfl (lv_at hl 4 rfl) ?_
  refine ow_calli (va_runV (As := []) (rest := []) ⟨hx, hb, hml, hown, hts⟩ (ct_M_thrown l G hG D cA ad F _ k2 _ _ h) ⟨ow_cb 0 hts mw_874 mw_12 mw_871 rfl rfl hd_M_thrown ⟨Nat.le_of_ble_eq_true rfl, Nat.le_of_ble_eq_true rfl⟩, hts _ mw_872, hts _ mw_873⟩ (ow_preV hB k2 rfl) rfl rfl hl.1 rfl (lv_room (Nat.le_of_ble_eq_true rfl)) dc_L_law_789 ⟨(by have := hcl; show _ ≤ 601024; omega), (by have := hsl; show _ ≤ 7293034; omega)⟩) hB (fun r6 M5 H locs h hB => ?_)
  refine lv_iload hx hb dc_L_law_792 (lv_at hl 1 rfl) ?_
  obtain ⟨h1, h2⟩ := h
  refine lv_icmp_eq hx hb dc_L_law_794 rfl (fun hc => ?_) (fun hc => ?_)
  · have h := h1 hc
    refine lv_iload hx hb dc_L_law_799 (lv_at hl 1 rfl) ?_
    obtain ⟨h1, h2⟩ := h
    refine lv_if_ne hx hb dc_L_law_801 rfl (fun hc => ?_) (fun hc => ?_)
    · have h := h2 hc
      refine lv_goto hx hb dc_L_law_816 rfl ?_
      refine W.widen (k := cells + 2) (n := slots + 12) (by omega) (by omega) ?_
      exact hK _ _ _ _ h hB (lv_sub hl [2, 3, 4, 5, 6] rfl)
    · have h := h1 hc
      refine lv_aload_n hx hb dc_L_law_804 rfl (lv_at hl 5 rfl) ?_
      refine lv_iconst (v := 0) hx hb dc_L_law_805 rfl ?_
      obtain ⟨hi7, h⟩ := h
      refine ow_lald hx hb hB k3 hi7 dc_L_law_806 ?_
      refine lv_iload hx hb dc_L_law_807 (lv_at hl 0 rfl) ?_
      refine lv_i2l hx hb dc_L_law_809 rfl ?_
      obtain ⟨h1, h2⟩ := h
      refine ow_lcmp_eq hx hb dc_L_law_810 dc_L_law_811 rfl (fun hc => ?_) (fun hc => ?_)
      · have h := h1 hc
        refine lv_goto hx hb dc_L_law_816 rfl ?_
        refine W.widen (k := cells + 2) (n := slots + 12) (by omega) (by omega) ?_
        exact hK _ _ _ _ h hB (lv_sub hl [2, 3, 4, 5, 6] rfl)
      · have h := h2 hc
        exact False.elim h
  · have h := h2 hc
    exact False.elim h
set_option maxHeartbeats 4000000 in
set_option maxRecDepth 100000 in
theorem lc_11 {p : Program} {l : Launch} (hfl : l.flags = Jvm.pinnedFlags ++ [Jvm.noTraceFlag]) {e : Env} {s : State} {m : MethodId} {args : Array Value} {below : List Frame} {meth : Method} {c : Code} {cells slots : Nat} {Qw : State → Prop} (hx : p.tables.exec = Jvm.exec) (hb : c.code = code) (hml : c.maxLocals = 8) (hown : s.vm.findClass "BallotDeskLaw" = some m.cls) (hts : ∀ w ∈ lw_g, w.before args s = true) {G : List (Nat × Nat)} (hG : ow_lay G) {D : va_G} {cA : Nat → ClassId} {ad : Nat → Nat} {A : Nat → Prop} {b0 L : Nat} {xs : Nat → Int32} (hX : va_X b0 L xs s s.heap) (hbl : b0 < s.heap.size) (hbA : ¬ A b0) (hZ : xw_Z A s s.heap) (hN : xw_N s) {F o1 o2 o3 : Nat} (k1 : ow_kd G o1 = (3, 0)) (k2 : ow_kd G o2 = (3, 9)) (k3 : ow_kd G o3 = (4, 1)) {i a1 a2 a3 : Int32} (hi1 : vp_in (i + 1) L) (ea1 : xs (i + 1).toNatClampNeg = a1) (hi2 : vp_in (i + 2) L) (ea2 : xs (i + 2).toNatClampNeg = a2) (hi3 : vp_in (i + 3) L) (ea3 : xs (i + 3).toNatClampNeg = a3) {M : om_M} {Q : om_M → Prop} {H : Heap} {locs : List Loc} {ls : Array Slot} (hcl : cells + 2 ≤ 601024) (hsl : slots + 12 ≤ 7293034) (h : wl_11 F o1 o2 o3 a1 a2 a3 M Q) (hB : ow_B G D cA ad A M s s.heap H locs) (hl : lv_has ls 8 [(0, .ref b0), (1, .ref (ad o1)), (2, .ref (ad o2)), (3, .ref (ad o3)), (4, .int i)])
    (hK : ∀ (M1 : om_M) (H : Heap) (locs : List Loc) (ls : Array Slot), Q M1 → ow_B G D cA ad A M1 s s.heap H locs → lv_has ls 8 [(0, .ref b0), (1, .ref (ad o1)), (2, .ref (ad o2)), (3, .ref (ad o3)), (4, .int i)] → W p l e room_1 s m args below meth c H locs (cells + 2) (slots + 12) Qw (F0 m 1339 ls [])) : W p l e room_1 s m args below meth c H locs cells slots Qw (F0 m 819 ls []) := by
  refine lv_aload_n hx hb dc_L_law_819 rfl (lv_at hl 1 rfl) ?_
  refine lv_aload_n hx hb dc_L_law_820 rfl (lv_at hl 0 rfl) ?_
  refine lv_iload hx hb dc_L_law_821 (lv_at hl 4 rfl) ?_
  refine lv_iconst (v := 1) hx hb dc_L_law_823 rfl ?_
  refine lv_iadd hx hb dc_L_law_824 ?_
  refine lw_sld hx hb hX hbl hbA hB.2.2.2 hi1 ea1 dc_L_law_825 ?_
  refine lv_aload_n hx hb dc_L_law_826 rfl (lv_at hl 0 rfl) ?_
  refine lv_iload hx hb dc_L_law_827 (lv_at hl 4 rfl) ?_
  refine lv_iconst (v := 2) hx hb dc_L_law_829 rfl ?_
  refine lv_iadd hx hb dc_L_law_830 ?_
  refine lw_sld hx hb hX hbl hbA hB.2.2.2 hi2 ea2 dc_L_law_831 ?_
  refine lv_aload_n hx hb dc_L_law_832 rfl (lv_at hl 3 rfl) ?_
  refine xw_callS (As := [.ref (ad o1), .int a1, .int a2, .ref (ad o3)]) (rest := []) (maxL := 5) (mc := 1) (ms := 6) hx hb hown hts (ct_L_path l hfl G hG D cA ad F _ k1 _ _ _ _ k3 _ _ h) (hw_wsin mh_L_path) (xw_cd_ofW (hts _ mh_L_path)) mw_0 mw_639 mw_640 hd_L_path rfl rfl (Nat.le_of_ble_eq_true rfl) (Nat.le_of_ble_eq_true rfl) hB (hw_pre hB hZ hN) (hl.1.trans hml.symm) (Nat.le_of_ble_eq_true rfl) rfl dc_L_law_833 (lw_rc hcl (by decide)) (lw_rs hsl (by decide)) (fun q k M H locs ce hX => False.elim hX) (fun v M1 H locs h hB => ?_)
  obtain ⟨r2, rfl, h⟩ := h
  refine lv_istore hx hb dc_L_law_836 hl (by decide) rfl (fun ls hl => ?_)
  refine lv_aload_n hx hb dc_L_law_838 rfl (lv_at hl 3 rfl) ?_
  refine lv_aload_n hx hb dc_L_law_839 rfl (lv_at hl 1 rfl) ?_
  refine lv_iload hx hb dc_L_law_840 (lv_at hl 5 rfl) ?_
  refine lv_iconst (v := 1) hx hb dc_L_law_842 rfl ?_
  refine lv_iadd hx hb dc_L_law_843 ?_
  refine lw_sld hx hb hX hbl hbA hB.2.2.2 hi1 ea1 dc_L_law_844 ?_
  refine lv_aload_n hx hb dc_L_law_845 rfl (lv_at hl 1 rfl) ?_
  refine lv_iload hx hb dc_L_law_846 (lv_at hl 5 rfl) ?_
  refine lv_iconst (v := 2) hx hb dc_L_law_848 rfl ?_
  refine lv_iadd hx hb dc_L_law_849 ?_
  refine lw_sld hx hb hX hbl hbA hB.2.2.2 hi2 ea2 dc_L_law_850 ?_
  refine ow_calli (va_runV (As := [.int a1, .int a2]) (rest := []) ⟨hx, hb, hml, hown, hts⟩ (ct_M_path l G hG D cA ad F _ k2 _ _ _ _ h) ⟨ow_cb 2 hts mw_1053 mw_12 mw_1050 rfl rfl hd_M_path ⟨Nat.le_of_ble_eq_true rfl, Nat.le_of_ble_eq_true rfl⟩, hts _ mw_1051, hts _ mw_1052⟩ (ow_preV hB k2 rfl) rfl rfl hl.1 rfl (lv_room (Nat.le_of_ble_eq_true rfl)) dc_L_law_851 ⟨(by have := hcl; show _ ≤ 601024; omega), (by have := hsl; show _ ≤ 7293034; omega)⟩) hB (fun r4 M3 H locs h hB => ?_)
  refine lv_istore hx hb dc_L_law_854 hl (by decide) rfl (fun ls hl => ?_)
  refine lv_aload_n hx hb dc_L_law_856 rfl (lv_at hl 4 rfl) ?_
  refine ow_calli (va_runV (As := []) (rest := []) ⟨hx, hb, hml, hown, hts⟩ (ct_M_thrown l G hG D cA ad F _ k2 _ _ h) ⟨ow_cb 0 hts mw_874 mw_12 mw_871 rfl rfl hd_M_thrown ⟨Nat.le_of_ble_eq_true rfl, Nat.le_of_ble_eq_true rfl⟩, hts _ mw_872, hts _ mw_873⟩ (ow_preV hB k2 rfl) rfl rfl hl.1 rfl (lv_room (Nat.le_of_ble_eq_true rfl)) dc_L_law_857 ⟨(by have := hcl; show _ ≤ 601024; omega), (by have := hsl; show _ ≤ 7293034; omega)⟩) hB (fun r6 M5 H locs h hB => ?_)
  refine lv_iload hx hb dc_L_law_860 (lv_at hl 1 rfl) ?_
  obtain ⟨h1, h2⟩ := h
  refine lv_icmp_eq hx hb dc_L_law_862 rfl (fun hc => ?_) (fun hc => ?_)
  · have h := h1 hc
    refine lv_iload hx hb dc_L_law_867 (lv_at hl 1 rfl) ?_
    obtain ⟨h1, h2⟩ := h
    refine lv_if_ne hx hb dc_L_law_869 rfl (fun hc => ?_) (fun hc => ?_)
    · have h := h2 hc
      refine lv_goto hx hb dc_L_law_884 rfl ?_
      refine W.widen (k := cells + 2) (n := slots + 12) (by omega) (by omega) ?_
      exact hK _ _ _ _ h hB (lv_sub hl [2, 3, 4, 5, 6] rfl)
    · have h := h1 hc
      refine lv_aload_n hx hb dc_L_law_872 rfl (lv_at hl 5 rfl) ?_
      refine lv_iconst (v := 0) hx hb dc_L_law_873 rfl ?_
      obtain ⟨hi7, h⟩ := h
      refine ow_lald hx hb hB k3 hi7 dc_L_law_874 ?_
      refine lv_iload hx hb dc_L_law_875 (lv_at hl 0 rfl) ?_
      refine lv_i2l hx hb dc_L_law_877 rfl ?_
      obtain ⟨h1, h2⟩ := h
      refine ow_lcmp_eq hx hb dc_L_law_878 dc_L_law_879 rfl (fun hc => ?_) (fun hc => ?_)
      · have h := h1 hc
        refine lv_goto hx hb dc_L_law_884 rfl ?_
        refine W.widen (k := cells + 2) (n := slots + 12) (by omega) (by omega) ?_
        exact hK _ _ _ _ h hB (lv_sub hl [2, 3, 4, 5, 6] rfl)
      · have h := h2 hc
        exact False.elim h
  · have h := h2 hc
    exact False.elim h
set_option maxHeartbeats 4000000 in
set_option maxRecDepth 100000 in
theorem lc_12 {p : Program} {l : Launch} (hfl : l.flags = Jvm.pinnedFlags ++ [Jvm.noTraceFlag]) {e : Env} {s : State} {m : MethodId} {args : Array Value} {below : List Frame} {meth : Method} {c : Code} {cells slots : Nat} {Qw : State → Prop} (hx : p.tables.exec = Jvm.exec) (hb : c.code = code) (hml : c.maxLocals = 8) (hown : s.vm.findClass "BallotDeskLaw" = some m.cls) (hts : ∀ w ∈ lw_g, w.before args s = true) {G : List (Nat × Nat)} (hG : ow_lay G) {D : va_G} {cA : Nat → ClassId} {ad : Nat → Nat} {A : Nat → Prop} {b0 L : Nat} {xs : Nat → Int32} (hX : va_X b0 L xs s s.heap) (hbl : b0 < s.heap.size) (hbA : ¬ A b0) (hZ : xw_Z A s s.heap) (hN : xw_N s) {F o1 o2 o3 : Nat} (k1 : ow_kd G o1 = (3, 0)) (k2 : ow_kd G o2 = (3, 9)) (k3 : ow_kd G o3 = (4, 1)) {i a1 a2 a3 : Int32} (hi1 : vp_in (i + 1) L) (ea1 : xs (i + 1).toNatClampNeg = a1) (hi2 : vp_in (i + 2) L) (ea2 : xs (i + 2).toNatClampNeg = a2) (hi3 : vp_in (i + 3) L) (ea3 : xs (i + 3).toNatClampNeg = a3) {M : om_M} {Q : om_M → Prop} {H : Heap} {locs : List Loc} {ls : Array Slot} (hcl : cells + 2 ≤ 601024) (hsl : slots + 12 ≤ 7293034) (h : wl_12 F o1 o2 o3 a1 a2 a3 M Q) (hB : ow_B G D cA ad A M s s.heap H locs) (hl : lv_has ls 8 [(0, .ref b0), (1, .ref (ad o1)), (2, .ref (ad o2)), (3, .ref (ad o3)), (4, .int i)])
    (hK : ∀ (M1 : om_M) (H : Heap) (locs : List Loc) (ls : Array Slot), Q M1 → ow_B G D cA ad A M1 s s.heap H locs → lv_has ls 8 [(0, .ref b0), (1, .ref (ad o1)), (2, .ref (ad o2)), (3, .ref (ad o3)), (4, .int i)] → W p l e room_1 s m args below meth c H locs (cells + 2) (slots + 12) Qw (F0 m 1339 ls [])) : W p l e room_1 s m args below meth c H locs cells slots Qw (F0 m 887 ls []) := by
  refine lv_aload_n hx hb dc_L_law_887 rfl (lv_at hl 1 rfl) ?_
  refine ow_calli (va_runV (As := []) (rest := []) ⟨hx, hb, hml, hown, hts⟩ (ct_D_branches l G hG D cA ad F _ k1 _ _ h) ⟨ow_cb 0 hts mw_248 mw_1 mw_245 rfl rfl hd_D_branches ⟨Nat.le_of_ble_eq_true rfl, Nat.le_of_ble_eq_true rfl⟩, hts _ mw_246, hts _ mw_247⟩ (ow_preV hB k1 rfl) rfl rfl hl.1 rfl (lv_room (Nat.le_of_ble_eq_true rfl)) dc_L_law_888 ⟨(by have := hcl; show _ ≤ 601024; omega), (by have := hsl; show _ ≤ 7293034; omega)⟩) hB (fun r2 M1 H locs h hB => ?_)
  refine lv_aload_n hx hb dc_L_law_891 rfl (lv_at hl 2 rfl) ?_
  refine ow_calli (va_runV (As := []) (rest := [.int r2]) ⟨hx, hb, hml, hown, hts⟩ (ct_M_branches l G hG D cA ad F _ k2 _ _ h) ⟨ow_cb 0 hts mw_1057 mw_12 mw_1054 rfl rfl hd_M_branches ⟨Nat.le_of_ble_eq_true rfl, Nat.le_of_ble_eq_true rfl⟩, hts _ mw_1055, hts _ mw_1056⟩ (ow_preV hB k2 rfl) rfl rfl hl.1 rfl (lv_room (Nat.le_of_ble_eq_true rfl)) dc_L_law_892 ⟨(by have := hcl; show _ ≤ 601024; omega), (by have := hsl; show _ ≤ 7293034; omega)⟩) hB (fun r4 M3 H locs h hB => ?_)
  obtain ⟨h1, h2⟩ := h
  refine lv_icmp_eq hx hb dc_L_law_895 rfl (fun hc => ?_) (fun hc => ?_)
  · have h := h1 hc
    refine W.widen (k := cells + 2) (n := slots + 12) (by omega) (by omega) ?_
    exact hK _ _ _ _ h hB (lv_sub hl [0, 1, 2, 3, 4] rfl)
  · have h := h2 hc
    exact False.elim h
set_option maxHeartbeats 4000000 in
set_option maxRecDepth 100000 in
theorem lc_13 {p : Program} {l : Launch} (hfl : l.flags = Jvm.pinnedFlags ++ [Jvm.noTraceFlag]) {e : Env} {s : State} {m : MethodId} {args : Array Value} {below : List Frame} {meth : Method} {c : Code} {cells slots : Nat} {Qw : State → Prop} (hx : p.tables.exec = Jvm.exec) (hb : c.code = code) (hml : c.maxLocals = 8) (hown : s.vm.findClass "BallotDeskLaw" = some m.cls) (hts : ∀ w ∈ lw_g, w.before args s = true) {G : List (Nat × Nat)} (hG : ow_lay G) {D : va_G} {cA : Nat → ClassId} {ad : Nat → Nat} {A : Nat → Prop} {b0 L : Nat} {xs : Nat → Int32} (hX : va_X b0 L xs s s.heap) (hbl : b0 < s.heap.size) (hbA : ¬ A b0) (hZ : xw_Z A s s.heap) (hN : xw_N s) {F o1 o2 o3 : Nat} (k1 : ow_kd G o1 = (3, 0)) (k2 : ow_kd G o2 = (3, 9)) (k3 : ow_kd G o3 = (4, 1)) {i a1 a2 a3 : Int32} (hi1 : vp_in (i + 1) L) (ea1 : xs (i + 1).toNatClampNeg = a1) (hi2 : vp_in (i + 2) L) (ea2 : xs (i + 2).toNatClampNeg = a2) (hi3 : vp_in (i + 3) L) (ea3 : xs (i + 3).toNatClampNeg = a3) {M : om_M} {Q : om_M → Prop} {H : Heap} {locs : List Loc} {ls : Array Slot} (hcl : cells + 2 ≤ 601024) (hsl : slots + 12 ≤ 7293034) (h : wl_13 F o1 o2 o3 a1 a2 a3 M Q) (hB : ow_B G D cA ad A M s s.heap H locs) (hl : lv_has ls 8 [(0, .ref b0), (1, .ref (ad o1)), (2, .ref (ad o2)), (3, .ref (ad o3)), (4, .int i)])
    (hK : ∀ (M1 : om_M) (H : Heap) (locs : List Loc) (ls : Array Slot), Q M1 → ow_B G D cA ad A M1 s s.heap H locs → lv_has ls 8 [(0, .ref b0), (1, .ref (ad o1)), (2, .ref (ad o2)), (3, .ref (ad o3)), (4, .int i)] → W p l e room_1 s m args below meth c H locs (cells + 2) (slots + 12) Qw (F0 m 1339 ls [])) : W p l e room_1 s m args below meth c H locs cells slots Qw (F0 m 900 ls []) := by
  refine lv_aload_n hx hb dc_L_law_900 rfl (lv_at hl 1 rfl) ?_
  refine lv_aload_n hx hb dc_L_law_901 rfl (lv_at hl 0 rfl) ?_
  refine lv_iload hx hb dc_L_law_902 (lv_at hl 4 rfl) ?_
  refine lv_iconst (v := 1) hx hb dc_L_law_904 rfl ?_
  refine lv_iadd hx hb dc_L_law_905 ?_
  refine lw_sld hx hb hX hbl hbA hB.2.2.2 hi1 ea1 dc_L_law_906 ?_
  refine lv_aload_n hx hb dc_L_law_907 rfl (lv_at hl 3 rfl) ?_
  refine xw_callS (As := [.ref (ad o1), .int a1, .ref (ad o3)]) (rest := []) (maxL := 4) (mc := 1) (ms := 6) hx hb hown hts (ct_L_step l hfl G hG D cA ad F _ k1 _ _ _ k3 _ _ h) (hw_wsin mh_L_step) (xw_cd_ofW (hts _ mh_L_step)) mw_0 mw_647 mw_648 hd_L_step rfl rfl (Nat.le_of_ble_eq_true rfl) (Nat.le_of_ble_eq_true rfl) hB (hw_pre hB hZ hN) (hl.1.trans hml.symm) (Nat.le_of_ble_eq_true rfl) rfl dc_L_law_908 (lw_rc hcl (by decide)) (lw_rs hsl (by decide)) (fun q k M H locs ce hX => False.elim hX) (fun v M1 H locs h hB => ?_)
  obtain ⟨r2, rfl, h⟩ := h
  refine lv_istore hx hb dc_L_law_911 hl (by decide) rfl (fun ls hl => ?_)
  refine lv_aload_n hx hb dc_L_law_913 rfl (lv_at hl 3 rfl) ?_
  refine lv_aload_n hx hb dc_L_law_914 rfl (lv_at hl 1 rfl) ?_
  refine lv_iload hx hb dc_L_law_915 (lv_at hl 5 rfl) ?_
  refine lv_iconst (v := 1) hx hb dc_L_law_917 rfl ?_
  refine lv_iadd hx hb dc_L_law_918 ?_
  refine lw_sld hx hb hX hbl hbA hB.2.2.2 hi1 ea1 dc_L_law_919 ?_
  refine ow_calli (va_runV (As := [.int a1]) (rest := []) ⟨hx, hb, hml, hown, hts⟩ (ct_M_step l G hG D cA ad F _ k2 _ _ _ h) ⟨ow_cb 1 hts mw_1061 mw_12 mw_1058 rfl rfl hd_M_step ⟨Nat.le_of_ble_eq_true rfl, Nat.le_of_ble_eq_true rfl⟩, hts _ mw_1059, hts _ mw_1060⟩ (ow_preV hB k2 rfl) rfl rfl hl.1 rfl (lv_room (Nat.le_of_ble_eq_true rfl)) dc_L_law_920 ⟨(by have := hcl; show _ ≤ 601024; omega), (by have := hsl; show _ ≤ 7293034; omega)⟩) hB (fun r4 M3 H locs h hB => ?_)
  refine lv_istore hx hb dc_L_law_923 hl (by decide) rfl (fun ls hl => ?_)
  refine lv_aload_n hx hb dc_L_law_925 rfl (lv_at hl 4 rfl) ?_
  refine ow_calli (va_runV (As := []) (rest := []) ⟨hx, hb, hml, hown, hts⟩ (ct_M_thrown l G hG D cA ad F _ k2 _ _ h) ⟨ow_cb 0 hts mw_874 mw_12 mw_871 rfl rfl hd_M_thrown ⟨Nat.le_of_ble_eq_true rfl, Nat.le_of_ble_eq_true rfl⟩, hts _ mw_872, hts _ mw_873⟩ (ow_preV hB k2 rfl) rfl rfl hl.1 rfl (lv_room (Nat.le_of_ble_eq_true rfl)) dc_L_law_926 ⟨(by have := hcl; show _ ≤ 601024; omega), (by have := hsl; show _ ≤ 7293034; omega)⟩) hB (fun r6 M5 H locs h hB => ?_)
  refine lv_iload hx hb dc_L_law_929 (lv_at hl 1 rfl) ?_
  obtain ⟨h1, h2⟩ := h
  refine lv_icmp_eq hx hb dc_L_law_931 rfl (fun hc => ?_) (fun hc => ?_)
  · have h := h1 hc
    refine lv_iload hx hb dc_L_law_936 (lv_at hl 1 rfl) ?_
    obtain ⟨h1, h2⟩ := h
    refine lv_if_ne hx hb dc_L_law_938 rfl (fun hc => ?_) (fun hc => ?_)
    · have h := h2 hc
      refine lv_goto hx hb dc_L_law_953 rfl ?_
      refine W.widen (k := cells + 2) (n := slots + 12) (by omega) (by omega) ?_
      exact hK _ _ _ _ h hB (lv_sub hl [2, 3, 4, 5, 6] rfl)
    · have h := h1 hc
      refine lv_aload_n hx hb dc_L_law_941 rfl (lv_at hl 5 rfl) ?_
      refine lv_iconst (v := 0) hx hb dc_L_law_942 rfl ?_
      obtain ⟨hi7, h⟩ := h
      refine ow_lald hx hb hB k3 hi7 dc_L_law_943 ?_
      refine lv_iload hx hb dc_L_law_944 (lv_at hl 0 rfl) ?_
      refine lv_i2l hx hb dc_L_law_946 rfl ?_
      obtain ⟨h1, h2⟩ := h
      refine ow_lcmp_eq hx hb dc_L_law_947 dc_L_law_948 rfl (fun hc => ?_) (fun hc => ?_)
      · have h := h1 hc
        refine lv_goto hx hb dc_L_law_953 rfl ?_
        refine W.widen (k := cells + 2) (n := slots + 12) (by omega) (by omega) ?_
        exact hK _ _ _ _ h hB (lv_sub hl [2, 3, 4, 5, 6] rfl)
      · have h := h2 hc
        exact False.elim h
  · have h := h2 hc
    exact False.elim h
set_option maxHeartbeats 4000000 in
set_option maxRecDepth 100000 in
theorem lc_14 {p : Program} {l : Launch} (hfl : l.flags = Jvm.pinnedFlags ++ [Jvm.noTraceFlag]) {e : Env} {s : State} {m : MethodId} {args : Array Value} {below : List Frame} {meth : Method} {c : Code} {cells slots : Nat} {Qw : State → Prop} (hx : p.tables.exec = Jvm.exec) (hb : c.code = code) (hml : c.maxLocals = 8) (hown : s.vm.findClass "BallotDeskLaw" = some m.cls) (hts : ∀ w ∈ lw_g, w.before args s = true) {G : List (Nat × Nat)} (hG : ow_lay G) {D : va_G} {cA : Nat → ClassId} {ad : Nat → Nat} {A : Nat → Prop} {b0 L : Nat} {xs : Nat → Int32} (hX : va_X b0 L xs s s.heap) (hbl : b0 < s.heap.size) (hbA : ¬ A b0) (hZ : xw_Z A s s.heap) (hN : xw_N s) {F o1 o2 o3 : Nat} (k1 : ow_kd G o1 = (3, 0)) (k2 : ow_kd G o2 = (3, 9)) (k3 : ow_kd G o3 = (4, 1)) {i a1 a2 a3 : Int32} (hi1 : vp_in (i + 1) L) (ea1 : xs (i + 1).toNatClampNeg = a1) (hi2 : vp_in (i + 2) L) (ea2 : xs (i + 2).toNatClampNeg = a2) (hi3 : vp_in (i + 3) L) (ea3 : xs (i + 3).toNatClampNeg = a3) {M : om_M} {Q : om_M → Prop} {H : Heap} {locs : List Loc} {ls : Array Slot} (hcl : cells + 2 ≤ 601024) (hsl : slots + 12 ≤ 7293034) (h : wl_14 F o1 o2 o3 a1 a2 a3 M Q) (hB : ow_B G D cA ad A M s s.heap H locs) (hl : lv_has ls 8 [(0, .ref b0), (1, .ref (ad o1)), (2, .ref (ad o2)), (3, .ref (ad o3)), (4, .int i)])
    (hK : ∀ (M1 : om_M) (H : Heap) (locs : List Loc) (ls : Array Slot), Q M1 → ow_B G D cA ad A M1 s s.heap H locs → lv_has ls 8 [(0, .ref b0), (1, .ref (ad o1)), (2, .ref (ad o2)), (3, .ref (ad o3)), (4, .int i)] → W p l e room_1 s m args below meth c H locs (cells + 2) (slots + 12) Qw (F0 m 1339 ls [])) : W p l e room_1 s m args below meth c H locs cells slots Qw (F0 m 956 ls []) := by
  refine lv_aload_n hx hb dc_L_law_956 rfl (lv_at hl 1 rfl) ?_
  refine ow_calll (va_runV (As := []) (rest := []) ⟨hx, hb, hml, hown, hts⟩ (ct_D_disagreement l G hG D cA ad F _ k1 _ _ h) ⟨ow_cb 0 hts mw_278 mw_1 mw_275 rfl rfl hd_D_disagreement ⟨Nat.le_of_ble_eq_true rfl, Nat.le_of_ble_eq_true rfl⟩, hts _ mw_276, hts _ mw_277⟩ (ow_preV hB k1 rfl) rfl rfl hl.1 rfl (lv_room (Nat.le_of_ble_eq_true rfl)) dc_L_law_957 ⟨(by have := hcl; show _ ≤ 601024; omega), (by have := hsl; show _ ≤ 7293034; omega)⟩) hB (fun r2 M1 H locs h hB => ?_)
  refine lv_aload_n hx hb dc_L_law_960 rfl (lv_at hl 2 rfl) ?_
  refine ow_calll (va_runV (As := []) (rest := [.long r2]) ⟨hx, hb, hml, hown, hts⟩ (ct_M_disagreement l G hG D cA ad F _ k2 _ _ h) ⟨ow_cb 0 hts mw_1065 mw_12 mw_1062 rfl rfl hd_M_disagreement ⟨Nat.le_of_ble_eq_true rfl, Nat.le_of_ble_eq_true rfl⟩, hts _ mw_1063, hts _ mw_1064⟩ (ow_preV hB k2 rfl) rfl rfl hl.1 rfl (lv_room (Nat.le_of_ble_eq_true rfl)) dc_L_law_961 ⟨(by have := hcl; show _ ≤ 601024; omega), (by have := hsl; show _ ≤ 7293034; omega)⟩) hB (fun r4 M3 H locs h hB => ?_)
  obtain ⟨h1, h2⟩ := h
  refine ow_lcmp_eq hx hb dc_L_law_964 dc_L_law_965 rfl (fun hc => ?_) (fun hc => ?_)
  · have h := h1 hc
    refine W.widen (k := cells + 2) (n := slots + 12) (by omega) (by omega) ?_
    exact hK _ _ _ _ h hB (lv_sub hl [0, 1, 2, 3, 4] rfl)
  · have h := h2 hc
    exact False.elim h
set_option maxHeartbeats 4000000 in
set_option maxRecDepth 100000 in
theorem lc_15 {p : Program} {l : Launch} (hfl : l.flags = Jvm.pinnedFlags ++ [Jvm.noTraceFlag]) {e : Env} {s : State} {m : MethodId} {args : Array Value} {below : List Frame} {meth : Method} {c : Code} {cells slots : Nat} {Qw : State → Prop} (hx : p.tables.exec = Jvm.exec) (hb : c.code = code) (hml : c.maxLocals = 8) (hown : s.vm.findClass "BallotDeskLaw" = some m.cls) (hts : ∀ w ∈ lw_g, w.before args s = true) {G : List (Nat × Nat)} (hG : ow_lay G) {D : va_G} {cA : Nat → ClassId} {ad : Nat → Nat} {A : Nat → Prop} {b0 L : Nat} {xs : Nat → Int32} (hX : va_X b0 L xs s s.heap) (hbl : b0 < s.heap.size) (hbA : ¬ A b0) (hZ : xw_Z A s s.heap) (hN : xw_N s) {F o1 o2 o3 : Nat} (k1 : ow_kd G o1 = (3, 0)) (k2 : ow_kd G o2 = (3, 9)) (k3 : ow_kd G o3 = (4, 1)) {i a1 a2 a3 : Int32} (hi1 : vp_in (i + 1) L) (ea1 : xs (i + 1).toNatClampNeg = a1) (hi2 : vp_in (i + 2) L) (ea2 : xs (i + 2).toNatClampNeg = a2) (hi3 : vp_in (i + 3) L) (ea3 : xs (i + 3).toNatClampNeg = a3) {M : om_M} {Q : om_M → Prop} {H : Heap} {locs : List Loc} {ls : Array Slot} (hcl : cells + 2 ≤ 601024) (hsl : slots + 12 ≤ 7293034) (h : wl_15 F o1 o2 o3 a1 a2 a3 M Q) (hB : ow_B G D cA ad A M s s.heap H locs) (hl : lv_has ls 8 [(0, .ref b0), (1, .ref (ad o1)), (2, .ref (ad o2)), (3, .ref (ad o3)), (4, .int i)])
    (hK : ∀ (M1 : om_M) (H : Heap) (locs : List Loc) (ls : Array Slot), Q M1 → ow_B G D cA ad A M1 s s.heap H locs → lv_has ls 8 [(0, .ref b0), (1, .ref (ad o1)), (2, .ref (ad o2)), (3, .ref (ad o3)), (4, .int i)] → W p l e room_1 s m args below meth c H locs (cells + 2) (slots + 12) Qw (F0 m 1339 ls [])) : W p l e room_1 s m args below meth c H locs cells slots Qw (F0 m 970 ls []) := by
  refine lv_aload_n hx hb dc_L_law_970 rfl (lv_at hl 1 rfl) ?_
  refine ow_calli (va_runV (As := []) (rest := []) ⟨hx, hb, hml, hown, hts⟩ (ct_D_agreed l G hG D cA ad F _ k1 _ _ h) ⟨ow_cb 0 hts mw_299 mw_1 mw_296 rfl rfl hd_D_agreed ⟨Nat.le_of_ble_eq_true rfl, Nat.le_of_ble_eq_true rfl⟩, hts _ mw_297, hts _ mw_298⟩ (ow_preV hB k1 rfl) rfl rfl hl.1 rfl (lv_room (Nat.le_of_ble_eq_true rfl)) dc_L_law_971 ⟨(by have := hcl; show _ ≤ 601024; omega), (by have := hsl; show _ ≤ 7293034; omega)⟩) hB (fun r2 M1 H locs h hB => ?_)
  refine lv_aload_n hx hb dc_L_law_974 rfl (lv_at hl 2 rfl) ?_
  refine ow_calli (va_runV (As := []) (rest := [.int r2]) ⟨hx, hb, hml, hown, hts⟩ (ct_M_agreed l G hG D cA ad F _ k2 _ _ h) ⟨ow_cb 0 hts mw_1090 mw_12 mw_1087 rfl rfl hd_M_agreed ⟨Nat.le_of_ble_eq_true rfl, Nat.le_of_ble_eq_true rfl⟩, hts _ mw_1088, hts _ mw_1089⟩ (ow_preV hB k2 rfl) rfl rfl hl.1 rfl (lv_room (Nat.le_of_ble_eq_true rfl)) dc_L_law_975 ⟨(by have := hcl; show _ ≤ 601024; omega), (by have := hsl; show _ ≤ 7293034; omega)⟩) hB (fun r4 M3 H locs h hB => ?_)
  obtain ⟨h1, h2⟩ := h
  refine lv_icmp_eq hx hb dc_L_law_978 rfl (fun hc => ?_) (fun hc => ?_)
  · have h := h1 hc
    refine W.widen (k := cells + 2) (n := slots + 12) (by omega) (by omega) ?_
    exact hK _ _ _ _ h hB (lv_sub hl [0, 1, 2, 3, 4] rfl)
  · have h := h2 hc
    exact False.elim h
set_option maxHeartbeats 4000000 in
set_option maxRecDepth 100000 in
theorem lc_16 {p : Program} {l : Launch} (hfl : l.flags = Jvm.pinnedFlags ++ [Jvm.noTraceFlag]) {e : Env} {s : State} {m : MethodId} {args : Array Value} {below : List Frame} {meth : Method} {c : Code} {cells slots : Nat} {Qw : State → Prop} (hx : p.tables.exec = Jvm.exec) (hb : c.code = code) (hml : c.maxLocals = 8) (hown : s.vm.findClass "BallotDeskLaw" = some m.cls) (hts : ∀ w ∈ lw_g, w.before args s = true) {G : List (Nat × Nat)} (hG : ow_lay G) {D : va_G} {cA : Nat → ClassId} {ad : Nat → Nat} {A : Nat → Prop} {b0 L : Nat} {xs : Nat → Int32} (hX : va_X b0 L xs s s.heap) (hbl : b0 < s.heap.size) (hbA : ¬ A b0) (hZ : xw_Z A s s.heap) (hN : xw_N s) {F o1 o2 o3 : Nat} (k1 : ow_kd G o1 = (3, 0)) (k2 : ow_kd G o2 = (3, 9)) (k3 : ow_kd G o3 = (4, 1)) {i a1 a2 a3 : Int32} (hi1 : vp_in (i + 1) L) (ea1 : xs (i + 1).toNatClampNeg = a1) (hi2 : vp_in (i + 2) L) (ea2 : xs (i + 2).toNatClampNeg = a2) (hi3 : vp_in (i + 3) L) (ea3 : xs (i + 3).toNatClampNeg = a3) {M : om_M} {Q : om_M → Prop} {H : Heap} {locs : List Loc} {ls : Array Slot} (hcl : cells + 2 ≤ 601024) (hsl : slots + 12 ≤ 7293034) (h : wl_16 F o1 o2 o3 a1 a2 a3 M Q) (hB : ow_B G D cA ad A M s s.heap H locs) (hl : lv_has ls 8 [(0, .ref b0), (1, .ref (ad o1)), (2, .ref (ad o2)), (3, .ref (ad o3)), (4, .int i)])
    (hK : ∀ (M1 : om_M) (H : Heap) (locs : List Loc) (ls : Array Slot), Q M1 → ow_B G D cA ad A M1 s s.heap H locs → lv_has ls 8 [(0, .ref b0), (1, .ref (ad o1)), (2, .ref (ad o2)), (3, .ref (ad o3)), (4, .int i)] → W p l e room_1 s m args below meth c H locs (cells + 2) (slots + 12) Qw (F0 m 1339 ls [])) : W p l e room_1 s m args below meth c H locs cells slots Qw (F0 m 983 ls []) := by
  refine lv_aload_n hx hb dc_L_law_983 rfl (lv_at hl 1 rfl) ?_
  refine lv_aload_n hx hb dc_L_law_984 rfl (lv_at hl 0 rfl) ?_
  refine lv_iload hx hb dc_L_law_985 (lv_at hl 4 rfl) ?_
  refine lv_iconst (v := 1) hx hb dc_L_law_987 rfl ?_
  refine lv_iadd hx hb dc_L_law_988 ?_
  refine lw_sld hx hb hX hbl hbA hB.2.2.2 hi1 ea1 dc_L_law_989 ?_
  refine lv_aload_n hx hb dc_L_law_990 rfl (lv_at hl 0 rfl) ?_
  refine lv_iload hx hb dc_L_law_991 (lv_at hl 4 rfl) ?_
  refine lv_iconst (v := 2) hx hb dc_L_law_993 rfl ?_
  refine lv_iadd hx hb dc_L_law_994 ?_
  refine lw_sld hx hb hX hbl hbA hB.2.2.2 hi2 ea2 dc_L_law_995 ?_
  refine lv_aload_n hx hb dc_L_law_996 rfl (lv_at hl 0 rfl) ?_
  refine lv_iload hx hb dc_L_law_997 (lv_at hl 4 rfl) ?_
  refine lv_iconst (v := 3) hx hb dc_L_law_999 rfl ?_
  refine lv_iadd hx hb dc_L_law_1000 ?_
  refine lw_sld hx hb hX hbl hbA hB.2.2.2 hi3 ea3 dc_L_law_1001 ?_
  refine lv_aload_n hx hb dc_L_law_1002 rfl (lv_at hl 3 rfl) ?_
  refine xw_callS (As := [.ref (ad o1), .int a1, .int a2, .int a3, .ref (ad o3)]) (rest := []) (maxL := 6) (mc := 2) (ms := 12) hx hb hown hts (ct_L_change l hfl G hG D cA ad F _ k1 _ _ _ _ _ k3 _ _ h) (hw_wsin mh_L_change) (xw_cd_ofW (hts _ mh_L_change)) mw_0 mw_662 mw_663 hd_L_change rfl rfl (Nat.le_of_ble_eq_true rfl) (Nat.le_of_ble_eq_true rfl) hB (hw_pre hB hZ hN) (hl.1.trans hml.symm) (Nat.le_of_ble_eq_true rfl) rfl dc_L_law_1003 (lw_rc hcl (by decide)) (lw_rs hsl (by decide)) (fun q k M H locs ce hX => False.elim hX) (fun v M1 H locs h hB => ?_)
  obtain ⟨r2, rfl, h⟩ := h
  refine lv_istore hx hb dc_L_law_1006 hl (by decide) rfl (fun ls hl => ?_)
  refine lv_aload_n hx hb dc_L_law_1008 rfl (lv_at hl 3 rfl) ?_
  refine lv_aload_n hx hb dc_L_law_1009 rfl (lv_at hl 1 rfl) ?_
  refine lv_iload hx hb dc_L_law_1010 (lv_at hl 5 rfl) ?_
  refine lv_iconst (v := 1) hx hb dc_L_law_1012 rfl ?_
  refine lv_iadd hx hb dc_L_law_1013 ?_
  refine lw_sld hx hb hX hbl hbA hB.2.2.2 hi1 ea1 dc_L_law_1014 ?_
  refine lv_aload_n hx hb dc_L_law_1015 rfl (lv_at hl 1 rfl) ?_
  refine lv_iload hx hb dc_L_law_1016 (lv_at hl 5 rfl) ?_
  refine lv_iconst (v := 2) hx hb dc_L_law_1018 rfl ?_
  refine lv_iadd hx hb dc_L_law_1019 ?_
  refine lw_sld hx hb hX hbl hbA hB.2.2.2 hi2 ea2 dc_L_law_1020 ?_
  refine lv_aload_n hx hb dc_L_law_1021 rfl (lv_at hl 1 rfl) ?_
  refine lv_iload hx hb dc_L_law_1022 (lv_at hl 5 rfl) ?_
  refine lv_iconst (v := 3) hx hb dc_L_law_1024 rfl ?_
  refine lv_iadd hx hb dc_L_law_1025 ?_
  refine lw_sld hx hb hX hbl hbA hB.2.2.2 hi3 ea3 dc_L_law_1026 ?_
  refine ow_calli (va_runV (As := [.int a1, .int a2, .int a3]) (rest := []) ⟨hx, hb, hml, hown, hts⟩ (ct_M_change l G hG D cA ad F _ k2 _ _ _ _ _ h) ⟨ow_cb 3 hts mw_1094 mw_12 mw_1091 rfl rfl hd_M_change ⟨Nat.le_of_ble_eq_true rfl, Nat.le_of_ble_eq_true rfl⟩, hts _ mw_1092, hts _ mw_1093⟩ (ow_preV hB k2 rfl) rfl rfl hl.1 rfl (lv_room (Nat.le_of_ble_eq_true rfl)) dc_L_law_1027 ⟨(by have := hcl; show _ ≤ 601024; omega), (by have := hsl; show _ ≤ 7293034; omega)⟩) hB (fun r4 M3 H locs h hB => ?_)
  refine lv_istore hx hb dc_L_law_1030 hl (by decide) rfl (fun ls hl => ?_)
  refine lv_aload_n hx hb dc_L_law_1032 rfl (lv_at hl 4 rfl) ?_
  refine ow_calli (va_runV (As := []) (rest := []) ⟨hx, hb, hml, hown, hts⟩ (ct_M_thrown l G hG D cA ad F _ k2 _ _ h) ⟨ow_cb 0 hts mw_874 mw_12 mw_871 rfl rfl hd_M_thrown ⟨Nat.le_of_ble_eq_true rfl, Nat.le_of_ble_eq_true rfl⟩, hts _ mw_872, hts _ mw_873⟩ (ow_preV hB k2 rfl) rfl rfl hl.1 rfl (lv_room (Nat.le_of_ble_eq_true rfl)) dc_L_law_1033 ⟨(by have := hcl; show _ ≤ 601024; omega), (by have := hsl; show _ ≤ 7293034; omega)⟩) hB (fun r6 M5 H locs h hB => ?_)
  refine lv_iload hx hb dc_L_law_1036 (lv_at hl 1 rfl) ?_
  obtain ⟨h1, h2⟩ := h
  refine lv_icmp_eq hx hb dc_L_law_1038 rfl (fun hc => ?_) (fun hc => ?_)
  · have h := h1 hc
    refine lv_iload hx hb dc_L_law_1043 (lv_at hl 1 rfl) ?_
    obtain ⟨h1, h2⟩ := h
    refine lv_if_ne hx hb dc_L_law_1045 rfl (fun hc => ?_) (fun hc => ?_)
    · have h := h2 hc
      refine lv_goto hx hb dc_L_law_1060 rfl ?_
      refine W.widen (k := cells + 2) (n := slots + 12) (by omega) (by omega) ?_
      exact hK _ _ _ _ h hB (lv_sub hl [2, 3, 4, 5, 6] rfl)
    · have h := h1 hc
      refine lv_aload_n hx hb dc_L_law_1048 rfl (lv_at hl 5 rfl) ?_
      refine lv_iconst (v := 0) hx hb dc_L_law_1049 rfl ?_
      obtain ⟨hi7, h⟩ := h
      refine ow_lald hx hb hB k3 hi7 dc_L_law_1050 ?_
      refine lv_iload hx hb dc_L_law_1051 (lv_at hl 0 rfl) ?_
      refine lv_i2l hx hb dc_L_law_1053 rfl ?_
      obtain ⟨h1, h2⟩ := h
      refine ow_lcmp_eq hx hb dc_L_law_1054 dc_L_law_1055 rfl (fun hc => ?_) (fun hc => ?_)
      · have h := h1 hc
        refine lv_goto hx hb dc_L_law_1060 rfl ?_
        refine W.widen (k := cells + 2) (n := slots + 12) (by omega) (by omega) ?_
        exact hK _ _ _ _ h hB (lv_sub hl [2, 3, 4, 5, 6] rfl)
      · have h := h2 hc
        exact False.elim h
  · have h := h2 hc
    exact False.elim h
set_option maxHeartbeats 4000000 in
set_option maxRecDepth 100000 in
theorem lc_17 {p : Program} {l : Launch} (hfl : l.flags = Jvm.pinnedFlags ++ [Jvm.noTraceFlag]) {e : Env} {s : State} {m : MethodId} {args : Array Value} {below : List Frame} {meth : Method} {c : Code} {cells slots : Nat} {Qw : State → Prop} (hx : p.tables.exec = Jvm.exec) (hb : c.code = code) (hml : c.maxLocals = 8) (hown : s.vm.findClass "BallotDeskLaw" = some m.cls) (hts : ∀ w ∈ lw_g, w.before args s = true) {G : List (Nat × Nat)} (hG : ow_lay G) {D : va_G} {cA : Nat → ClassId} {ad : Nat → Nat} {A : Nat → Prop} {b0 L : Nat} {xs : Nat → Int32} (hX : va_X b0 L xs s s.heap) (hbl : b0 < s.heap.size) (hbA : ¬ A b0) (hZ : xw_Z A s s.heap) (hN : xw_N s) {F o1 o2 o3 : Nat} (k1 : ow_kd G o1 = (3, 0)) (k2 : ow_kd G o2 = (3, 9)) (k3 : ow_kd G o3 = (4, 1)) {i a1 a2 a3 : Int32} (hi1 : vp_in (i + 1) L) (ea1 : xs (i + 1).toNatClampNeg = a1) (hi2 : vp_in (i + 2) L) (ea2 : xs (i + 2).toNatClampNeg = a2) (hi3 : vp_in (i + 3) L) (ea3 : xs (i + 3).toNatClampNeg = a3) {M : om_M} {Q : om_M → Prop} {H : Heap} {locs : List Loc} {ls : Array Slot} (hcl : cells + 2 ≤ 601024) (hsl : slots + 12 ≤ 7293034) (h : wl_17 F o1 o2 o3 a1 a2 a3 M Q) (hB : ow_B G D cA ad A M s s.heap H locs) (hl : lv_has ls 8 [(0, .ref b0), (1, .ref (ad o1)), (2, .ref (ad o2)), (3, .ref (ad o3)), (4, .int i)])
    (hK : ∀ (M1 : om_M) (H : Heap) (locs : List Loc) (ls : Array Slot), Q M1 → ow_B G D cA ad A M1 s s.heap H locs → lv_has ls 8 [(0, .ref b0), (1, .ref (ad o1)), (2, .ref (ad o2)), (3, .ref (ad o3)), (4, .int i)] → W p l e room_1 s m args below meth c H locs (cells + 2) (slots + 12) Qw (F0 m 1339 ls [])) : W p l e room_1 s m args below meth c H locs cells slots Qw (F0 m 1063 ls []) := by
  refine lv_aload_n hx hb dc_L_law_1063 rfl (lv_at hl 1 rfl) ?_
  refine ow_calli (va_runV (As := []) (rest := []) ⟨hx, hb, hml, hown, hts⟩ (ct_D_changed l G hG D cA ad F _ k1 _ _ h) ⟨ow_cb 0 hts mw_318 mw_1 mw_315 rfl rfl hd_D_changed ⟨Nat.le_of_ble_eq_true rfl, Nat.le_of_ble_eq_true rfl⟩, hts _ mw_316, hts _ mw_317⟩ (ow_preV hB k1 rfl) rfl rfl hl.1 rfl (lv_room (Nat.le_of_ble_eq_true rfl)) dc_L_law_1064 ⟨(by have := hcl; show _ ≤ 601024; omega), (by have := hsl; show _ ≤ 7293034; omega)⟩) hB (fun r2 M1 H locs h hB => ?_)
  refine lv_aload_n hx hb dc_L_law_1067 rfl (lv_at hl 2 rfl) ?_
  refine ow_calli (va_runV (As := []) (rest := [.int r2]) ⟨hx, hb, hml, hown, hts⟩ (ct_M_changed l G hG D cA ad F _ k2 _ _ h) ⟨ow_cb 0 hts mw_1098 mw_12 mw_1095 rfl rfl hd_M_changed ⟨Nat.le_of_ble_eq_true rfl, Nat.le_of_ble_eq_true rfl⟩, hts _ mw_1096, hts _ mw_1097⟩ (ow_preV hB k2 rfl) rfl rfl hl.1 rfl (lv_room (Nat.le_of_ble_eq_true rfl)) dc_L_law_1068 ⟨(by have := hcl; show _ ≤ 601024; omega), (by have := hsl; show _ ≤ 7293034; omega)⟩) hB (fun r4 M3 H locs h hB => ?_)
  obtain ⟨h1, h2⟩ := h
  refine lv_icmp_eq hx hb dc_L_law_1071 rfl (fun hc => ?_) (fun hc => ?_)
  · have h := h1 hc
    refine W.widen (k := cells + 2) (n := slots + 12) (by omega) (by omega) ?_
    exact hK _ _ _ _ h hB (lv_sub hl [0, 1, 2, 3, 4] rfl)
  · have h := h2 hc
    exact False.elim h
set_option maxHeartbeats 4000000 in
set_option maxRecDepth 100000 in
theorem lc_18 {p : Program} {l : Launch} (hfl : l.flags = Jvm.pinnedFlags ++ [Jvm.noTraceFlag]) {e : Env} {s : State} {m : MethodId} {args : Array Value} {below : List Frame} {meth : Method} {c : Code} {cells slots : Nat} {Qw : State → Prop} (hx : p.tables.exec = Jvm.exec) (hb : c.code = code) (hml : c.maxLocals = 8) (hown : s.vm.findClass "BallotDeskLaw" = some m.cls) (hts : ∀ w ∈ lw_g, w.before args s = true) {G : List (Nat × Nat)} (hG : ow_lay G) {D : va_G} {cA : Nat → ClassId} {ad : Nat → Nat} {A : Nat → Prop} {b0 L : Nat} {xs : Nat → Int32} (hX : va_X b0 L xs s s.heap) (hbl : b0 < s.heap.size) (hbA : ¬ A b0) (hZ : xw_Z A s s.heap) (hN : xw_N s) {F o1 o2 o3 : Nat} (k1 : ow_kd G o1 = (3, 0)) (k2 : ow_kd G o2 = (3, 9)) (k3 : ow_kd G o3 = (4, 1)) {i a1 a2 a3 : Int32} (hi1 : vp_in (i + 1) L) (ea1 : xs (i + 1).toNatClampNeg = a1) (hi2 : vp_in (i + 2) L) (ea2 : xs (i + 2).toNatClampNeg = a2) (hi3 : vp_in (i + 3) L) (ea3 : xs (i + 3).toNatClampNeg = a3) {M : om_M} {Q : om_M → Prop} {H : Heap} {locs : List Loc} {ls : Array Slot} (hcl : cells + 2 ≤ 601024) (hsl : slots + 12 ≤ 7293034) (h : wl_18 F o1 o2 o3 a1 a2 a3 M Q) (hB : ow_B G D cA ad A M s s.heap H locs) (hl : lv_has ls 8 [(0, .ref b0), (1, .ref (ad o1)), (2, .ref (ad o2)), (3, .ref (ad o3)), (4, .int i)])
    (hK : ∀ (M1 : om_M) (H : Heap) (locs : List Loc) (ls : Array Slot), Q M1 → ow_B G D cA ad A M1 s s.heap H locs → lv_has ls 8 [(0, .ref b0), (1, .ref (ad o1)), (2, .ref (ad o2)), (3, .ref (ad o3)), (4, .int i)] → W p l e room_1 s m args below meth c H locs (cells + 2) (slots + 12) Qw (F0 m 1339 ls [])) : W p l e room_1 s m args below meth c H locs cells slots Qw (F0 m 1076 ls []) := by
  refine lv_aload_n hx hb dc_L_law_1076 rfl (lv_at hl 1 rfl) ?_
  refine lv_aload_n hx hb dc_L_law_1077 rfl (lv_at hl 0 rfl) ?_
  refine lv_iload hx hb dc_L_law_1078 (lv_at hl 4 rfl) ?_
  refine lv_iconst (v := 1) hx hb dc_L_law_1080 rfl ?_
  refine lv_iadd hx hb dc_L_law_1081 ?_
  refine lw_sld hx hb hX hbl hbA hB.2.2.2 hi1 ea1 dc_L_law_1082 ?_
  refine lv_aload_n hx hb dc_L_law_1083 rfl (lv_at hl 0 rfl) ?_
  refine lv_iload hx hb dc_L_law_1084 (lv_at hl 4 rfl) ?_
  refine lv_iconst (v := 2) hx hb dc_L_law_1086 rfl ?_
  refine lv_iadd hx hb dc_L_law_1087 ?_
  refine lw_sld hx hb hX hbl hbA hB.2.2.2 hi2 ea2 dc_L_law_1088 ?_
  refine lv_aload_n hx hb dc_L_law_1089 rfl (lv_at hl 3 rfl) ?_
  refine xw_callS (As := [.ref (ad o1), .int a1, .int a2, .ref (ad o3)]) (rest := []) (maxL := 5) (mc := 1) (ms := 6) hx hb hown hts (ct_L_property l hfl G hG D cA ad F _ k1 _ _ _ _ k3 _ _ h) (hw_wsin mh_L_property) (xw_cd_ofW (hts _ mh_L_property)) mw_0 mw_703 mw_704 hd_L_property rfl rfl (Nat.le_of_ble_eq_true rfl) (Nat.le_of_ble_eq_true rfl) hB (hw_pre hB hZ hN) (hl.1.trans hml.symm) (Nat.le_of_ble_eq_true rfl) rfl dc_L_law_1090 (lw_rc hcl (by decide)) (lw_rs hsl (by decide)) (fun q k M H locs ce hX => False.elim hX) (fun v M1 H locs h hB => ?_)
  obtain ⟨r2, rfl, h⟩ := h
  refine lv_istore hx hb dc_L_law_1093 hl (by decide) rfl (fun ls hl => ?_)
  refine lv_aload_n hx hb dc_L_law_1095 rfl (lv_at hl 3 rfl) ?_
  refine lv_aload_n hx hb dc_L_law_1096 rfl (lv_at hl 1 rfl) ?_
  refine lv_iload hx hb dc_L_law_1097 (lv_at hl 5 rfl) ?_
  refine lv_iconst (v := 1) hx hb dc_L_law_1099 rfl ?_
  refine lv_iadd hx hb dc_L_law_1100 ?_
  refine lw_sld hx hb hX hbl hbA hB.2.2.2 hi1 ea1 dc_L_law_1101 ?_
  refine lv_aload_n hx hb dc_L_law_1102 rfl (lv_at hl 1 rfl) ?_
  refine lv_iload hx hb dc_L_law_1103 (lv_at hl 5 rfl) ?_
  refine lv_iconst (v := 2) hx hb dc_L_law_1105 rfl ?_
  refine lv_iadd hx hb dc_L_law_1106 ?_
  refine lw_sld hx hb hX hbl hbA hB.2.2.2 hi2 ea2 dc_L_law_1107 ?_
  refine ow_calli (va_runV (As := [.int a1, .int a2]) (rest := []) ⟨hx, hb, hml, hown, hts⟩ (ct_M_property l G hG D cA ad F _ k2 _ _ _ _ h) ⟨ow_cb 2 hts mw_1102 mw_12 mw_1099 rfl rfl hd_M_property ⟨Nat.le_of_ble_eq_true rfl, Nat.le_of_ble_eq_true rfl⟩, hts _ mw_1100, hts _ mw_1101⟩ (ow_preV hB k2 rfl) rfl rfl hl.1 rfl (lv_room (Nat.le_of_ble_eq_true rfl)) dc_L_law_1108 ⟨(by have := hcl; show _ ≤ 601024; omega), (by have := hsl; show _ ≤ 7293034; omega)⟩) hB (fun r4 M3 H locs h hB => ?_)
  refine lv_istore hx hb dc_L_law_1111 hl (by decide) rfl (fun ls hl => ?_)
  refine lv_aload_n hx hb dc_L_law_1113 rfl (lv_at hl 4 rfl) ?_
  refine ow_calli (va_runV (As := []) (rest := []) ⟨hx, hb, hml, hown, hts⟩ (ct_M_thrown l G hG D cA ad F _ k2 _ _ h) ⟨ow_cb 0 hts mw_874 mw_12 mw_871 rfl rfl hd_M_thrown ⟨Nat.le_of_ble_eq_true rfl, Nat.le_of_ble_eq_true rfl⟩, hts _ mw_872, hts _ mw_873⟩ (ow_preV hB k2 rfl) rfl rfl hl.1 rfl (lv_room (Nat.le_of_ble_eq_true rfl)) dc_L_law_1114 ⟨(by have := hcl; show _ ≤ 601024; omega), (by have := hsl; show _ ≤ 7293034; omega)⟩) hB (fun r6 M5 H locs h hB => ?_)
  refine lv_iload hx hb dc_L_law_1117 (lv_at hl 1 rfl) ?_
  obtain ⟨h1, h2⟩ := h
  refine lv_icmp_eq hx hb dc_L_law_1119 rfl (fun hc => ?_) (fun hc => ?_)
  · have h := h1 hc
    refine lv_iload hx hb dc_L_law_1124 (lv_at hl 1 rfl) ?_
    obtain ⟨h1, h2⟩ := h
    refine lv_if_ne hx hb dc_L_law_1126 rfl (fun hc => ?_) (fun hc => ?_)
    · have h := h2 hc
      refine lv_goto hx hb dc_L_law_1148 rfl ?_
      refine W.widen (k := cells + 2) (n := slots + 12) (by omega) (by omega) ?_
      exact hK _ _ _ _ h hB (lv_sub hl [2, 3, 4, 5, 6] rfl)
    · have h := h1 hc
      refine lv_aload_n hx hb dc_L_law_1129 rfl (lv_at hl 5 rfl) ?_
      refine lv_iconst (v := 0) hx hb dc_L_law_1130 rfl ?_
      obtain ⟨hi7, h⟩ := h
      refine ow_lald hx hb hB k3 hi7 dc_L_law_1131 ?_
      refine lv_iload hx hb dc_L_law_1132 (lv_at hl 0 rfl) ?_
      obtain ⟨h1, h2⟩ := h
      refine lv_if_eq hx hb dc_L_law_1134 rfl (fun hc => ?_) (fun hc => ?_)
      · have h := h1 hc
        refine lv_lconst (v := 0) hx hb dc_L_law_1141 rfl ?_
        obtain ⟨h1, h2⟩ := h
        refine ow_lcmp_eq hx hb dc_L_law_1142 dc_L_law_1143 rfl (fun hc => ?_) (fun hc => ?_)
        · have h := h1 hc
          refine lv_goto hx hb dc_L_law_1148 rfl ?_
          refine W.widen (k := cells + 2) (n := slots + 12) (by omega) (by omega) ?_
          exact hK _ _ _ _ h hB (lv_sub hl [2, 3, 4, 5, 6] rfl)
        · have h := h2 hc
          exact False.elim h
      · have h := h2 hc
        refine lv_lconst (v := 1) hx hb dc_L_law_1137 rfl ?_
        refine lv_goto hx hb dc_L_law_1138 rfl ?_
        obtain ⟨h1, h2⟩ := h
        refine ow_lcmp_eq hx hb dc_L_law_1142 dc_L_law_1143 rfl (fun hc => ?_) (fun hc => ?_)
        · have h := h1 hc
          refine lv_goto hx hb dc_L_law_1148 rfl ?_
          refine W.widen (k := cells + 2) (n := slots + 12) (by omega) (by omega) ?_
          exact hK _ _ _ _ h hB (lv_sub hl [2, 3, 4, 5, 6] rfl)
        · have h := h2 hc
          exact False.elim h
  · have h := h2 hc
    exact False.elim h
set_option maxHeartbeats 4000000 in
set_option maxRecDepth 100000 in
theorem lc_19 {p : Program} {l : Launch} (hfl : l.flags = Jvm.pinnedFlags ++ [Jvm.noTraceFlag]) {e : Env} {s : State} {m : MethodId} {args : Array Value} {below : List Frame} {meth : Method} {c : Code} {cells slots : Nat} {Qw : State → Prop} (hx : p.tables.exec = Jvm.exec) (hb : c.code = code) (hml : c.maxLocals = 8) (hown : s.vm.findClass "BallotDeskLaw" = some m.cls) (hts : ∀ w ∈ lw_g, w.before args s = true) {G : List (Nat × Nat)} (hG : ow_lay G) {D : va_G} {cA : Nat → ClassId} {ad : Nat → Nat} {A : Nat → Prop} {b0 L : Nat} {xs : Nat → Int32} (hX : va_X b0 L xs s s.heap) (hbl : b0 < s.heap.size) (hbA : ¬ A b0) (hZ : xw_Z A s s.heap) (hN : xw_N s) {F o1 o2 o3 : Nat} (k1 : ow_kd G o1 = (3, 0)) (k2 : ow_kd G o2 = (3, 9)) (k3 : ow_kd G o3 = (4, 1)) {i a1 a2 a3 : Int32} (hi1 : vp_in (i + 1) L) (ea1 : xs (i + 1).toNatClampNeg = a1) (hi2 : vp_in (i + 2) L) (ea2 : xs (i + 2).toNatClampNeg = a2) (hi3 : vp_in (i + 3) L) (ea3 : xs (i + 3).toNatClampNeg = a3) {M : om_M} {Q : om_M → Prop} {H : Heap} {locs : List Loc} {ls : Array Slot} (hcl : cells + 2 ≤ 601024) (hsl : slots + 12 ≤ 7293034) (h : wl_19 F o1 o2 o3 a1 a2 a3 M Q) (hB : ow_B G D cA ad A M s s.heap H locs) (hl : lv_has ls 8 [(0, .ref b0), (1, .ref (ad o1)), (2, .ref (ad o2)), (3, .ref (ad o3)), (4, .int i)])
    (hK : ∀ (M1 : om_M) (H : Heap) (locs : List Loc) (ls : Array Slot), Q M1 → ow_B G D cA ad A M1 s s.heap H locs → lv_has ls 8 [(0, .ref b0), (1, .ref (ad o1)), (2, .ref (ad o2)), (3, .ref (ad o3)), (4, .int i)] → W p l e room_1 s m args below meth c H locs (cells + 2) (slots + 12) Qw (F0 m 1339 ls [])) : W p l e room_1 s m args below meth c H locs cells slots Qw (F0 m 1151 ls []) := by
  refine lv_aload_n hx hb dc_L_law_1151 rfl (lv_at hl 1 rfl) ?_
  refine ow_calli (va_runV (As := []) (rest := []) ⟨hx, hb, hml, hown, hts⟩ (ct_D_witness l G hG D cA ad F _ k1 _ _ h) ⟨ow_cb 0 hts mw_322 mw_1 mw_319 rfl rfl hd_D_witness ⟨Nat.le_of_ble_eq_true rfl, Nat.le_of_ble_eq_true rfl⟩, hts _ mw_320, hts _ mw_321⟩ (ow_preV hB k1 rfl) rfl rfl hl.1 rfl (lv_room (Nat.le_of_ble_eq_true rfl)) dc_L_law_1152 ⟨(by have := hcl; show _ ≤ 601024; omega), (by have := hsl; show _ ≤ 7293034; omega)⟩) hB (fun r2 M1 H locs h hB => ?_)
  refine lv_aload_n hx hb dc_L_law_1155 rfl (lv_at hl 2 rfl) ?_
  refine ow_calli (va_runV (As := []) (rest := [.int r2]) ⟨hx, hb, hml, hown, hts⟩ (ct_M_witness l G hG D cA ad F _ k2 _ _ h) ⟨ow_cb 0 hts mw_1130 mw_12 mw_1127 rfl rfl hd_M_witness ⟨Nat.le_of_ble_eq_true rfl, Nat.le_of_ble_eq_true rfl⟩, hts _ mw_1128, hts _ mw_1129⟩ (ow_preV hB k2 rfl) rfl rfl hl.1 rfl (lv_room (Nat.le_of_ble_eq_true rfl)) dc_L_law_1156 ⟨(by have := hcl; show _ ≤ 601024; omega), (by have := hsl; show _ ≤ 7293034; omega)⟩) hB (fun r4 M3 H locs h hB => ?_)
  obtain ⟨h1, h2⟩ := h
  refine lv_icmp_eq hx hb dc_L_law_1159 rfl (fun hc => ?_) (fun hc => ?_)
  · have h := h1 hc
    refine W.widen (k := cells + 2) (n := slots + 12) (by omega) (by omega) ?_
    exact hK _ _ _ _ h hB (lv_sub hl [0, 1, 2, 3, 4] rfl)
  · have h := h2 hc
    exact False.elim h
set_option maxHeartbeats 4000000 in
set_option maxRecDepth 100000 in
theorem lc_20 {p : Program} {l : Launch} (hfl : l.flags = Jvm.pinnedFlags ++ [Jvm.noTraceFlag]) {e : Env} {s : State} {m : MethodId} {args : Array Value} {below : List Frame} {meth : Method} {c : Code} {cells slots : Nat} {Qw : State → Prop} (hx : p.tables.exec = Jvm.exec) (hb : c.code = code) (hml : c.maxLocals = 8) (hown : s.vm.findClass "BallotDeskLaw" = some m.cls) (hts : ∀ w ∈ lw_g, w.before args s = true) {G : List (Nat × Nat)} (hG : ow_lay G) {D : va_G} {cA : Nat → ClassId} {ad : Nat → Nat} {A : Nat → Prop} {b0 L : Nat} {xs : Nat → Int32} (hX : va_X b0 L xs s s.heap) (hbl : b0 < s.heap.size) (hbA : ¬ A b0) (hZ : xw_Z A s s.heap) (hN : xw_N s) {F o1 o2 o3 : Nat} (k1 : ow_kd G o1 = (3, 0)) (k2 : ow_kd G o2 = (3, 9)) (k3 : ow_kd G o3 = (4, 1)) {i a1 a2 a3 : Int32} (hi1 : vp_in (i + 1) L) (ea1 : xs (i + 1).toNatClampNeg = a1) (hi2 : vp_in (i + 2) L) (ea2 : xs (i + 2).toNatClampNeg = a2) (hi3 : vp_in (i + 3) L) (ea3 : xs (i + 3).toNatClampNeg = a3) {M : om_M} {Q : om_M → Prop} {H : Heap} {locs : List Loc} {ls : Array Slot} (hcl : cells + 2 ≤ 601024) (hsl : slots + 12 ≤ 7293034) (h : wl_20 F o1 o2 o3 a1 a2 a3 M Q) (hB : ow_B G D cA ad A M s s.heap H locs) (hl : lv_has ls 8 [(0, .ref b0), (1, .ref (ad o1)), (2, .ref (ad o2)), (3, .ref (ad o3)), (4, .int i)])
    (hK : ∀ (M1 : om_M) (H : Heap) (locs : List Loc) (ls : Array Slot), Q M1 → ow_B G D cA ad A M1 s s.heap H locs → lv_has ls 8 [(0, .ref b0), (1, .ref (ad o1)), (2, .ref (ad o2)), (3, .ref (ad o3)), (4, .int i)] → W p l e room_1 s m args below meth c H locs (cells + 2) (slots + 12) Qw (F0 m 1339 ls [])) : W p l e room_1 s m args below meth c H locs cells slots Qw (F0 m 1164 ls []) := by
  refine lv_aload_n hx hb dc_L_law_1164 rfl (lv_at hl 1 rfl) ?_
  refine lv_aload_n hx hb dc_L_law_1165 rfl (lv_at hl 0 rfl) ?_
  refine lv_iload hx hb dc_L_law_1166 (lv_at hl 4 rfl) ?_
  refine lv_iconst (v := 1) hx hb dc_L_law_1168 rfl ?_
  refine lv_iadd hx hb dc_L_law_1169 ?_
  refine lw_sld hx hb hX hbl hbA hB.2.2.2 hi1 ea1 dc_L_law_1170 ?_
  refine lv_aload_n hx hb dc_L_law_1171 rfl (lv_at hl 3 rfl) ?_
  refine xw_callS (As := [.ref (ad o1), .int a1, .ref (ad o3)]) (rest := []) (maxL := 4) (mc := 1) (ms := 6) hx hb hown hts (ct_L_circle l hfl G hG D cA ad F _ k1 _ _ _ k3 _ _ h) (hw_wsin mh_L_circle) (xw_cd_ofW (hts _ mh_L_circle)) mw_0 mw_750 mw_751 hd_L_circle rfl rfl (Nat.le_of_ble_eq_true rfl) (Nat.le_of_ble_eq_true rfl) hB (hw_pre hB hZ hN) (hl.1.trans hml.symm) (Nat.le_of_ble_eq_true rfl) rfl dc_L_law_1172 (lw_rc hcl (by decide)) (lw_rs hsl (by decide)) (fun q k M H locs ce hX => False.elim hX) (fun v M1 H locs h hB => ?_)
  obtain ⟨r2, rfl, h⟩ := h
  refine lv_istore hx hb dc_L_law_1175 hl (by decide) rfl (fun ls hl => ?_)
  refine lv_aload_n hx hb dc_L_law_1177 rfl (lv_at hl 3 rfl) ?_
  refine lv_aload_n hx hb dc_L_law_1178 rfl (lv_at hl 1 rfl) ?_
  refine lv_iload hx hb dc_L_law_1179 (lv_at hl 5 rfl) ?_
  refine lv_iconst (v := 1) hx hb dc_L_law_1181 rfl ?_
  refine lv_iadd hx hb dc_L_law_1182 ?_
  refine lw_sld hx hb hX hbl hbA hB.2.2.2 hi1 ea1 dc_L_law_1183 ?_
  refine ow_calli (va_runV (As := [.int a1]) (rest := []) ⟨hx, hb, hml, hown, hts⟩ (ct_M_circle l G hG D cA ad F _ k2 _ _ _ h) ⟨ow_cb 1 hts mw_1134 mw_12 mw_1131 rfl rfl hd_M_circle ⟨Nat.le_of_ble_eq_true rfl, Nat.le_of_ble_eq_true rfl⟩, hts _ mw_1132, hts _ mw_1133⟩ (ow_preV hB k2 rfl) rfl rfl hl.1 rfl (lv_room (Nat.le_of_ble_eq_true rfl)) dc_L_law_1184 ⟨(by have := hcl; show _ ≤ 601024; omega), (by have := hsl; show _ ≤ 7293034; omega)⟩) hB (fun r4 M3 H locs h hB => ?_)
  refine lv_istore hx hb dc_L_law_1187 hl (by decide) rfl (fun ls hl => ?_)
  refine lv_aload_n hx hb dc_L_law_1189 rfl (lv_at hl 4 rfl) ?_
  refine ow_calli (va_runV (As := []) (rest := []) ⟨hx, hb, hml, hown, hts⟩ (ct_M_thrown l G hG D cA ad F _ k2 _ _ h) ⟨ow_cb 0 hts mw_874 mw_12 mw_871 rfl rfl hd_M_thrown ⟨Nat.le_of_ble_eq_true rfl, Nat.le_of_ble_eq_true rfl⟩, hts _ mw_872, hts _ mw_873⟩ (ow_preV hB k2 rfl) rfl rfl hl.1 rfl (lv_room (Nat.le_of_ble_eq_true rfl)) dc_L_law_1190 ⟨(by have := hcl; show _ ≤ 601024; omega), (by have := hsl; show _ ≤ 7293034; omega)⟩) hB (fun r6 M5 H locs h hB => ?_)
  refine lv_iload hx hb dc_L_law_1193 (lv_at hl 1 rfl) ?_
  obtain ⟨h1, h2⟩ := h
  refine lv_icmp_eq hx hb dc_L_law_1195 rfl (fun hc => ?_) (fun hc => ?_)
  · have h := h1 hc
    refine lv_iload hx hb dc_L_law_1200 (lv_at hl 1 rfl) ?_
    obtain ⟨h1, h2⟩ := h
    refine lv_if_ne hx hb dc_L_law_1202 rfl (fun hc => ?_) (fun hc => ?_)
    · have h := h2 hc
      refine lv_goto hx hb dc_L_law_1217 rfl ?_
      refine W.widen (k := cells + 2) (n := slots + 12) (by omega) (by omega) ?_
      exact hK _ _ _ _ h hB (lv_sub hl [2, 3, 4, 5, 6] rfl)
    · have h := h1 hc
      refine lv_aload_n hx hb dc_L_law_1205 rfl (lv_at hl 5 rfl) ?_
      refine lv_iconst (v := 0) hx hb dc_L_law_1206 rfl ?_
      obtain ⟨hi7, h⟩ := h
      refine ow_lald hx hb hB k3 hi7 dc_L_law_1207 ?_
      refine lv_iload hx hb dc_L_law_1208 (lv_at hl 0 rfl) ?_
      refine lv_i2l hx hb dc_L_law_1210 rfl ?_
      obtain ⟨h1, h2⟩ := h
      refine ow_lcmp_eq hx hb dc_L_law_1211 dc_L_law_1212 rfl (fun hc => ?_) (fun hc => ?_)
      · have h := h1 hc
        refine lv_goto hx hb dc_L_law_1217 rfl ?_
        refine W.widen (k := cells + 2) (n := slots + 12) (by omega) (by omega) ?_
        exact hK _ _ _ _ h hB (lv_sub hl [2, 3, 4, 5, 6] rfl)
      · have h := h2 hc
        exact False.elim h
  · have h := h2 hc
    exact False.elim h
set_option maxHeartbeats 4000000 in
set_option maxRecDepth 100000 in
theorem lc_21 {p : Program} {l : Launch} (hfl : l.flags = Jvm.pinnedFlags ++ [Jvm.noTraceFlag]) {e : Env} {s : State} {m : MethodId} {args : Array Value} {below : List Frame} {meth : Method} {c : Code} {cells slots : Nat} {Qw : State → Prop} (hx : p.tables.exec = Jvm.exec) (hb : c.code = code) (hml : c.maxLocals = 8) (hown : s.vm.findClass "BallotDeskLaw" = some m.cls) (hts : ∀ w ∈ lw_g, w.before args s = true) {G : List (Nat × Nat)} (hG : ow_lay G) {D : va_G} {cA : Nat → ClassId} {ad : Nat → Nat} {A : Nat → Prop} {b0 L : Nat} {xs : Nat → Int32} (hX : va_X b0 L xs s s.heap) (hbl : b0 < s.heap.size) (hbA : ¬ A b0) (hZ : xw_Z A s s.heap) (hN : xw_N s) {F o1 o2 o3 : Nat} (k1 : ow_kd G o1 = (3, 0)) (k2 : ow_kd G o2 = (3, 9)) (k3 : ow_kd G o3 = (4, 1)) {i a1 a2 a3 : Int32} (hi1 : vp_in (i + 1) L) (ea1 : xs (i + 1).toNatClampNeg = a1) (hi2 : vp_in (i + 2) L) (ea2 : xs (i + 2).toNatClampNeg = a2) (hi3 : vp_in (i + 3) L) (ea3 : xs (i + 3).toNatClampNeg = a3) {M : om_M} {Q : om_M → Prop} {H : Heap} {locs : List Loc} {ls : Array Slot} (hcl : cells + 2 ≤ 601024) (hsl : slots + 12 ≤ 7293034) (h : wl_21 F o1 o2 o3 a1 a2 a3 M Q) (hB : ow_B G D cA ad A M s s.heap H locs) (hl : lv_has ls 8 [(0, .ref b0), (1, .ref (ad o1)), (2, .ref (ad o2)), (3, .ref (ad o3)), (4, .int i)])
    (hK : ∀ (M1 : om_M) (H : Heap) (locs : List Loc) (ls : Array Slot), Q M1 → ow_B G D cA ad A M1 s s.heap H locs → lv_has ls 8 [(0, .ref b0), (1, .ref (ad o1)), (2, .ref (ad o2)), (3, .ref (ad o3)), (4, .int i)] → W p l e room_1 s m args below meth c H locs (cells + 2) (slots + 12) Qw (F0 m 1339 ls [])) : W p l e room_1 s m args below meth c H locs cells slots Qw (F0 m 1220 ls []) := by
  refine lv_aload_n hx hb dc_L_law_1220 rfl (lv_at hl 1 rfl) ?_
  refine lv_aload_n hx hb dc_L_law_1221 rfl (lv_at hl 0 rfl) ?_
  refine lv_iload hx hb dc_L_law_1222 (lv_at hl 4 rfl) ?_
  refine lv_iconst (v := 1) hx hb dc_L_law_1224 rfl ?_
  refine lv_iadd hx hb dc_L_law_1225 ?_
  refine lw_sld hx hb hX hbl hbA hB.2.2.2 hi1 ea1 dc_L_law_1226 ?_
  refine lv_aload_n hx hb dc_L_law_1227 rfl (lv_at hl 3 rfl) ?_
  refine xw_callS (As := [.ref (ad o1), .int a1, .ref (ad o3)]) (rest := []) (maxL := 4) (mc := 1) (ms := 6) hx hb hown hts (ct_L_clones l hfl G hG D cA ad F _ k1 _ _ _ k3 _ _ h) (hw_wsin mh_L_clones) (xw_cd_ofW (hts _ mh_L_clones)) mw_0 mw_762 mw_763 hd_L_clones rfl rfl (Nat.le_of_ble_eq_true rfl) (Nat.le_of_ble_eq_true rfl) hB (hw_pre hB hZ hN) (hl.1.trans hml.symm) (Nat.le_of_ble_eq_true rfl) rfl dc_L_law_1228 (lw_rc hcl (by decide)) (lw_rs hsl (by decide)) (fun q k M H locs ce hX => False.elim hX) (fun v M1 H locs h hB => ?_)
  obtain ⟨r2, rfl, h⟩ := h
  refine lv_istore hx hb dc_L_law_1231 hl (by decide) rfl (fun ls hl => ?_)
  refine lv_aload_n hx hb dc_L_law_1233 rfl (lv_at hl 3 rfl) ?_
  refine lv_aload_n hx hb dc_L_law_1234 rfl (lv_at hl 1 rfl) ?_
  refine lv_iload hx hb dc_L_law_1235 (lv_at hl 5 rfl) ?_
  refine lv_iconst (v := 1) hx hb dc_L_law_1237 rfl ?_
  refine lv_iadd hx hb dc_L_law_1238 ?_
  refine lw_sld hx hb hX hbl hbA hB.2.2.2 hi1 ea1 dc_L_law_1239 ?_
  refine ow_calli (va_runV (As := [.int a1]) (rest := []) ⟨hx, hb, hml, hown, hts⟩ (ct_M_clones l G hG D cA ad F _ k2 _ _ _ h) ⟨ow_cb 1 hts mw_1138 mw_12 mw_1135 rfl rfl hd_M_clones ⟨Nat.le_of_ble_eq_true rfl, Nat.le_of_ble_eq_true rfl⟩, hts _ mw_1136, hts _ mw_1137⟩ (ow_preV hB k2 rfl) rfl rfl hl.1 rfl (lv_room (Nat.le_of_ble_eq_true rfl)) dc_L_law_1240 ⟨(by have := hcl; show _ ≤ 601024; omega), (by have := hsl; show _ ≤ 7293034; omega)⟩) hB (fun r4 M3 H locs h hB => ?_)
  refine lv_istore hx hb dc_L_law_1243 hl (by decide) rfl (fun ls hl => ?_)
  refine lv_aload_n hx hb dc_L_law_1245 rfl (lv_at hl 4 rfl) ?_
  refine ow_calli (va_runV (As := []) (rest := []) ⟨hx, hb, hml, hown, hts⟩ (ct_M_thrown l G hG D cA ad F _ k2 _ _ h) ⟨ow_cb 0 hts mw_874 mw_12 mw_871 rfl rfl hd_M_thrown ⟨Nat.le_of_ble_eq_true rfl, Nat.le_of_ble_eq_true rfl⟩, hts _ mw_872, hts _ mw_873⟩ (ow_preV hB k2 rfl) rfl rfl hl.1 rfl (lv_room (Nat.le_of_ble_eq_true rfl)) dc_L_law_1246 ⟨(by have := hcl; show _ ≤ 601024; omega), (by have := hsl; show _ ≤ 7293034; omega)⟩) hB (fun r6 M5 H locs h hB => ?_)
  refine lv_iload hx hb dc_L_law_1249 (lv_at hl 1 rfl) ?_
  obtain ⟨h1, h2⟩ := h
  refine lv_icmp_eq hx hb dc_L_law_1251 rfl (fun hc => ?_) (fun hc => ?_)
  · have h := h1 hc
    refine lv_iload hx hb dc_L_law_1256 (lv_at hl 1 rfl) ?_
    obtain ⟨h1, h2⟩ := h
    refine lv_if_ne hx hb dc_L_law_1258 rfl (fun hc => ?_) (fun hc => ?_)
    · have h := h2 hc
      refine lv_goto hx hb dc_L_law_1280 rfl ?_
      refine W.widen (k := cells + 2) (n := slots + 12) (by omega) (by omega) ?_
      exact hK _ _ _ _ h hB (lv_sub hl [2, 3, 4, 5, 6] rfl)
    · have h := h1 hc
      refine lv_aload_n hx hb dc_L_law_1261 rfl (lv_at hl 5 rfl) ?_
      refine lv_iconst (v := 0) hx hb dc_L_law_1262 rfl ?_
      obtain ⟨hi7, h⟩ := h
      refine ow_lald hx hb hB k3 hi7 dc_L_law_1263 ?_
      refine lv_iload hx hb dc_L_law_1264 (lv_at hl 0 rfl) ?_
      obtain ⟨h1, h2⟩ := h
      refine lv_if_eq hx hb dc_L_law_1266 rfl (fun hc => ?_) (fun hc => ?_)
      · have h := h1 hc
        refine lv_lconst (v := 0) hx hb dc_L_law_1273 rfl ?_
        obtain ⟨h1, h2⟩ := h
        refine ow_lcmp_eq hx hb dc_L_law_1274 dc_L_law_1275 rfl (fun hc => ?_) (fun hc => ?_)
        · have h := h1 hc
          refine lv_goto hx hb dc_L_law_1280 rfl ?_
          refine W.widen (k := cells + 2) (n := slots + 12) (by omega) (by omega) ?_
          exact hK _ _ _ _ h hB (lv_sub hl [2, 3, 4, 5, 6] rfl)
        · have h := h2 hc
          exact False.elim h
      · have h := h2 hc
        refine lv_lconst (v := 1) hx hb dc_L_law_1269 rfl ?_
        refine lv_goto hx hb dc_L_law_1270 rfl ?_
        obtain ⟨h1, h2⟩ := h
        refine ow_lcmp_eq hx hb dc_L_law_1274 dc_L_law_1275 rfl (fun hc => ?_) (fun hc => ?_)
        · have h := h1 hc
          refine lv_goto hx hb dc_L_law_1280 rfl ?_
          refine W.widen (k := cells + 2) (n := slots + 12) (by omega) (by omega) ?_
          exact hK _ _ _ _ h hB (lv_sub hl [2, 3, 4, 5, 6] rfl)
        · have h := h2 hc
          exact False.elim h
  · have h := h2 hc
    exact False.elim h
set_option maxHeartbeats 4000000 in
set_option maxRecDepth 100000 in
theorem lc_22 {p : Program} {l : Launch} (hfl : l.flags = Jvm.pinnedFlags ++ [Jvm.noTraceFlag]) {e : Env} {s : State} {m : MethodId} {args : Array Value} {below : List Frame} {meth : Method} {c : Code} {cells slots : Nat} {Qw : State → Prop} (hx : p.tables.exec = Jvm.exec) (hb : c.code = code) (hml : c.maxLocals = 8) (hown : s.vm.findClass "BallotDeskLaw" = some m.cls) (hts : ∀ w ∈ lw_g, w.before args s = true) {G : List (Nat × Nat)} (hG : ow_lay G) {D : va_G} {cA : Nat → ClassId} {ad : Nat → Nat} {A : Nat → Prop} {b0 L : Nat} {xs : Nat → Int32} (hX : va_X b0 L xs s s.heap) (hbl : b0 < s.heap.size) (hbA : ¬ A b0) (hZ : xw_Z A s s.heap) (hN : xw_N s) {F o1 o2 o3 : Nat} (k1 : ow_kd G o1 = (3, 0)) (k2 : ow_kd G o2 = (3, 9)) (k3 : ow_kd G o3 = (4, 1)) {i a1 a2 a3 : Int32} (hi1 : vp_in (i + 1) L) (ea1 : xs (i + 1).toNatClampNeg = a1) (hi2 : vp_in (i + 2) L) (ea2 : xs (i + 2).toNatClampNeg = a2) (hi3 : vp_in (i + 3) L) (ea3 : xs (i + 3).toNatClampNeg = a3) {M : om_M} {Q : om_M → Prop} {H : Heap} {locs : List Loc} {ls : Array Slot} (hcl : cells + 2 ≤ 601024) (hsl : slots + 12 ≤ 7293034) (h : wl_22 F o1 o2 o3 a1 a2 a3 M Q) (hB : ow_B G D cA ad A M s s.heap H locs) (hl : lv_has ls 8 [(0, .ref b0), (1, .ref (ad o1)), (2, .ref (ad o2)), (3, .ref (ad o3)), (4, .int i)])
    (hK : ∀ (M1 : om_M) (H : Heap) (locs : List Loc) (ls : Array Slot), Q M1 → ow_B G D cA ad A M1 s s.heap H locs → lv_has ls 8 [(0, .ref b0), (1, .ref (ad o1)), (2, .ref (ad o2)), (3, .ref (ad o3)), (4, .int i)] → W p l e room_1 s m args below meth c H locs (cells + 2) (slots + 12) Qw (F0 m 1339 ls [])) : W p l e room_1 s m args below meth c H locs cells slots Qw (F0 m 1283 ls []) := by
  refine lv_aload_n hx hb dc_L_law_1283 rfl (lv_at hl 1 rfl) ?_
  refine lv_aload_n hx hb dc_L_law_1284 rfl (lv_at hl 0 rfl) ?_
  refine lv_iload hx hb dc_L_law_1285 (lv_at hl 4 rfl) ?_
  refine lv_iconst (v := 1) hx hb dc_L_law_1287 rfl ?_
  refine lv_iadd hx hb dc_L_law_1288 ?_
  refine lw_sld hx hb hX hbl hbA hB.2.2.2 hi1 ea1 dc_L_law_1289 ?_
  refine lv_aload_n hx hb dc_L_law_1290 rfl (lv_at hl 3 rfl) ?_
  refine xw_callS (As := [.ref (ad o1), .int a1, .ref (ad o3)]) (rest := []) (maxL := 4) (mc := 1) (ms := 6) hx hb hown hts (ct_L_count l hfl G hG D cA ad F _ k1 _ _ _ k3 _ _ h) (hw_wsin mh_L_count) (xw_cd_ofW (hts _ mh_L_count)) mw_0 mw_776 mw_777 hd_L_count rfl rfl (Nat.le_of_ble_eq_true rfl) (Nat.le_of_ble_eq_true rfl) hB (hw_pre hB hZ hN) (hl.1.trans hml.symm) (Nat.le_of_ble_eq_true rfl) rfl dc_L_law_1291 (lw_rc hcl (by decide)) (lw_rs hsl (by decide)) (fun q k M H locs ce hX => False.elim hX) (fun v M1 H locs h hB => ?_)
  obtain ⟨r2, rfl, h⟩ := h
  refine lv_istore hx hb dc_L_law_1294 hl (by decide) rfl (fun ls hl => ?_)
  refine lv_aload_n hx hb dc_L_law_1296 rfl (lv_at hl 3 rfl) ?_
  refine lv_aload_n hx hb dc_L_law_1297 rfl (lv_at hl 1 rfl) ?_
  refine lv_iload hx hb dc_L_law_1298 (lv_at hl 5 rfl) ?_
  refine lv_iconst (v := 1) hx hb dc_L_law_1300 rfl ?_
  refine lv_iadd hx hb dc_L_law_1301 ?_
  refine lw_sld hx hb hX hbl hbA hB.2.2.2 hi1 ea1 dc_L_law_1302 ?_
  refine ow_calli (va_runV (As := [.int a1]) (rest := []) ⟨hx, hb, hml, hown, hts⟩ (ct_M_count l G hG D cA ad F _ k2 _ _ _ h) ⟨ow_cb 1 hts mw_1142 mw_12 mw_1139 rfl rfl hd_M_count ⟨Nat.le_of_ble_eq_true rfl, Nat.le_of_ble_eq_true rfl⟩, hts _ mw_1140, hts _ mw_1141⟩ (ow_preV hB k2 rfl) rfl rfl hl.1 rfl (lv_room (Nat.le_of_ble_eq_true rfl)) dc_L_law_1303 ⟨(by have := hcl; show _ ≤ 601024; omega), (by have := hsl; show _ ≤ 7293034; omega)⟩) hB (fun r4 M3 H locs h hB => ?_)
  refine lv_istore hx hb dc_L_law_1306 hl (by decide) rfl (fun ls hl => ?_)
  refine lv_aload_n hx hb dc_L_law_1308 rfl (lv_at hl 4 rfl) ?_
  refine ow_calli (va_runV (As := []) (rest := []) ⟨hx, hb, hml, hown, hts⟩ (ct_M_thrown l G hG D cA ad F _ k2 _ _ h) ⟨ow_cb 0 hts mw_874 mw_12 mw_871 rfl rfl hd_M_thrown ⟨Nat.le_of_ble_eq_true rfl, Nat.le_of_ble_eq_true rfl⟩, hts _ mw_872, hts _ mw_873⟩ (ow_preV hB k2 rfl) rfl rfl hl.1 rfl (lv_room (Nat.le_of_ble_eq_true rfl)) dc_L_law_1309 ⟨(by have := hcl; show _ ≤ 601024; omega), (by have := hsl; show _ ≤ 7293034; omega)⟩) hB (fun r6 M5 H locs h hB => ?_)
  refine lv_iload hx hb dc_L_law_1312 (lv_at hl 1 rfl) ?_
  obtain ⟨h1, h2⟩ := h
  refine lv_icmp_eq hx hb dc_L_law_1314 rfl (fun hc => ?_) (fun hc => ?_)
  · have h := h1 hc
    refine lv_iload hx hb dc_L_law_1319 (lv_at hl 1 rfl) ?_
    obtain ⟨h1, h2⟩ := h
    refine lv_if_ne hx hb dc_L_law_1321 rfl (fun hc => ?_) (fun hc => ?_)
    · have h := h2 hc
      refine lv_goto hx hb dc_L_law_1336 rfl ?_
      refine W.widen (k := cells + 2) (n := slots + 12) (by omega) (by omega) ?_
      exact hK _ _ _ _ h hB (lv_sub hl [2, 3, 4, 5, 6] rfl)
    · have h := h1 hc
      refine lv_aload_n hx hb dc_L_law_1324 rfl (lv_at hl 5 rfl) ?_
      refine lv_iconst (v := 0) hx hb dc_L_law_1325 rfl ?_
      obtain ⟨hi7, h⟩ := h
      refine ow_lald hx hb hB k3 hi7 dc_L_law_1326 ?_
      refine lv_iload hx hb dc_L_law_1327 (lv_at hl 0 rfl) ?_
      refine lv_i2l hx hb dc_L_law_1329 rfl ?_
      obtain ⟨h1, h2⟩ := h
      refine ow_lcmp_eq hx hb dc_L_law_1330 dc_L_law_1331 rfl (fun hc => ?_) (fun hc => ?_)
      · have h := h1 hc
        refine lv_goto hx hb dc_L_law_1336 rfl ?_
        refine W.widen (k := cells + 2) (n := slots + 12) (by omega) (by omega) ?_
        exact hK _ _ _ _ h hB (lv_sub hl [2, 3, 4, 5, 6] rfl)
      · have h := h2 hc
        exact False.elim h
  · have h := h2 hc
    exact False.elim h
