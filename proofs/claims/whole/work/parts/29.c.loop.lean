/-- what the pure part must give: I is kept by each of the 23 calls, and class and model answer alike -/
def lw_inv (F o1 o2 o3 : Nat) (I : om_M → Prop) : Prop := (∀ (M : om_M) (a1 a2 a3 : Int32), I M → wl_0 F o1 o2 o3 a1 a2 a3 M I) ∧ (∀ (M : om_M) (a1 a2 a3 : Int32), I M → wl_1 F o1 o2 o3 a1 a2 a3 M I) ∧ (∀ (M : om_M) (a1 a2 a3 : Int32), I M → wl_2 F o1 o2 o3 a1 a2 a3 M I) ∧ (∀ (M : om_M) (a1 a2 a3 : Int32), I M → wl_3 F o1 o2 o3 a1 a2 a3 M I) ∧ (∀ (M : om_M) (a1 a2 a3 : Int32), I M → wl_4 F o1 o2 o3 a1 a2 a3 M I) ∧ (∀ (M : om_M) (a1 a2 a3 : Int32), I M → wl_5 F o1 o2 o3 a1 a2 a3 M I) ∧ (∀ (M : om_M) (a1 a2 a3 : Int32), I M → wl_6 F o1 o2 o3 a1 a2 a3 M I) ∧ (∀ (M : om_M) (a1 a2 a3 : Int32), I M → wl_7 F o1 o2 o3 a1 a2 a3 M I) ∧ (∀ (M : om_M) (a1 a2 a3 : Int32), I M → wl_8 F o1 o2 o3 a1 a2 a3 M I) ∧ (∀ (M : om_M) (a1 a2 a3 : Int32), I M → wl_9 F o1 o2 o3 a1 a2 a3 M I) ∧ (∀ (M : om_M) (a1 a2 a3 : Int32), I M → wl_10 F o1 o2 o3 a1 a2 a3 M I) ∧ (∀ (M : om_M) (a1 a2 a3 : Int32), I M → wl_11 F o1 o2 o3 a1 a2 a3 M I) ∧ (∀ (M : om_M) (a1 a2 a3 : Int32), I M → wl_12 F o1 o2 o3 a1 a2 a3 M I) ∧ (∀ (M : om_M) (a1 a2 a3 : Int32), I M → wl_13 F o1 o2 o3 a1 a2 a3 M I) ∧ (∀ (M : om_M) (a1 a2 a3 : Int32), I M → wl_14 F o1 o2 o3 a1 a2 a3 M I) ∧ (∀ (M : om_M) (a1 a2 a3 : Int32), I M → wl_15 F o1 o2 o3 a1 a2 a3 M I) ∧ (∀ (M : om_M) (a1 a2 a3 : Int32), I M → wl_16 F o1 o2 o3 a1 a2 a3 M I) ∧ (∀ (M : om_M) (a1 a2 a3 : Int32), I M → wl_17 F o1 o2 o3 a1 a2 a3 M I) ∧ (∀ (M : om_M) (a1 a2 a3 : Int32), I M → wl_18 F o1 o2 o3 a1 a2 a3 M I) ∧ (∀ (M : om_M) (a1 a2 a3 : Int32), I M → wl_19 F o1 o2 o3 a1 a2 a3 M I) ∧ (∀ (M : om_M) (a1 a2 a3 : Int32), I M → wl_20 F o1 o2 o3 a1 a2 a3 M I) ∧ (∀ (M : om_M) (a1 a2 a3 : Int32), I M → wl_21 F o1 o2 o3 a1 a2 a3 M I) ∧ (∀ (M : om_M) (a1 a2 a3 : Int32), I M → wl_22 F o1 o2 o3 a1 a2 a3 M I)
theorem lw_i {j k : Nat} (h : 4 * j + k < 2147483648) : (Int32.ofNat (4 * j) + Int32.ofNat k).toInt = (4 * j + k : Nat) := by
  rw [← Int32.ofNat_add]
  exact Int32.toInt_ofNat_of_lt (by simpa using h)
theorem lw_in {j k L : Nat} (h : 4 * j + k < L) (hL : L ≤ 2048) : vp_in (Int32.ofNat (4 * j) + Int32.ofNat k) L := by
  have e := lw_i (j := j) (k := k) (by omega)
  intro q
  rcases q with q | q
  · rw [Int32.lt_iff_toInt_lt, e] at q
    simp at q
    omega
  · have : (Int32.ofNat (4 * j) + Int32.ofNat k).toNatClampNeg = 4 * j + k := by
      show (Int32.ofNat (4 * j) + Int32.ofNat k).toInt.toNat = _
      rw [e]
      rfl
    omega
theorem lw_go {j L : Nat} (hL : L ≤ 2048) (hj : j ≤ 600) (h : ¬ Int32.ofNat L - 4 < Int32.ofNat (4 * j)) : 4 * j + 3 < L := by
  rw [Int32.lt_iff_toInt_lt] at h
  have e1 : (Int32.ofNat (4 * j)).toInt = (4 * j : Nat) := Int32.toInt_ofNat_of_lt (by omega)
  have e2 : (Int32.ofNat L).toInt = (L : Nat) := Int32.toInt_ofNat_of_lt (by omega)
  have e3 : (Int32.ofNat L - 4).toInt = (L : Int) - 4 := by
    rw [Int32.toInt_sub, e2]
    show ((L : Int) - 4).bmod 4294967296 = _
    rw [Int.bmod_def]
    split <;> omega
  rw [e1, e3] at h
  omega
theorem lw_next (j : Nat) : Int32.ofNat (4 * j) + 4 = Int32.ofNat (4 * (j + 1)) := by
  rw [Nat.mul_add, Int32.ofNat_add]
  rfl
set_option maxHeartbeats 8000000 in
set_option maxRecDepth 100000 in
theorem lw_loop {p : Program} {l : Launch} (hfl : l.flags = Jvm.pinnedFlags ++ [Jvm.noTraceFlag]) {e : Env} {s : State} {m : MethodId} {args : Array Value} {below : List Frame} {meth : Method} {c : Code} {Qw : State → Prop} (hx : p.tables.exec = Jvm.exec) (hb : c.code = code) (hml : c.maxLocals = 8) (hown : s.vm.findClass "BallotDeskLaw" = some m.cls) (hts : ∀ w ∈ lw_g, w.before args s = true) {G : List (Nat × Nat)} (hG : ow_lay G) {D : va_G} {cA : Nat → ClassId} {ad : Nat → Nat} {A : Nat → Prop} {b0 L : Nat} {xs : Nat → Int32} (hL : L ≤ 2048) (hX : va_X b0 L xs s s.heap) (hbl : b0 < s.heap.size) (hbA : ¬ A b0) (hZ : xw_Z A s s.heap) (hN : xw_N s) {F o1 o2 o3 : Nat} (k1 : ow_kd G o1 = (3, 0)) (k2 : ow_kd G o2 = (3, 9)) (k3 : ow_kd G o3 = (4, 1)) {I : om_M → Prop} (hI : lw_inv F o1 o2 o3 I) {c0 s0 : Nat} (hc0 : c0 + 1400 ≤ 601024) (hs0 : s0 + 8400 ≤ 7293034)
    (hE : ∀ (M : om_M) (H : Heap) (locs : List Loc) (ls : Array Slot), I M → ow_B G D cA ad A M s s.heap H locs → W p l e room_1 s m args below meth c H locs 601024 7293034 Qw (F0 m 1345 ls [])) :
    ∀ (n j : Nat), L ≤ 4 * (j + n) → j ≤ 512 → ∀ (M : om_M) (H : Heap) (locs : List Loc) (ls : Array Slot), I M → ow_B G D cA ad A M s s.heap H locs → lv_has ls 8 [(0, .ref b0), (1, .ref (ad o1)), (2, .ref (ad o2)), (3, .ref (ad o3)), (4, .int (Int32.ofNat (4 * j)))] → W p l e room_1 s m args below meth c H locs (c0 + 2 * j) (s0 + 12 * j) Qw (F0 m 23 ls []) := by
  intro n
  induction n with
  | zero =>
    intro j hn hj M H locs ls h hB hl
    refine lv_iload hx hb dc_L_law_23 (lv_at hl 4 rfl) ?_
    refine lv_aload_n hx hb dc_L_law_25 rfl (lv_at hl 0 rfl) ?_
    refine va_slen hx hb hX hbl hbA hB.2.2.2 dc_L_law_26 ?_
    refine lv_iconst (v := 4) hx hb dc_L_law_27 rfl ?_
    refine lv_isub hx hb dc_L_law_28 ?_
    refine lv_icmp_gt hx hb dc_L_law_29 rfl (fun hc => ?_) (fun hc => ?_)
    · exact W.widen (k := 601024) (n := 7293034) (by omega) (by omega) (hE M H locs ls h hB)
    · have := lw_go hL (by omega) hc
      omega
  | succ n ih =>
    intro j hn hj M H locs ls h hB hl
    refine lv_iload hx hb dc_L_law_23 (lv_at hl 4 rfl) ?_
    refine lv_aload_n hx hb dc_L_law_25 rfl (lv_at hl 0 rfl) ?_
    refine va_slen hx hb hX hbl hbA hB.2.2.2 dc_L_law_26 ?_
    refine lv_iconst (v := 4) hx hb dc_L_law_27 rfl ?_
    refine lv_isub hx hb dc_L_law_28 ?_
    refine lv_icmp_gt hx hb dc_L_law_29 rfl (fun hc => ?_) (fun hc => ?_)
    · exact W.widen (k := 601024) (n := 7293034) (by omega) (by omega) (hE M H locs ls h hB)
    · have hlt := lw_go hL (by omega) hc
      refine lv_aload_n hx hb dc_L_law_32 rfl (lv_at hl 0 rfl) ?_
      refine lv_iload hx hb dc_L_law_33 (lv_at hl 4 rfl) ?_
      refine lw_sld (a := xs (Int32.ofNat (4 * j)).toNatClampNeg) hx hb hX hbl hbA hB.2.2.2 (by have := lw_in (j := j) (k := 0) (L := L) (by omega) hL; rwa [show Int32.ofNat 0 = 0 from rfl, Int32.add_zero] at this) rfl dc_L_law_35 ?_
      refine lv_bipush (v := 31) hx hb dc_L_law_36 rfl ?_
      refine lv_iand hx hb dc_L_law_38 ?_
      generalize xs (Int32.ofNat (4 * j)).toNatClampNeg &&& 31 = x
      have hK : ∀ (M1 : om_M) (H : Heap) (locs : List Loc) (ls : Array Slot), I M1 → ow_B G D cA ad A M1 s s.heap H locs → lv_has ls 8 [(0, .ref b0), (1, .ref (ad o1)), (2, .ref (ad o2)), (3, .ref (ad o3)), (4, .int (Int32.ofNat (4 * j)))] → W p l e room_1 s m args below meth c H locs (c0 + 2 * j + 2) (s0 + 12 * j + 12) Qw (F0 m 1339 ls []) := by
        intro M1 H locs ls h hB hl
        refine lv_iinc hx hb dc_L_law_1339 hl (k := 4) rfl rfl (by decide) rfl (fun ls hl => ?_)
        refine lv_goto hx hb dc_L_law_1342 rfl ?_
        refine W.widen (k := c0 + 2 * (j + 1)) (n := s0 + 12 * (j + 1)) (by omega) (by omega) ?_
        refine ih (j + 1) (by omega) (by omega) M1 H locs ls h hB ?_
        have hl := lv_sub hl [1, 2, 3, 4, 0] rfl
        rw [← lw_next j]
        exact hl
      by_cases hc0 : x = 0
      · refine lv_tableIn hx hb dc_L_law_39 (by rw [hc0]; decide) (by rw [hc0]; decide) (by rw [hc0]; rfl) rfl ?_
        exact lc_0 hfl hx hb hml hown hts hG hX hbl hbA hZ hN k1 k2 k3 (lw_in (k := 1) (by omega) hL) rfl (lw_in (k := 2) (by omega) hL) rfl (lw_in (k := 3) (by omega) hL) rfl (by omega) (by omega) (hI.1 _ _ _ _ h) hB hl hK
      by_cases hc1 : x = 1
      · refine lv_tableIn hx hb dc_L_law_39 (by rw [hc1]; decide) (by rw [hc1]; decide) (by rw [hc1]; rfl) rfl ?_
        exact lc_1 hfl hx hb hml hown hts hG hX hbl hbA hZ hN k1 k2 k3 (lw_in (k := 1) (by omega) hL) rfl (lw_in (k := 2) (by omega) hL) rfl (lw_in (k := 3) (by omega) hL) rfl (by omega) (by omega) (hI.2.1 _ _ _ _ h) hB hl hK
      by_cases hc2 : x = 2
      · refine lv_tableIn hx hb dc_L_law_39 (by rw [hc2]; decide) (by rw [hc2]; decide) (by rw [hc2]; rfl) rfl ?_
        exact lc_2 hfl hx hb hml hown hts hG hX hbl hbA hZ hN k1 k2 k3 (lw_in (k := 1) (by omega) hL) rfl (lw_in (k := 2) (by omega) hL) rfl (lw_in (k := 3) (by omega) hL) rfl (by omega) (by omega) (hI.2.2.1 _ _ _ _ h) hB hl hK
      by_cases hc3 : x = 3
      · refine lv_tableIn hx hb dc_L_law_39 (by rw [hc3]; decide) (by rw [hc3]; decide) (by rw [hc3]; rfl) rfl ?_
        exact lc_3 hfl hx hb hml hown hts hG hX hbl hbA hZ hN k1 k2 k3 (lw_in (k := 1) (by omega) hL) rfl (lw_in (k := 2) (by omega) hL) rfl (lw_in (k := 3) (by omega) hL) rfl (by omega) (by omega) (hI.2.2.2.1 _ _ _ _ h) hB hl hK
      by_cases hc4 : x = 4
      · refine lv_tableIn hx hb dc_L_law_39 (by rw [hc4]; decide) (by rw [hc4]; decide) (by rw [hc4]; rfl) rfl ?_
        exact lc_4 hfl hx hb hml hown hts hG hX hbl hbA hZ hN k1 k2 k3 (lw_in (k := 1) (by omega) hL) rfl (lw_in (k := 2) (by omega) hL) rfl (lw_in (k := 3) (by omega) hL) rfl (by omega) (by omega) (hI.2.2.2.2.1 _ _ _ _ h) hB hl hK
      by_cases hc5 : x = 5
      · refine lv_tableIn hx hb dc_L_law_39 (by rw [hc5]; decide) (by rw [hc5]; decide) (by rw [hc5]; rfl) rfl ?_
        exact lc_5 hfl hx hb hml hown hts hG hX hbl hbA hZ hN k1 k2 k3 (lw_in (k := 1) (by omega) hL) rfl (lw_in (k := 2) (by omega) hL) rfl (lw_in (k := 3) (by omega) hL) rfl (by omega) (by omega) (hI.2.2.2.2.2.1 _ _ _ _ h) hB hl hK
      by_cases hc6 : x = 6
      · refine lv_tableIn hx hb dc_L_law_39 (by rw [hc6]; decide) (by rw [hc6]; decide) (by rw [hc6]; rfl) rfl ?_
        exact lc_6 hfl hx hb hml hown hts hG hX hbl hbA hZ hN k1 k2 k3 (lw_in (k := 1) (by omega) hL) rfl (lw_in (k := 2) (by omega) hL) rfl (lw_in (k := 3) (by omega) hL) rfl (by omega) (by omega) (hI.2.2.2.2.2.2.1 _ _ _ _ h) hB hl hK
      by_cases hc7 : x = 7
      · refine lv_tableIn hx hb dc_L_law_39 (by rw [hc7]; decide) (by rw [hc7]; decide) (by rw [hc7]; rfl) rfl ?_
        exact lc_7 hfl hx hb hml hown hts hG hX hbl hbA hZ hN k1 k2 k3 (lw_in (k := 1) (by omega) hL) rfl (lw_in (k := 2) (by omega) hL) rfl (lw_in (k := 3) (by omega) hL) rfl (by omega) (by omega) (hI.2.2.2.2.2.2.2.1 _ _ _ _ h) hB hl hK
      by_cases hc8 : x = 8
      · refine lv_tableIn hx hb dc_L_law_39 (by rw [hc8]; decide) (by rw [hc8]; decide) (by rw [hc8]; rfl) rfl ?_
        exact lc_8 hfl hx hb hml hown hts hG hX hbl hbA hZ hN k1 k2 k3 (lw_in (k := 1) (by omega) hL) rfl (lw_in (k := 2) (by omega) hL) rfl (lw_in (k := 3) (by omega) hL) rfl (by omega) (by omega) (hI.2.2.2.2.2.2.2.2.1 _ _ _ _ h) hB hl hK
      by_cases hc9 : x = 9
      · refine lv_tableIn hx hb dc_L_law_39 (by rw [hc9]; decide) (by rw [hc9]; decide) (by rw [hc9]; rfl) rfl ?_
        exact lc_9 hfl hx hb hml hown hts hG hX hbl hbA hZ hN k1 k2 k3 (lw_in (k := 1) (by omega) hL) rfl (lw_in (k := 2) (by omega) hL) rfl (lw_in (k := 3) (by omega) hL) rfl (by omega) (by omega) (hI.2.2.2.2.2.2.2.2.2.1 _ _ _ _ h) hB hl hK
      by_cases hc10 : x = 10
      · refine lv_tableIn hx hb dc_L_law_39 (by rw [hc10]; decide) (by rw [hc10]; decide) (by rw [hc10]; rfl) rfl ?_
        exact lc_10 hfl hx hb hml hown hts hG hX hbl hbA hZ hN k1 k2 k3 (lw_in (k := 1) (by omega) hL) rfl (lw_in (k := 2) (by omega) hL) rfl (lw_in (k := 3) (by omega) hL) rfl (by omega) (by omega) (hI.2.2.2.2.2.2.2.2.2.2.1 _ _ _ _ h) hB hl hK
      by_cases hc11 : x = 11
      · refine lv_tableIn hx hb dc_L_law_39 (by rw [hc11]; decide) (by rw [hc11]; decide) (by rw [hc11]; rfl) rfl ?_
        exact lc_11 hfl hx hb hml hown hts hG hX hbl hbA hZ hN k1 k2 k3 (lw_in (k := 1) (by omega) hL) rfl (lw_in (k := 2) (by omega) hL) rfl (lw_in (k := 3) (by omega) hL) rfl (by omega) (by omega) (hI.2.2.2.2.2.2.2.2.2.2.2.1 _ _ _ _ h) hB hl hK
      by_cases hc12 : x = 12
      · refine lv_tableIn hx hb dc_L_law_39 (by rw [hc12]; decide) (by rw [hc12]; decide) (by rw [hc12]; rfl) rfl ?_
        exact lc_12 hfl hx hb hml hown hts hG hX hbl hbA hZ hN k1 k2 k3 (lw_in (k := 1) (by omega) hL) rfl (lw_in (k := 2) (by omega) hL) rfl (lw_in (k := 3) (by omega) hL) rfl (by omega) (by omega) (hI.2.2.2.2.2.2.2.2.2.2.2.2.1 _ _ _ _ h) hB hl hK
      by_cases hc13 : x = 13
      · refine lv_tableIn hx hb dc_L_law_39 (by rw [hc13]; decide) (by rw [hc13]; decide) (by rw [hc13]; rfl) rfl ?_
        exact lc_13 hfl hx hb hml hown hts hG hX hbl hbA hZ hN k1 k2 k3 (lw_in (k := 1) (by omega) hL) rfl (lw_in (k := 2) (by omega) hL) rfl (lw_in (k := 3) (by omega) hL) rfl (by omega) (by omega) (hI.2.2.2.2.2.2.2.2.2.2.2.2.2.1 _ _ _ _ h) hB hl hK
      by_cases hc14 : x = 14
      · refine lv_tableIn hx hb dc_L_law_39 (by rw [hc14]; decide) (by rw [hc14]; decide) (by rw [hc14]; rfl) rfl ?_
        exact lc_14 hfl hx hb hml hown hts hG hX hbl hbA hZ hN k1 k2 k3 (lw_in (k := 1) (by omega) hL) rfl (lw_in (k := 2) (by omega) hL) rfl (lw_in (k := 3) (by omega) hL) rfl (by omega) (by omega) (hI.2.2.2.2.2.2.2.2.2.2.2.2.2.2.1 _ _ _ _ h) hB hl hK
      by_cases hc15 : x = 15
      · refine lv_tableIn hx hb dc_L_law_39 (by rw [hc15]; decide) (by rw [hc15]; decide) (by rw [hc15]; rfl) rfl ?_
        exact lc_15 hfl hx hb hml hown hts hG hX hbl hbA hZ hN k1 k2 k3 (lw_in (k := 1) (by omega) hL) rfl (lw_in (k := 2) (by omega) hL) rfl (lw_in (k := 3) (by omega) hL) rfl (by omega) (by omega) (hI.2.2.2.2.2.2.2.2.2.2.2.2.2.2.2.1 _ _ _ _ h) hB hl hK
      by_cases hc16 : x = 16
      · refine lv_tableIn hx hb dc_L_law_39 (by rw [hc16]; decide) (by rw [hc16]; decide) (by rw [hc16]; rfl) rfl ?_
        exact lc_16 hfl hx hb hml hown hts hG hX hbl hbA hZ hN k1 k2 k3 (lw_in (k := 1) (by omega) hL) rfl (lw_in (k := 2) (by omega) hL) rfl (lw_in (k := 3) (by omega) hL) rfl (by omega) (by omega) (hI.2.2.2.2.2.2.2.2.2.2.2.2.2.2.2.2.1 _ _ _ _ h) hB hl hK
      by_cases hc17 : x = 17
      · refine lv_tableIn hx hb dc_L_law_39 (by rw [hc17]; decide) (by rw [hc17]; decide) (by rw [hc17]; rfl) rfl ?_
        exact lc_17 hfl hx hb hml hown hts hG hX hbl hbA hZ hN k1 k2 k3 (lw_in (k := 1) (by omega) hL) rfl (lw_in (k := 2) (by omega) hL) rfl (lw_in (k := 3) (by omega) hL) rfl (by omega) (by omega) (hI.2.2.2.2.2.2.2.2.2.2.2.2.2.2.2.2.2.1 _ _ _ _ h) hB hl hK
      by_cases hc18 : x = 18
      · refine lv_tableIn hx hb dc_L_law_39 (by rw [hc18]; decide) (by rw [hc18]; decide) (by rw [hc18]; rfl) rfl ?_
        exact lc_18 hfl hx hb hml hown hts hG hX hbl hbA hZ hN k1 k2 k3 (lw_in (k := 1) (by omega) hL) rfl (lw_in (k := 2) (by omega) hL) rfl (lw_in (k := 3) (by omega) hL) rfl (by omega) (by omega) (hI.2.2.2.2.2.2.2.2.2.2.2.2.2.2.2.2.2.2.1 _ _ _ _ h) hB hl hK
      by_cases hc19 : x = 19
      · refine lv_tableIn hx hb dc_L_law_39 (by rw [hc19]; decide) (by rw [hc19]; decide) (by rw [hc19]; rfl) rfl ?_
        exact lc_19 hfl hx hb hml hown hts hG hX hbl hbA hZ hN k1 k2 k3 (lw_in (k := 1) (by omega) hL) rfl (lw_in (k := 2) (by omega) hL) rfl (lw_in (k := 3) (by omega) hL) rfl (by omega) (by omega) (hI.2.2.2.2.2.2.2.2.2.2.2.2.2.2.2.2.2.2.2.1 _ _ _ _ h) hB hl hK
      by_cases hc20 : x = 20
      · refine lv_tableIn hx hb dc_L_law_39 (by rw [hc20]; decide) (by rw [hc20]; decide) (by rw [hc20]; rfl) rfl ?_
        exact lc_20 hfl hx hb hml hown hts hG hX hbl hbA hZ hN k1 k2 k3 (lw_in (k := 1) (by omega) hL) rfl (lw_in (k := 2) (by omega) hL) rfl (lw_in (k := 3) (by omega) hL) rfl (by omega) (by omega) (hI.2.2.2.2.2.2.2.2.2.2.2.2.2.2.2.2.2.2.2.2.1 _ _ _ _ h) hB hl hK
      by_cases hc21 : x = 21
      · refine lv_tableIn hx hb dc_L_law_39 (by rw [hc21]; decide) (by rw [hc21]; decide) (by rw [hc21]; rfl) rfl ?_
        exact lc_21 hfl hx hb hml hown hts hG hX hbl hbA hZ hN k1 k2 k3 (lw_in (k := 1) (by omega) hL) rfl (lw_in (k := 2) (by omega) hL) rfl (lw_in (k := 3) (by omega) hL) rfl (by omega) (by omega) (hI.2.2.2.2.2.2.2.2.2.2.2.2.2.2.2.2.2.2.2.2.2.1 _ _ _ _ h) hB hl hK
      by_cases hc22 : x = 22
      · refine lv_tableIn hx hb dc_L_law_39 (by rw [hc22]; decide) (by rw [hc22]; decide) (by rw [hc22]; rfl) rfl ?_
        exact lc_22 hfl hx hb hml hown hts hG hX hbl hbA hZ hN k1 k2 k3 (lw_in (k := 1) (by omega) hL) rfl (lw_in (k := 2) (by omega) hL) rfl (lw_in (k := 3) (by omega) hL) rfl (by omega) (by omega) (hI.2.2.2.2.2.2.2.2.2.2.2.2.2.2.2.2.2.2.2.2.2.2 _ _ _ _ h) hB hl hK
      refine lv_tableOut hx hb dc_L_law_39 (by have a0 := lv_neT hc0 (a := 0) rfl; have a1 := lv_neT hc1 (a := 1) rfl; have a2 := lv_neT hc2 (a := 2) rfl; have a3 := lv_neT hc3 (a := 3) rfl; have a4 := lv_neT hc4 (a := 4) rfl; have a5 := lv_neT hc5 (a := 5) rfl; have a6 := lv_neT hc6 (a := 6) rfl; have a7 := lv_neT hc7 (a := 7) rfl; have a8 := lv_neT hc8 (a := 8) rfl; have a9 := lv_neT hc9 (a := 9) rfl; have a10 := lv_neT hc10 (a := 10) rfl; have a11 := lv_neT hc11 (a := 11) rfl; have a12 := lv_neT hc12 (a := 12) rfl; have a13 := lv_neT hc13 (a := 13) rfl; have a14 := lv_neT hc14 (a := 14) rfl; have a15 := lv_neT hc15 (a := 15) rfl; have a16 := lv_neT hc16 (a := 16) rfl; have a17 := lv_neT hc17 (a := 17) rfl; have a18 := lv_neT hc18 (a := 18) rfl; have a19 := lv_neT hc19 (a := 19) rfl; have a20 := lv_neT hc20 (a := 20) rfl; have a21 := lv_neT hc21 (a := 21) rfl; have a22 := lv_neT hc22 (a := 22) rfl; omega) rfl ?_
      refine W.widen (k := c0 + 2 * j + 2) (n := s0 + 12 * j + 12) (by omega) (by omega) ?_
      exact hK M H locs ls h hB hl
