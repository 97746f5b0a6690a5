/-! making the world: its cells lie one behind the other, from b on -/
abbrev om_0 : om_M := (fun _ _ => 0, fun _ _ => 0)
abbrev aw (b : Nat) : Nat → Nat := fun o => b + o
theorem cw_fs (b n ci o : Nat) (r : Nat → Int32) : ow_fs (aw b) r ci (n + o) = ow_fs (aw (b + n)) r ci o := by
  unfold ow_fs
  split <;> simp only [Nat.add_assoc]
theorem cw_ek (cA : Nat → ClassId) (b n o t k : Nat) (r : Nat → Int32) (z : Nat → Int64) : ow_ek cA (aw b) r z (n + o) t k = ow_ek cA (aw (b + n)) r z o t k := by
  unfold ow_ek
  split <;> simp only [Nat.add_assoc, cw_fs]
theorem cw_kl (G1 G2 : List (Nat × Nat)) {o : Nat} (h : o < G1.length) : ow_kd (G1 ++ G2) o = ow_kd G1 o := by
  unfold ow_kd
  simp only [List.getD, List.getElem?_append_left h]
theorem cw_kr (G1 G2 : List (Nat × Nat)) (o : Nat) : ow_kd (G1 ++ G2) (G1.length + o) = ow_kd G2 o := by
  unfold ow_kd
  simp only [List.getD, List.getElem?_append_right (Nat.le_add_right _ _), Nat.add_sub_cancel_left]
theorem cw_app (G1 G2 : List (Nat × Nat)) (cA : Nat → ClassId) (b : Nat) : ow_wl (G1 ++ G2) cA (aw b) om_0 = ow_wl G1 cA (aw b) om_0 ++ ow_wl G2 cA (aw (b + G1.length)) om_0 := by
  unfold ow_wl
  rw [List.length_append, List.range_add, List.map_append, List.map_map]
  congr 1
  · apply List.map_congr_left
    intro o ho
    unfold ow_ent
    rw [cw_kl G1 G2 (List.mem_range.mp ho)]
  · apply List.map_congr_left
    intro o ho
    simp only [Function.comp, ow_ent, cw_kr, cw_ek, Nat.add_assoc]
theorem cw_addr {G : List (Nat × Nat)} {cA : Nat → ClassId} {h : Nat} {M : om_M} {k : Nat} {q : Nat × va_E} (hq : (ow_wl G cA (aw h) M)[k]? = some q) : q.1 = h + k ∧ k < G.length := by
  obtain ⟨q', -, -, h3, h4⟩ := ow_fst (M' := M) hq
  exact ⟨h3, h4⟩
theorem cw_Dw {G : List (Nat × Nat)} {cA : Nat → ClassId} {h : Nat} {M : om_M} {A : Nat → Prop} (hA : ∀ q, h ≤ q → A q) : va_D A (ow_wl G cA (aw h) M) :=
  ⟨fun i j x y hi hj hxy => by
    have a := (cw_addr hi).1
    have b := (cw_addr hj).1
    omega, fun k q hk => hA _ (by have a := (cw_addr hk).1; omega)⟩
theorem cw_push {G : List (Nat × Nat)} {cA : Nat → ClassId} {h : Nat} {M : om_M} {A : Nat → Prop} {D : va_G} {ws : va_W} {H : Heap} (hP : va_P D ow_cl ws H) (hD : va_D A ws) (hz : H.size ≤ h) (hA : ∀ q, h ≤ q → A q) : va_D A (ws ++ ow_wl G cA (aw h) M) :=
  va_D.app hD (cw_Dw hA) (fun i j x y hx hy hxy => by
    have a := (cw_addr hy).1
    have b := (hP i x hx).lt
    omega)
/-- the world in the making: any cells -/
def cw_B (D : va_G) (cA : Nat → ClassId) (A : Nat → Prop) (ws : va_W) (s : State) (H0 H : Heap) (locs : List Loc) : Prop := va_P D ow_cl ws H ∧ va_D A ws ∧ va_K D ow_cl (ow_ty cA) s ∧ va_S A H0 H locs
def cw_nw : List Cond := [.methodLinkNest "BallotDesk" 11 yn_P_init "BallotDesk", .methodLinkNest "BallotDesk" 22 yn_W_init "BallotDesk", .methodLinkNest "BallotDesk$WhatIf" 11 yn_R_init "BallotDesk", .methodLinkNest "BallotDesk$Rules" 11 yn_E_init "BallotDesk", .methodLinkNest "BallotDesk$Rules" 20 yn_H_init "BallotDesk", .methodLinkNest "BallotDesk$Rules" 27 yn_K_init "BallotDesk", .methodLinkNest "BallotDesk$Rules" 34 yn_A_init "BallotDesk", .methodLinkNest "BallotDesk$WhatIf" 20 yn_P_init "BallotDesk", .methodLinkNest "BallotDesk$WhatIf" 27 yn_S_init "BallotDesk"]
def cw_N0 (U : State) : Prop := ∀ w ∈ cw_nw, va_Nw w U
theorem cw_N0.warm {s U : State} (hW : s.WarmedH U.vm) (h : cw_N0 s) : cw_N0 U := by
  intro w hw
  have hz := h w hw
  simp only [cw_nw, List.mem_cons, List.not_mem_nil, or_false] at hw
  rcases hw with rfl | rfl | rfl | rfl | rfl | rfl | rfl | rfl | rfl <;> exact va_Nw.warmM hW hz
theorem cw_over : Cond.arrayOver (.array .int) ∈ lw_tbl := tw_1 (List.mem_of_getElem? (i := 38) rfl)
def cw_AO (U : State) : Prop := (Cond.arrayOver (.array .int)).before #[] U = true
theorem cw_AO.use {A : Array Value} {U : State} (h : cw_AO U) : (Cond.arrayOver (.array .int)).before A U = true := h
theorem cw_AO.of {A : Array Value} {U : State} (h : (Cond.arrayOver (.array .int)).before A U = true) : cw_AO U := h
theorem cw_AO.moved {u U : State} (hvm : u.vm.Alike U.vm) (h : cw_AO u) : cw_AO U := by
  obtain ⟨comp, c, k, h1, h2, h3, h4, h5⟩ := arrayOverA_spec h
  obtain ⟨k', hk', he⟩ := hvm.2.2 _ _ h3
  have hi : (U.vm.classes.findIdx? fun (x : Class) => match x.kind with | .array component _ => component == comp | _ => false) = some c := by
    have e1 := va_idx_bare U.vm comp
    have e2 := va_idx_bare u.vm comp
    first | rw [hvm.bare_eq] at e1 | rw [← hvm.bare_eq] at e1
    exact e1.symm.trans (e2.trans h2)
  have hkind : k'.kind = .array comp (.array .int) := by rw [he]; exact h4
  have f1 : U.vm.findClass (FieldType.array .int).toString = some comp := by rw [hvm.findClass]; exact h1
  have f2 : U.vm.findClass ("[" ++ (FieldType.array .int).toString) = some c := by rw [hvm.findClass]; exact h5
  unfold cw_AO Cond.before Cond.holds
  simp only [Cond.value]
  rw [f1, Option.bind_some]
  refine (congrArg (fun o : Option Nat => (o.bind (fun c => (U.vm.classes[c]?).map fun (k : Class) => match k.kind with | .array _ ty => decide (ty = FieldType.array .int) && decide (U.vm.findClass ("[" ++ (FieldType.array .int).toString) = some c) | _ => false) == some true)) hi).trans ?_
  simp [hk', hkind, f2]
def cw_N (U : State) : Prop := cw_N0 U ∧ cw_AO U
theorem cw_N.warm {s U : State} (hW : s.WarmedH U.vm) (h : cw_N s) : cw_N U := ⟨h.1.warm hW, h.2.moved hW.alike⟩
def cw_Pc (D : va_G) (cA : Nat → ClassId) (b ci : Nat) (fs : List Value) : Array Value → State → Prop := va_Pc [.ref b] (fun U => U.heap.size = b + 1 ∧ (va_P D ow_cl [(b, .inr (ci, fs))] U.heap ∧ va_K D ow_cl (ow_ty cA) U) ∧ cw_N U)
def cw_Q (D : va_G) (cA : Nat → ClassId) (b : Nat) (G : List (Nat × Nat)) (M : om_M) : Array Value → State → Outcome → State → Prop := va_Qv (fun _ : Unit => True) (fun _ t => t.heap.size = b + G.length ∧ va_P D ow_cl (ow_wl G cA (aw b) M) t.heap ∧ va_K D ow_cl (ow_ty cA) t) (fun q => b ≤ q)
section CW
variable {p : Program} {l : Launch} {e : Env} {R : Room} {s : State} {m : MethodId} {args : Array Value} {below : List Frame} {meth : Method} {c : Code} {H : Heap} {locs : List Loc} {cells slots : Nat} {Q : State → Prop}
variable {cc : ByteArray} {pc : Nat} {ls : Array Slot} {rest : List Value} {D : va_G} {cA : Nat → ClassId} {A : Nat → Prop} {H0 : Heap} {ws : va_W} {h : Nat}
theorem cw_kept (hB : cw_B D cA A ws s H0 H locs) (hA : ∀ q, H0.size ≤ q → A q) {H1 : Heap} (hz : H.size = h) {G : List (Nat × Nat)} {M : om_M} (hs : h ≤ H1.size) (ho : ∀ q, q < h → H1[q]? = H[q]?) (hn : va_P D ow_cl (ow_wl G cA (aw h) M) H1) : cw_B D cA A (ws ++ ow_wl G cA (aw h) M) s H0 H1 locs := by
  obtain ⟨hP, hD, hK, hS⟩ := hB
  have hk : ∀ (k : Nat) (x : Nat × va_E), ws[k]? = some x → H1[x.1]? = H[x.1]? := fun k x hx => ho x.1 (by have := (hP k x hx).lt; omega)
  have h0 := hS.1
  exact ⟨(hP.kept hk).app hn, cw_push hP hD (by omega) (fun q hq => hA q (by omega)), hK, by omega, fun q h1 h2 => (ho q (by omega)).trans (hS.2.1 q h1 h2), hS.2.2⟩
theorem cw_newa (hexec : p.tables.exec = Jvm.exec) (hb : c.code = cc) (hts : ∀ w ∈ lw_g, w.before args s = true) (hB : cw_B D cA A ws s H0 H locs) (hA : ∀ q, H0.size ≤ q → A q) (hz : H.size = h) {atype : ArrayType} {t i : Nat} (harr : Cond.arrayClass (newarray.typeOf atype) ∈ lw_g) (hi : (ow_ty cA)[i]? = some (cA i, newarray.typeOf atype)) (hRA : ∀ U : State, va_RA U (cA i) (newarray.typeOf atype) → U.vm.findClass ("[" ++ (newarray.typeOf atype).toString) = some (cA i)) {n : Int32} {N : Nat}
    (hw : va_P D ow_cl (ow_wl [(t, N)] cA (aw h) om_0) = fun H1 => va_P D ow_cl [(h, .inl (cA i, ((ow_wl [(t, N)] cA (aw h) om_0)[0]?.bind (fun q => match q.2 with | .inl a => some a.2 | _ => none)).getD (0, .inl (fun _ => 0))))] H1) (hcell : vp_cell (cA i) (((ow_wl [(t, N)] cA (aw h) om_0)[0]?.bind (fun q => match q.2 with | .inl a => some a.2 | _ => none)).getD (0, .inl (fun _ => 0))) = arrV (cA i) N (fun _ => defaultValue (newarray.typeOf atype))) (hn : ¬ n < 0) (hN : n.toNatClampNeg = N) (hbytes : N * componentBytes (newarray.typeOf atype) ≤ 536870912) (hcells : cells + 1 ≤ R.cells) (hslots : slots + N ≤ R.slots) (hdg : decode cc pc = .ok (.newarray atype, 2))
    (kk : ∀ H1 : Heap, H1.size = h + 1 → cw_B D cA A (ws ++ ow_wl [(t, N)] cA (aw h) om_0) s H0 H1 locs → W p l e R s m args below meth c H1 locs (cells + 1) (slots + N) Q (F0 m (pc + 2) ls (.ref h :: rest))) : W p l e R s m args below meth c H locs cells slots Q (F0 m pc ls (.int n :: rest)) := by
  refine va_newaK hexec hb (hts _ harr) rfl hdg rfl hn hN hbytes hcells hslots hz fun H1 cA' e1 z1 o1 hAr hNm => ?_
  have hcA : cA' = cA i := Option.some.inj (hNm.symm.trans (hRA s (hB.2.2.1.2 i _ hi).2))
  subst hcA
  refine kk H1 z1 (cw_kept hB hA hz (by omega) o1 ?_)
  rw [hw]
  intro k x hx
  have hk : k < 1 := (List.getElem?_eq_some_iff.mp hx).1
  rw [show k = 0 by omega] at hx
  cases hx
  show H1[h]? = some (vp_cell _ _)
  rw [hcell]
  exact e1
end CW
