/-! calls of methods that may throw; a catch -/
def xw_cd (y : MethodName) (maxL : Nat) (s : State) : Prop := ∃ (mk : MethodId) (methY : Method) (cY : Code), s.methodNamed? y = some mk ∧ s.vm.method? mk = some methY ∧ methY.code = some cY ∧ cY.maxLocals = maxL ∧ parseMethodDescriptor y.desc = some methY.sig
theorem xw_cd_of {y : MethodName} {bytes : ByteArray} {maxL : Nat} {ret : Option FieldType} {args : Array Value} {s : State} (h : (Cond.code y bytes maxL ret).before args s = true) : xw_cd y maxL s := by
  obtain ⟨mk, hn⟩ := Cond.code_named h
  obtain ⟨meth, c, h1, h2, -, h4, -, -, -, h8⟩ := Cond.code_spec hn h
  exact ⟨mk, meth, c, hn, h1, h2, h4, h8⟩
theorem xw_cd_ofW {y : MethodName} {bytes : ByteArray} {maxL : Nat} {ret : Option FieldType} {hh : List (Nat × Nat × Nat × Nat)} {args : Array Value} {s : State} (h : (Cond.codeWith y bytes maxL ret hh).before args s = true) : xw_cd y maxL s := by
  obtain ⟨mk, meth, c, hn, h1, h2, -, h4, -, -, -, h8⟩ := Cond.codeWith_spec h
  exact ⟨mk, meth, c, hn, h1, h2, h4, h8⟩
section XW4
variable {p : Program} {l : Launch} {e : Env} {R : Room} {s : State} {m : MethodId} {args : Array Value} {below : List Frame} {meth : Method} {c : Code} {H : Heap} {locs : List Loc} {cells slots : Nat} {Q : State → Prop}
variable {cc : ByteArray} {pc : Nat} {ls : Array Slot} {rest st0 As : List Value} {G : List (Nat × Nat)} {D : va_G} {cA : Nat → ClassId} {ad : Nat → Nat} {A : Nat → Prop} {M : om_M}
variable {y : MethodName} {own : String} {index maxL mc ms n : Nat} {ws : List Cond} {rm : Room} {Pc : Array Value → State → Prop} {Qp : Option Value → om_M → Prop} {Xp : Nat → om_M → Prop}
/-- what is the same of a static and a virtual call -/
theorem xw_after {T : State} {vm₁ : Vm} (hT : T.heap = H) (X₁ : Stand p l e R s m args below meth c (T.setVm vm₁) locs cells slots) (hb : c.code = cc) (hts : ∀ w ∈ lw_g, w.before args s = true) {av : List Value} {ig : Instr} {mk : MethodId} {methY : Method} {cY : Code}
    (hM : xw_Met l y ws rm Pc (xw_Q G D cA ad Qp Xp) mc ms (ow_A G ad)) (hws : ∀ w ∈ ws, w ∈ lw_g) (hnamed : s.methodNamed? y = some mk) (hmY : s.vm.method? mk = some methY) (hcY : methY.code = some cY) (hlY : cY.maxLocals = maxL) (hini : Cond.initialized y.cls ∈ lw_g) (hrc : rm.cells = mc) (hrs : rm.slots = ms) (hfr : rm.frames + 1 ≤ R.frames) (hlo : 8 + (maxL + 11) + rm.locals ≤ R.locals)
    (hB : ow_B G D cA ad A M s s.heap H locs) (hP : ∀ (g : JFrame) (mk : MethodId), Pc av.toArray ((T.setVm vm₁).calling g mk av.toArray)) (hls : ls.size = c.maxLocals) (hW : (rest.map fun v => v.category).sum ≤ 8) (hdg : decode cc pc = .ok (ig, 3)) (hcc : cells + mc ≤ R.cells) (hss : slots + ms ≤ R.slots)
    (kx : ∀ (q : Addr) (k : Nat) (M1 : om_M) (H1 : Heap) (locs1 : List Loc) (ce : Cell), Xp k M1 → H1[q]? = some ce → ce.vm = .none → s.vm.findClass (xw_E k) = some ce.cls → ow_B G D cA ad A M1 s s.heap H1 locs1 → xw_W p l e R s m args below meth c H1 locs1 (cells + mc) (slots + ms) Q (F0 m pc ls rest) q)
    (kk : ∀ (v : Option Value) (M1 : om_M) (H1 : Heap) (locs1 : List Loc), Qp v M1 → ow_B G D cA ad A M1 s s.heap H1 locs1 → W p l e R s m args below meth c H1 locs1 (cells + mc) (slots + ms) Q (F0 m (pc + 3) ls (v.toList ++ rest))) :
    ∃ t, Steps p.tables e below (doInvoke e ((T.setVm vm₁).setTop (F0 m pc ls rest)) [] mk av.toArray).1 t ∧ Q t := by
  obtain ⟨o, t, U', L, hq, e1, e2, hL, X', hret, hthr⟩ := xw_core X₁ hM hrc hrs (g := F0 m pc ls rest) (ig := ig) (len := 3) (mk := mk) (a := av.toArray) (methY := methY) (cY := cY) rfl hls (by rw [hb]; exact hdg) (by show 2 * 0 + (rest.map fun v => v.category).sum ≤ 8; omega) (X₁.named hnamed) (by rw [X₁.warmed.alike.method?]; exact hmY) hcY hlY (word_at X₁.warmed (good_of_word (tg_good hini)) (hts _ hini)) (fun w hw => word_at X₁.warmed (good_of_word (tg_good (hws w hw))) (hts _ (hws w hw))) hfr hlo hcc hss (hP _ _)
  obtain ⟨hq, hz, hk⟩ := hq
  have h0 : ((T.setVm vm₁).calling (F0 m pc ls rest) mk av.toArray).heap = H := hT
  rw [h0] at hz hk
  have hS' : va_S A s.heap U'.heap (locs ++ L) := ⟨Nat.le_trans hB.2.2.2.1 (by rw [e1]; exact hz), fun q h1 h2 => by
      rw [e1, hk q (Nat.lt_of_lt_of_le h1 hB.2.2.2.1) (fun z => h2 (ow_sub hB.2.1 q z))]
      exact hB.2.2.2.2.1 q h1 h2, fun q hq => by
      rcases List.mem_append.mp hq with h | h
      · exact hB.2.2.2.2.2 q h
      · exact ow_sub hB.2.1 _ (hL q h)⟩
  rcases hq with ⟨v, M1, ho, hQ, hWd⟩ | ⟨q, k, M1, ce, ho, hX, hce, hv, hcl, hWd⟩
  · obtain ⟨t2, a1, b1⟩ := kk v M1 U'.heap (locs ++ L) hQ ⟨by rw [e1]; exact hWd.1, ow_D hB.2.1, hB.2.2.1, hS'⟩ U' rfl X'
    exact ⟨t2, (hret v ho).trans a1, b1⟩
  · obtain ⟨t2, a1, b1⟩ := kx q k M1 U'.heap (locs ++ L) ce hX (by rw [e1]; exact hce) hv (by rw [← e2, X'.warmed.alike.findClass] at hcl; exact hcl) ⟨by rw [e1]; exact hWd.1, ow_D hB.2.1, hB.2.2.1, hS'⟩ U' rfl X'
    exact ⟨t2, (hthr q ho).trans a1, b1⟩
theorem xw_callS (hexec : p.tables.exec = Jvm.exec) (hb : c.code = cc) (hown : s.vm.findClass own = some m.cls) (hts : ∀ w ∈ lw_g, w.before args s = true) (hM : xw_Met l y ws rm Pc (xw_Q G D cA ad Qp Xp) mc ms (ow_A G ad)) (hws : ∀ w ∈ ws, w ∈ lw_g) (hcd : xw_cd y maxL s) (hini : Cond.initialized y.cls ∈ lw_g) (hl : Cond.methodLink own index y ∈ lw_g) (hst : Cond.static y ∈ lw_g)
    (hd : y.cls ≠ "java/lang/invoke/MethodHandle" ∧ y.cls ≠ "java/lang/invoke/VarHandle" ∧ (parseMethodDescriptor y.desc).map (fun d => d.parameters.length) = some As.length) (hrc : rm.cells = mc) (hrs : rm.slots = ms) (hfr : rm.frames + 1 ≤ R.frames) (hlo : 8 + (maxL + 11) + rm.locals ≤ R.locals)
    (hB : ow_B G D cA ad A M s s.heap H locs) (hP : ∀ (T : State) (g : JFrame) (mk : MethodId), T.heap = H → s.WarmedH T.vm → Pc As.toArray (T.calling g mk As.toArray)) (hls : ls.size = c.maxLocals) (hW : (rest.map fun v => v.category).sum ≤ 8) (hstack : st0 = As.reverse ++ rest) (hdg : decode cc pc = .ok (.invokestatic index, 3)) (hcc : cells + mc ≤ R.cells) (hss : slots + ms ≤ R.slots)
    (kx : ∀ (q : Addr) (k : Nat) (M1 : om_M) (H1 : Heap) (locs1 : List Loc) (ce : Cell), Xp k M1 → H1[q]? = some ce → ce.vm = .none → s.vm.findClass (xw_E k) = some ce.cls → ow_B G D cA ad A M1 s s.heap H1 locs1 → xw_W p l e R s m args below meth c H1 locs1 (cells + mc) (slots + ms) Q (F0 m pc ls rest) q)
    (kk : ∀ (v : Option Value) (M1 : om_M) (H1 : Heap) (locs1 : List Loc), Qp v M1 → ow_B G D cA ad A M1 s s.heap H1 locs1 → W p l e R s m args below meth c H1 locs1 (cells + mc) (slots + ms) Q (F0 m (pc + 3) ls (v.toList ++ rest))) :
    W p l e R s m args below meth c H locs cells slots Q (F0 m pc ls st0) := by
  intro T hT X
  obtain ⟨mk, methY, cY, hnamed, hmY, hcY, hlY, hsig⟩ := hcd
  have hstatic := Cond.static_spec hnamed hmY (hts _ hst)
  obtain ⟨kP, hkP, -⟩ := className_of_methodNamed hnamed
  have hinitP := Cond.initialized_spec (findClass_of_methodNamed hnamed) hkP (hts _ hini)
  have hlen : As.length = methY.sig.parameters.length := by
    have h := hd.2.2
    rw [hsig] at h
    exact (Option.some.inj h).symm
  obtain ⟨vm₁, X₁, hstep₁⟩ := X.invokestatic hexec hown (hts _ hl) hnamed hmY hstatic hkP hinitP ⟨hd.1, hd.2.1⟩ (g := F0 m pc ls st0) rfl (argsL := As) (rest := rest) hlen hstack (by rw [hb]; exact hdg)
  obtain ⟨t, a1, b1⟩ := xw_after hT X₁ hb hts hM hws hnamed hmY hcY hlY hini hrc hrs hfr hlo hB (fun g mk => hP (T.setVm vm₁) g mk hT X₁.warmed) hls hW hdg hcc hss kx kk
  exact ⟨t, hstep₁ _ fun acts => by rw [doInvoke_state]; exact a1, b1⟩
theorem xw_callV {C : String} {o ci N : Nat} {Tf : u_T} (hexec : p.tables.exec = Jvm.exec) (hb : c.code = cc) (hown : s.vm.findClass own = some m.cls) (hts : ∀ w ∈ lw_g, w.before args s = true) (hM : xw_Met l y ws rm Pc (xw_Q G D cA ad Qp Xp) mc ms (ow_A G ad)) (hws : ∀ w ∈ ws, w ∈ lw_g) {bytes : ByteArray} {ret : Option FieldType} (hcode : Cond.code y bytes maxL ret ∈ lw_g) (hini : Cond.initialized y.cls ∈ lw_g) (hl : Cond.methodLink own index y ∈ lw_g) (hin : Cond.instanceMethod y ∈ lw_g) (hse : Cond.selects C y y ∈ lw_g)
    (hd : y.cls ≠ "java/lang/invoke/MethodHandle" ∧ y.cls ≠ "java/lang/invoke/VarHandle" ∧ (parseMethodDescriptor y.desc).map (fun d => d.parameters.length) = some As.length) (hrc : rm.cells = mc) (hrs : rm.slots = ms) (hfr : rm.frames + 1 ≤ R.frames) (hlo : 8 + (maxL + 11) + rm.locals ≤ R.locals)
    (hB : ow_B G D cA ad A M s s.heap H locs) (hk : ow_kd G o = (3, ci)) (hc : ow_cl[ci]? = some (C, Tf, N)) (hP : ∀ (T : State) (g : JFrame) (mk : MethodId), T.heap = H → s.WarmedH T.vm → Pc (Value.ref (ad o) :: As).toArray (T.calling g mk (Value.ref (ad o) :: As).toArray)) (hls : ls.size = c.maxLocals) (hW : (rest.map fun v => v.category).sum ≤ 8) (hstack : st0 = As.reverse ++ .ref (ad o) :: rest) (hdg : decode cc pc = .ok (.invokevirtual index, 3)) (hcc : cells + mc ≤ R.cells) (hss : slots + ms ≤ R.slots)
    (kx : ∀ (q : Addr) (k : Nat) (M1 : om_M) (H1 : Heap) (locs1 : List Loc) (ce : Cell), Xp k M1 → H1[q]? = some ce → ce.vm = .none → s.vm.findClass (xw_E k) = some ce.cls → ow_B G D cA ad A M1 s s.heap H1 locs1 → xw_W p l e R s m args below meth c H1 locs1 (cells + mc) (slots + ms) Q (F0 m pc ls rest) q)
    (kk : ∀ (v : Option Value) (M1 : om_M) (H1 : Heap) (locs1 : List Loc), Qp v M1 → ow_B G D cA ad A M1 s s.heap H1 locs1 → W p l e R s m args below meth c H1 locs1 (cells + mc) (slots + ms) Q (F0 m (pc + 3) ls (v.toList ++ rest))) :
    W p l e R s m args below meth c H locs cells slots Q (F0 m pc ls st0) := by
  intro T hT X
  obtain ⟨cellB, hcB, hobj, hcls⟩ := va_recv hB.2.2.1 hB.1 hc (ow_at hk (by decide))
  obtain ⟨mk, methM, hnamed, hmethM, hstM, habM⟩ := Cond.instanceMethod_spec (hts _ hin)
  obtain ⟨methM', cM, hmethM', hcY, -, hlY, -, -, -, hsigM⟩ := Cond.code_spec hnamed (hts _ hcode)
  cases hmethM.symm.trans hmethM'
  obtain ⟨c2, r2, m2, q1, q2, q3, q4, kP, hkP, hkPi⟩ := Cond.selects_spec (hts _ hse)
  cases hcls.symm.trans q1
  cases (State.methodFound?_of_named hnamed ⟨hd.1, hd.2.1⟩).symm.trans q2
  cases hnamed.symm.trans q3
  have hselP : selectMethod e.platform s.vm cellB.cls mk = .method mk := by rw [Launch.admits_selectMethod X.admits]; exact q4
  have hlen : As.length = methM.sig.parameters.length := by
    have h := hd.2.2
    rw [hsigM] at h
    exact (Option.some.inj h).symm
  obtain ⟨vm₁, X₁, hstep₁⟩ := X.invokevirtual hexec hown (hts _ hl) hnamed hmethM hstM hkP hkPi ⟨hd.1, hd.2.1⟩ (a := ad o) (cell := cellB) (by rw [hT]; exact hcB)
    (fun z h => by rw [h] at hobj; cases hobj) hselP hmethM habM hkP hkPi (g := F0 m pc ls st0) rfl (argsL := As) (rest := rest) hlen hstack (by rw [hb]; exact hdg)
  obtain ⟨t, a1, b1⟩ := xw_after hT X₁ hb hts hM hws hnamed hmethM hcY hlY hini hrc hrs hfr hlo hB (fun g mk => hP (T.setVm vm₁) g mk hT X₁.warmed) hls hW hdg hcc hss kx kk
  exact ⟨t, hstep₁ _ fun acts => by rw [doInvoke_state]; exact a1, b1⟩
/-- caught by the entry x of this method's table, behind entries that it passes -/
theorem xw_catch {k : Nat} {q : Addr} {ce : Cell} (hown : s.vm.findClass own = some m.cls) (hts : ∀ w ∈ lw_g, w.before args s = true) (pre : List ExceptionTableEntry) (x : ExceptionTableEntry) (suf : List ExceptionTableEntry) (hsplit : c.exceptionTable.toList = pre ++ x :: suf) (hpass : ∀ z ∈ pre, z.catchType ≠ 0 ∧ ∃ nm : String, Cond.classLink own z.catchType nm ∈ lw_g ∧ va_Nc (xw_E k) nm s) (hx : covers x pc = true) (hx0 : x.catchType ≠ 0)
    (hlink : Cond.classLink own x.catchType (xw_E k) ∈ lw_g) (hcast : va_Nw (.castable (xw_E k) (xw_E k)) s) (hce : H[q]? = some ce) (hv : ce.vm = .none) (hcl : s.vm.findClass (xw_E k) = some ce.cls)
    (kk : W p l e R s m args below meth c H locs cells slots Q (F0 m x.handlerPc ls [.ref q])) : xw_W p l e R s m args below meth c H locs cells slots Q (F0 m pc ls rest) q := by
  intro T hT X
  have hpl : e.platform.magicAccessors = ({} : Platform).magicAccessors := by rw [X.admits.platform]
  obtain ⟨c3, c4, hc3, hc4, hasg⟩ := Cond.castable_spec (va_Nw.use (A := args) rfl hcast)
  cases hc3.symm.trans hcl
  obtain ⟨c5, hc5, hl5⟩ := Cond.classLink_spec hown (hts _ hlink) e.platform hpl
  cases hc4.symm.trans hc5
  have hk0 : ∃ k9, s.vm.classes[ce.cls]? = some k9 := by
    obtain ⟨k9, h9, -⟩ := Vm.findClass_spec hcl
    exact ⟨k9, h9⟩
  obtain ⟨vm', X', st⟩ := X.thenCaughtThrough q (g := F0 m pc ls rest) rfl (Steps.refl _) (by rw [hT]; exact hce) (by rw [hv]; rfl) hk0 pre x suf hsplit
    (fun z hz => by
      obtain ⟨hz0, nm, hl1, a8, b8, g1, g2, g3⟩ := hpass z hz
      obtain ⟨c6, hc6, hl6⟩ := Cond.classLink_spec hown (hts _ hl1) e.platform hpl
      cases g1.symm.trans hcl
      cases g2.symm.trans hc6
      exact Or.inr ⟨hz0, _, hl6, g3⟩) hx (Or.inr ⟨hx0, _, hl5, hasg⟩)
  obtain ⟨t, a1, b1⟩ := kk (T.setVm vm') hT X'
  exact ⟨t, st.trans a1, b1⟩
end XW4
