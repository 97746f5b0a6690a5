theorem ow_wsin {y : MethodName} {bytes : ByteArray} {maxL : Nat} {ret : Option FieldType} (h : Cond.code y bytes maxL ret ∈ lw_g) : ∀ w ∈ ow_ws y bytes maxL ret, w ∈ lw_g := fun w hw => by
  rcases List.mem_cons.mp hw with rfl | hw
  · exact h
  · exact hw
theorem xw_pre {G : List (Nat × Nat)} {D : va_G} {cA : Nat → ClassId} {ad : Nat → Nat} {A : Nat → Prop} {M : om_M} {s : State} {H : Heap} {locs : List Loc} {av : List Value} (hB : ow_B G D cA ad A M s s.heap H locs) (hZ : xw_Z A s s.heap) : ∀ (T : State) (g : JFrame) (mk : MethodId), T.heap = H → s.WarmedH T.vm → xw_Pc G D cA ad M av av.toArray (T.calling g mk av.toArray) := fun T g mk hT hW =>
  xw_blind ⟨rfl, ⟨by rw [hT]; exact hB.1, ow_DA hB.2.1, va_K.moved hW.alike hB.2.2.1, va_S.rf⟩, by
    rw [hT]
    exact (xw_Z.warm hW (hZ.kept (fun a h1 h2 => hB.2.2.2.2.1 a h1 h2))).narrow (ow_sub hB.2.1)⟩
/-- of two exceptions none is the other's kind -/
def xw_N (U : State) : Prop := va_Nc (xw_E 1) (xw_E 0) U ∧ va_Nc (xw_E 2) (xw_E 1) U
def hw_Pc (G : List (Nat × Nat)) (D : va_G) (cA : Nat → ClassId) (ad : Nat → Nat) (M : om_M) (av : List Value) : Array Value → State → Prop := va_Pc av (fun U => (ow_B G D cA ad (ow_A G ad) M U U.heap U.heap [] ∧ xw_Z (ow_A G ad) U U.heap) ∧ xw_N U)
theorem hw_pre {G : List (Nat × Nat)} {D : va_G} {cA : Nat → ClassId} {ad : Nat → Nat} {A : Nat → Prop} {M : om_M} {s : State} {H : Heap} {locs : List Loc} {av : List Value} (hB : ow_B G D cA ad A M s s.heap H locs) (hZ : xw_Z A s s.heap) (hN : xw_N s) : ∀ (T : State) (g : JFrame) (mk : MethodId), T.heap = H → s.WarmedH T.vm → hw_Pc G D cA ad M av av.toArray (T.calling g mk av.toArray) := fun T g mk hT hW =>
  ⟨rfl, (xw_pre (av := av) hB hZ T g mk hT hW).2, va_Nc.moved (u := s) (U := T.calling g mk av.toArray) hW.alike hN.1, va_Nc.moved (u := s) (U := T.calling g mk av.toArray) hW.alike hN.2⟩
abbrev hw_ws (y : MethodName) (bytes : ByteArray) (maxL : Nat) (ret : Option FieldType) (hh : List (Nat × Nat × Nat × Nat)) : List Cond := Cond.codeWith y bytes maxL ret hh :: lw_g
theorem hw_wsin {y : MethodName} {bytes : ByteArray} {maxL : Nat} {ret : Option FieldType} {hh : List (Nat × Nat × Nat × Nat)} (h : Cond.codeWith y bytes maxL ret hh ∈ lw_g) : ∀ w ∈ hw_ws y bytes maxL ret hh, w ∈ lw_g := fun w hw => by
  rcases List.mem_cons.mp hw with rfl | hw
  · exact h
  · exact hw
def hw_tab (hh : List (Nat × Nat × Nat × Nat)) : List ExceptionTableEntry := hh.map (fun q => ⟨q.1, q.2.1, q.2.2.1, q.2.2.2⟩)
theorem hw_ofW {l : Launch} {y : MethodName} {ws ws' : List Cond} {rm : Room} {Pc : Array Value → State → Prop} {Qc : Array Value → State → Outcome → State → Prop} {mc ms : Nat} {free : Addr → Prop} {cc : ByteArray} {maxL : Nat} {ret : Option FieldType} {hh : List (Nat × Nat × Nat × Nat)}
    (hy : plainName y.cls = true) (hw : ws = Cond.codeWith y cc maxL ret hh :: ws')
    (body : ∀ p e s m args below meth c s₁, BodyLoose p l y (headSpec ws rm) cc maxL ret e s m args below meth c s₁ → c.maxLocals = maxL → c.exceptionTable.toList = hw_tab hh → Pc args s →
      W p l e (headSpec ws rm).room s m args below meth c s.heap [] 0 0 (xw_MQ below Qc args s mc ms free) (entryFrame m args maxL)) : xw_Met l y ws rm Pc Qc mc ms free := by
  refine MetFree.of_bodyS (code := cc) (maxLocals := maxL) (ret := ret) hy ?_ ?_
  · intro args s m h hn
    obtain ⟨m', meth, c, hn', h1, h2, h3, h4, -, h5, h6, -⟩ := Cond.codeWith_spec (atoms_spec (ws := ws) h _ (by rw [hw]; exact List.mem_cons_self))
    cases hn.symm.trans hn'
    exact ⟨meth, c, h1, h2, h3, h4, h5, h6⟩
  · intro p e s m args below meth c s₁ B hml hP _
    have hh0 : s₁.heap = s.heap := by rw [B.state]; rfl
    have hx : c.exceptionTable.toList = hw_tab hh := by
      obtain ⟨m', meth', c', hn', h1, h2, -, -, h6, -⟩ := Cond.codeWith_spec (atoms_spec (ws := ws) B.pre _ (by rw [hw]; exact List.mem_cons_self))
      cases B.named.symm.trans hn'
      cases B.method.symm.trans h1
      cases (Stand.of_body B).code.symm.trans h2
      rw [← h6]
      unfold hw_tab
      rw [List.map_map]
      exact (List.map_id _).symm
    obtain ⟨t, a1, o, b1, b2, b3⟩ := body p e s m args below meth c s₁ B hml hx hP s₁ hh0 (Stand.of_body B)
    exact ⟨t, o, a1, b1, b2, ⟨b3.1, b3.2⟩⟩
