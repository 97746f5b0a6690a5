/-! the world of methods that may throw: start, end, return, throw, call, catch -/
def xw_Pc (G : List (Nat × Nat)) (D : va_G) (cA : Nat → ClassId) (ad : Nat → Nat) (M : om_M) (av : List Value) : Array Value → State → Prop := va_Pc av (fun U => ow_B G D cA ad (ow_A G ad) M U U.heap U.heap [] ∧ xw_Z (ow_A G ad) U U.heap)
def xw_ri (Q : Int32 → om_M → Prop) : Option Value → om_M → Prop := fun v M => ∃ r : Int32, v = some (.int r) ∧ Q r M
def xw_rl (Q : Int64 → om_M → Prop) : Option Value → om_M → Prop := fun v M => ∃ r : Int64, v = some (.long r) ∧ Q r M
def xw_rv (Q : om_M → Prop) : Option Value → om_M → Prop := fun v M => v = none ∧ Q M
def xw_Q (G : List (Nat × Nat)) (D : va_G) (cA : Nat → ClassId) (ad : Nat → Nat) (Q : Option Value → om_M → Prop) (X : Nat → om_M → Prop) : Array Value → State → Outcome → State → Prop := fun _ st oc t =>
  ((∃ (v : Option Value) (M : om_M), oc = .returned v ∧ Q v M ∧ ow_W G D cA ad M t) ∨ (∃ (q : Addr) (k : Nat) (M : om_M) (ce : Cell), oc = .threw q ∧ X k M ∧ t.heap[q]? = some ce ∧ ce.vm = .none ∧ t.vm.findClass (xw_E k) = some ce.cls ∧ ow_W G D cA ad M t)) ∧ va_F (ow_A G ad) st t
theorem xw_toMQ {below : List Frame} {Qc : Array Value → State → Outcome → State → Prop} {a : Array Value} {s t : State} {mc ms : Nat} {free : Addr → Prop} (h : MQ below Qc a s mc ms free t) : xw_MQ below Qc a s mc ms free t := by
  obtain ⟨o, h1, h2, h3, L, h4, h5⟩ := h
  exact ⟨o, h1, h2, h3, L, ⟨h4.2.1, h4.2.2⟩, h5⟩
theorem xw_blind {G : List (Nat × Nat)} {D : va_G} {cA : Nat → ClassId} {ad : Nat → Nat} {M : om_M} {av : List Value} {a : Array Value} {U : State} {g : JFrame} {mk : MethodId} (q : xw_Pc G D cA ad M av a U) : xw_Pc G D cA ad M av a (U.calling g mk a) :=
  ⟨q.1, ⟨q.2.1.1, q.2.1.2.1, va_K.moved (u := U) (U := U.calling g mk a) (Vm.Alike.refl U.vm) q.2.1.2.2.1, va_S.rf⟩, xw_Z.warm (s := U) (U := U.calling g mk a) (State.WarmedH.refl U) q.2.2⟩
section XW2
variable {p : Program} {l : Launch} {e : Env} {R : Room} {s : State} {m : MethodId} {args : Array Value} {below : List Frame} {meth : Method} {c : Code} {H : Heap} {locs : List Loc} {cells slots : Nat} {Q : State → Prop}
variable {cc : ByteArray} {pc : Nat} {ls : Array Slot} {rest : List Value} {G : List (Nat × Nat)} {D : va_G} {cA : Nat → ClassId} {ad : Nat → Nat} {A : Nat → Prop} {M : om_M} {H0 : Heap}
theorem xw_iret {Qp : Int32 → om_M → Prop} {Xp : Nat → om_M → Prop} {v : Int32} (hexec : p.tables.exec = Jvm.exec) (hb : c.code = cc) (hr : meth.sig.returnType = some .int) (hlocks : meth.locks = false) (hB : ow_B G D cA ad (ow_A G ad) M s s.heap H locs) (hq : Qp v M) (hdg : decode cc pc = .ok (.ireturn, 1)) :
    W p l e R s m args below meth c H locs cells slots (xw_MQ below (xw_Q G D cA ad (xw_ri Qp) Xp) args s cells slots (ow_A G ad)) (F0 m pc ls [.int v]) :=
  xw_mono (fun _ h => xw_toMQ h) (W.iret hexec hb hr (fun t ht hW => ⟨Or.inl ⟨_, M, rfl, ⟨v, rfl, hq⟩, by rw [ht]; exact hB.1, va_K.moved hW.alike hB.2.2.1⟩, hB.2.2.2.F ht⟩) hB.2.2.2.2.2 hdg hlocks)
theorem xw_zret {Qp : Int32 → om_M → Prop} {Xp : Nat → om_M → Prop} {v : Int32} (hexec : p.tables.exec = Jvm.exec) (hb : c.code = cc) (hr : meth.sig.returnType = some .boolean) (hlocks : meth.locks = false) (hv : vp_nar .boolean v = v) (hB : ow_B G D cA ad (ow_A G ad) M s s.heap H locs) (hq : Qp v M) (hdg : decode cc pc = .ok (.ireturn, 1)) :
    W p l e R s m args below meth c H locs cells slots (xw_MQ below (xw_Q G D cA ad (xw_ri Qp) Xp) args s cells slots (ow_A G ad)) (F0 m pc ls [.int v]) :=
  xw_mono (fun _ h => xw_toMQ h) (W.zret (ty := .boolean) hexec hb hr (congrArg Value.int hv) (fun t ht hW => ⟨Or.inl ⟨_, M, rfl, ⟨v, rfl, hq⟩, by rw [ht]; exact hB.1, va_K.moved hW.alike hB.2.2.1⟩, hB.2.2.2.F ht⟩) hB.2.2.2.2.2 hdg hlocks)
theorem xw_lret {Qp : Int64 → om_M → Prop} {Xp : Nat → om_M → Prop} {v : Int64} (hexec : p.tables.exec = Jvm.exec) (hb : c.code = cc) (hr : meth.sig.returnType = some .long) (hlocks : meth.locks = false) (hB : ow_B G D cA ad (ow_A G ad) M s s.heap H locs) (hq : Qp v M) (hdg : decode cc pc = .ok (.lreturn, 1)) :
    W p l e R s m args below meth c H locs cells slots (xw_MQ below (xw_Q G D cA ad (xw_rl Qp) Xp) args s cells slots (ow_A G ad)) (F0 m pc ls [.long v]) :=
  xw_mono (fun _ h => xw_toMQ h) (W.lret hexec hb hr (fun t ht hW => ⟨Or.inl ⟨_, M, rfl, ⟨v, rfl, hq⟩, by rw [ht]; exact hB.1, va_K.moved hW.alike hB.2.2.1⟩, hB.2.2.2.F ht⟩) hB.2.2.2.2.2 hdg hlocks)
theorem xw_vret {Qp : om_M → Prop} {Xp : Nat → om_M → Prop} (hexec : p.tables.exec = Jvm.exec) (hb : c.code = cc) (hr : meth.sig.returnType = none) (hlocks : meth.locks = false) (hB : ow_B G D cA ad (ow_A G ad) M s s.heap H locs) (hq : Qp M) (hdg : decode cc pc = .ok (.return_, 1)) :
    W p l e R s m args below meth c H locs cells slots (xw_MQ below (xw_Q G D cA ad (xw_rv Qp) Xp) args s cells slots (ow_A G ad)) (F0 m pc ls []) :=
  xw_mono (fun _ h => xw_toMQ h) (W.vret hexec hb hr (fun t ht hW => ⟨Or.inl ⟨_, M, rfl, ⟨rfl, hq⟩, by rw [ht]; exact hB.1, va_K.moved hW.alike hB.2.2.1⟩, hB.2.2.2.F ht⟩) hB.2.2.2.2.2 hdg hlocks)
/-- an exception that nothing here takes: it goes on to the caller -/
theorem xw_out {Qp : Option Value → om_M → Prop} {Xp : Nat → om_M → Prop} {k : Nat} {q : Addr} {ce : Cell} (hno : ∀ x ∈ c.exceptionTable.toList, False) (hlocks : meth.locks = false) (hB : ow_B G D cA ad (ow_A G ad) M s s.heap H locs) (hX : Xp k M) (hce : H[q]? = some ce) (hv : ce.vm = .none) (hcl : s.vm.findClass (xw_E k) = some ce.cls) :
    xw_W p l e R s m args below meth c H locs cells slots (xw_MQ below (xw_Q G D cA ad Qp Xp) args s cells slots (ow_A G ad)) (F0 m pc ls rest) q := by
  intro T hT X
  obtain ⟨st, hrun, hend, hW, hsm⟩ := X.leaveThrown q (g := F0 m pc ls rest) rfl rfl rfl (fun x hx => (hno x hx).elim) hlocks
  have hh : (T.setFrames (.throwing q :: below)).heap = H := hT
  refine ⟨_, st, .threw q, hrun, hend, ⟨Or.inr ⟨q, k, M, ce, rfl, hX, by rw [hh]; exact hce, hv, by rw [hW.alike.findClass]; exact hcl, by rw [hh]; exact hB.1, va_K.moved hW.alike hB.2.2.1⟩, hB.2.2.2.F hh⟩, locs, ⟨hW, hsm⟩, hB.2.2.2.2.2⟩
theorem xw_widen {g : JFrame} {q : Addr} {k n : Nat} (h1 : cells ≤ k) (h2 : slots ≤ n) (kk : xw_W p l e R s m args below meth c H locs k n Q g q) : xw_W p l e R s m args below meth c H locs cells slots Q g q := fun T hT X => kk T hT (stand_widen X h1 h2)
/-- a walk that stands at T, looked at as one that begins there -/
theorem xw_rebase {T : State} (X : Stand p l e R s m args below meth c T locs cells slots) {R' : Room} (hf : R'.frames ≤ R.frames) (hl : R'.locals ≤ R.locals) (hc : cells + R'.cells ≤ R.cells) (hs : slots + R'.slots ≤ R.slots) :
    Stand p l e R' ((T.setVm s.vm).setFrames (.invoking m args :: below)) m args below meth c T [] 0 0 := by
  have htop : (T.setVm s.vm).topJava?.isSome := X.here.top
  have hF : ((T.setVm s.vm).setFrames (.invoking m args :: below)).frames = .invoking m args :: below := State.frames_setFrames _ (State.cur_lt_of_top htop)
  have hU : ((T.setVm s.vm).setFrames (.invoking m args :: below)).localsInUse = s.localsInUse := by
    rw [State.localsInUse_invoking hF (meth := meth) (c := c) X.method X.code, State.localsInUse_invoking X.frames X.method X.code]
  have hl9 : e.platform.stackLimits (T.setVm s.vm).me = e.platform.stackLimits s.me := X.limits
  have hb9 : (T.setVm s.vm).me.stackBytes = s.me.stackBytes := X.bytes
  have hz := X.heapSize
  have hu := X.used
  have hroom : ((T.setVm s.vm).setFrames (.invoking m args :: below)).hasRoom e.platform R' = true := by
    have h := X.room
    simp only [State.hasRoom, Bool.and_eq_true, decide_eq_true_eq] at h ⊢
    obtain ⟨⟨⟨⟨h1, h2, h3, h4, h5, h6⟩, h7⟩, h8⟩, h9⟩ := h
    rw [X.frames, List.length_cons] at h2 h3
    simp only [hF, hU, List.length_cons, State.stackLimits_setFrames, State.stackBytes_setFrames, hl9, hb9]
    exact ⟨⟨⟨⟨by omega, by omega, by omega, by omega, by omega, h6⟩, (by show T.heap.size + R'.cells ≤ e.platform.maxCells; omega)⟩, (by show T.slotsUsed + R'.slots ≤ e.platform.maxSlots; omega)⟩, X.book⟩
  obtain ⟨g₀, hg0⟩ := Option.isSome_iff_exists.mp htop
  obtain ⟨r, hr⟩ := State.topJava?_eq_some.mp hg0
  obtain ⟨th, hth, -⟩ := State.frames_cons hr
  have hsame : ((T.setVm s.vm).setFrames (.invoking m args :: below)).sameButNew (T.setVm s.vm) [] 0 0 := by
    have h1 := State.sameButNew.refl ((T.setVm s.vm).setFrames (.invoking m args :: below)) (State.frames_cons hF).choose_spec.1
    have h2 := h1.setFrames (T.setVm s.vm).frames (State.cur_lt_of_frames hF)
    rw [State.setFrames_setFrames, State.setFrames_self hth] at h2
    exact h2
  exact ⟨X.admits, X.cas, X.clock, hF, hroom, X.hears, X.method, X.code, X.here, X.tail, X.warmed, by rw [State.stackLimits_setFrames]; rfl, by rw [State.stackBytes_setFrames]; rfl, hsame⟩
end XW2
