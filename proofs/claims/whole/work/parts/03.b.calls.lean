/-! contracts over the one world: what a method starts from, what it ends in; calls; returns -/
theorem ow_sub {G : List (Nat × Nat)} {cA : Nat → ClassId} {ad : Nat → Nat} {A : Nat → Prop} {M : om_M} (h : va_D A (ow_wl G cA ad M)) : ∀ q, ow_A G ad q → A q := by
  rintro q ⟨o, ho, rfl⟩
  have := h.2 o (ad o, ow_ent G cA ad (M.1 o) (M.2 o) o) (by simp [ow_wl, ho])
  exact this
theorem ow_fst {G : List (Nat × Nat)} {cA : Nat → ClassId} {ad : Nat → Nat} {M M' : om_M} {k : Nat} {q : Nat × va_E} (h : (ow_wl G cA ad M)[k]? = some q) : ∃ q', (ow_wl G cA ad M')[k]? = some q' ∧ q'.1 = q.1 ∧ q.1 = ad k ∧ k < G.length := by
  have hl : k < G.length := by
    have := (List.getElem?_eq_some_iff.mp h).1
    simpa [ow_wl] using this
  have e : q = (ad k, ow_ent G cA ad (M.1 k) (M.2 k) k) := by
    simp [ow_wl, hl] at h
    exact h.symm
  exact ⟨(ad k, ow_ent G cA ad (M'.1 k) (M'.2 k) k), by simp [ow_wl, hl], by rw [e], by rw [e], hl⟩
theorem ow_D {G : List (Nat × Nat)} {cA : Nat → ClassId} {ad : Nat → Nat} {A : Nat → Prop} {M M' : om_M} (h : va_D A (ow_wl G cA ad M)) : va_D A (ow_wl G cA ad M') := by
  refine ⟨fun i j x y hi hj hxy => ?_, fun k q hk => ?_⟩
  · obtain ⟨x', h1, h2, -, -⟩ := ow_fst (M' := M) hi
    obtain ⟨y', h3, h4, -, -⟩ := ow_fst (M' := M) hj
    exact h.1 i j x' y' h1 h3 (h2.trans (hxy.trans h4.symm))
  · obtain ⟨q', h1, h2, -, -⟩ := ow_fst (M' := M) hk
    rw [← h2]
    exact h.2 k q' h1
theorem ow_DA {G : List (Nat × Nat)} {cA : Nat → ClassId} {ad : Nat → Nat} {A : Nat → Prop} {M : om_M} (h : va_D A (ow_wl G cA ad M)) : va_D (ow_A G ad) (ow_wl G cA ad M) :=
  ⟨h.1, fun k q hk => by
    obtain ⟨q', h1, h2, h3, h4⟩ := ow_fst (M' := M) hk
    exact ⟨k, h4, h3⟩⟩
def ow_W (G : List (Nat × Nat)) (D : va_G) (cA : Nat → ClassId) (ad : Nat → Nat) (M : om_M) (t : State) : Prop := va_P D ow_cl (ow_wl G cA ad M) t.heap ∧ va_K D ow_cl (ow_ty cA) t
def ow_Pc (G : List (Nat × Nat)) (D : va_G) (cA : Nat → ClassId) (ad : Nat → Nat) (M : om_M) (av : List Value) : Array Value → State → Prop := va_Pc av (fun U => ow_B G D cA ad (ow_A G ad) M U U.heap U.heap [])
def ow_Qi (G : List (Nat × Nat)) (D : va_G) (cA : Nat → ClassId) (ad : Nat → Nat) (Q : Int32 → om_M → Prop) : Array Value → State → Outcome → State → Prop := va_Qi Q (ow_W G D cA ad) (ow_A G ad)
def ow_Ql (G : List (Nat × Nat)) (D : va_G) (cA : Nat → ClassId) (ad : Nat → Nat) (Q : Int64 → om_M → Prop) : Array Value → State → Outcome → State → Prop := va_Ql Q (ow_W G D cA ad) (ow_A G ad)
def ow_Qv (G : List (Nat × Nat)) (D : va_G) (cA : Nat → ClassId) (ad : Nat → Nat) (Q : om_M → Prop) : Array Value → State → Outcome → State → Prop := va_Qv Q (ow_W G D cA ad) (ow_A G ad)
theorem ow_blind {G : List (Nat × Nat)} {D : va_G} {cA : Nat → ClassId} {ad : Nat → Nat} {M : om_M} {av : List Value} : FrameBlind (ow_Pc G D cA ad M av) := fun a U g mk q =>
  ⟨q.1, q.2.1, q.2.2.1, va_K.moved (u := U) (U := U.calling g mk a) (Vm.Alike.refl U.vm) q.2.2.2.1, va_S.rf⟩
theorem ow_preS {G : List (Nat × Nat)} {D : va_G} {cA : Nat → ClassId} {ad : Nat → Nat} {A : Nat → Prop} {M : om_M} {s : State} {H0 H : Heap} {locs : List Loc} {As : List Value} (hB : ow_B G D cA ad A M s H0 H locs) : PreS s H (ow_Pc G D cA ad M As) As :=
  ⟨ow_blind, fun U hU hW => ⟨rfl, by rw [hU]; exact hB.1, ow_DA hB.2.1, va_K.moved hW.alike hB.2.2.1, va_S.rf⟩⟩
theorem ow_preV {G : List (Nat × Nat)} {D : va_G} {cA : Nat → ClassId} {ad : Nat → Nat} {A : Nat → Prop} {M : om_M} {s : State} {H0 H : Heap} {locs : List Loc} {As : List Value} {o ci N : Nat} {C : String} {T : u_T} (hB : ow_B G D cA ad A M s H0 H locs) (hk : ow_kd G o = (3, ci)) (hc : ow_cl[ci]? = some (C, T, N)) : PreV s H C (ad o) (ow_Pc G D cA ad M (.ref (ad o) :: As)) As :=
  ⟨ow_blind, va_recv hB.2.2.1 hB.1 hc (ow_at hk (by decide)), fun U hU hW => ⟨rfl, by rw [hU]; exact hB.1, ow_DA hB.2.1, va_K.moved hW.alike hB.2.2.1, va_S.rf⟩⟩
abbrev ow_ws (y : MethodName) (bytes : ByteArray) (maxL : Nat) (ret : Option FieldType) : List Cond := Cond.code y bytes maxL ret :: lw_g
theorem ow_cb {R : Room} {s : State} {args : Array Value} {own : String} {index maxL : Nat} {y : MethodName} {bytes : ByteArray} {ret : Option FieldType} {rm : Room} {mc ms : Nat} (n : Nat) (hts : ∀ w ∈ lw_g, w.before args s = true) (hc : Cond.code y bytes maxL ret ∈ lw_g) (hini : Cond.initialized y.cls ∈ lw_g) (hl : Cond.methodLink own index y ∈ lw_g) (hrc : rm.cells = mc) (hrs : rm.slots = ms)
    (hd : y.cls ≠ "java/lang/invoke/MethodHandle" ∧ y.cls ≠ "java/lang/invoke/VarHandle" ∧ (parseMethodDescriptor y.desc).map (fun d => d.parameters.length) = some n) (hR : rm.frames + 1 ≤ R.frames ∧ 8 + (maxL + 11) + rm.locals ≤ R.locals) : CallB R s args own index y bytes maxL ret (ow_ws y bytes maxL ret) rm mc ms n :=
  callB_of n hts (fun w h => by
    rcases List.mem_cons.mp h with rfl | h
    · exact ⟨hc, good_of_word (tg_good hc)⟩
    · exact ⟨h, good_of_word (tg_good h)⟩) rfl hrc hrs (hts _ hini) (hts _ hl) hd hR
section OWC
variable {p : Program} {l : Launch} {e : Env} {R : Room} {s : State} {m : MethodId} {args : Array Value} {below : List Frame} {meth : Method} {c : Code} {H : Heap} {locs : List Loc} {cells slots : Nat} {Q : State → Prop}
variable {cc : ByteArray} {pc : Nat} {ls : Array Slot} {rest st0 : List Value} {a : Array Value} {G : List (Nat × Nat)} {D : va_G} {cA : Nat → ClassId} {ad : Nat → Nat} {A : Nat → Prop} {M : om_M} {H0 : Heap}
theorem ow_calli {Qp : Int32 → om_M → Prop} (hr : va_Run p l e R s m args below meth c H locs cells slots 0 0 (F0 m pc ls st0) rest (ow_Qi G D cA ad Qp a) (ow_A G ad)) (hB : ow_B G D cA ad A M s H0 H locs)
    (kk : ∀ (r : Int32) (M1 : om_M) (H1 : Heap) (locs1 : List Loc), Qp r M1 → ow_B G D cA ad A M1 s H0 H1 locs1 → W p l e R s m args below meth c H1 locs1 cells slots Q (F0 m (pc + 3) ls (.int r :: rest))) : W p l e R s m args below meth c H locs cells slots Q (F0 m pc ls st0) :=
  va_calli hr hB.2.2.2 (fun q _ h => ow_sub hB.2.1 q h) (ow_sub hB.2.1) (fun r M1 t H1 locs1 ht hvm hp hb hz hk hS => kk r M1 H1 locs1 hp ⟨by rw [← ht]; exact hb.1, ow_D hB.2.1, hB.2.2.1, hS⟩)
theorem ow_calll {Qp : Int64 → om_M → Prop} (hr : va_Run p l e R s m args below meth c H locs cells slots 0 0 (F0 m pc ls st0) rest (ow_Ql G D cA ad Qp a) (ow_A G ad)) (hB : ow_B G D cA ad A M s H0 H locs)
    (kk : ∀ (r : Int64) (M1 : om_M) (H1 : Heap) (locs1 : List Loc), Qp r M1 → ow_B G D cA ad A M1 s H0 H1 locs1 → W p l e R s m args below meth c H1 locs1 cells slots Q (F0 m (pc + 3) ls (.long r :: rest))) : W p l e R s m args below meth c H locs cells slots Q (F0 m pc ls st0) :=
  va_calll hr hB.2.2.2 (fun q _ h => ow_sub hB.2.1 q h) (ow_sub hB.2.1) (fun r M1 t H1 locs1 ht hvm hp hb hz hk hS => kk r M1 H1 locs1 hp ⟨by rw [← ht]; exact hb.1, ow_D hB.2.1, hB.2.2.1, hS⟩)
theorem ow_callv {Qp : om_M → Prop} (hr : va_Run p l e R s m args below meth c H locs cells slots 0 0 (F0 m pc ls st0) rest (ow_Qv G D cA ad Qp a) (ow_A G ad)) (hB : ow_B G D cA ad A M s H0 H locs)
    (kk : ∀ (M1 : om_M) (H1 : Heap) (locs1 : List Loc), Qp M1 → ow_B G D cA ad A M1 s H0 H1 locs1 → W p l e R s m args below meth c H1 locs1 cells slots Q (F0 m (pc + 3) ls rest)) : W p l e R s m args below meth c H locs cells slots Q (F0 m pc ls st0) :=
  va_callv hr hB.2.2.2 (fun q _ h => ow_sub hB.2.1 q h) (ow_sub hB.2.1) (fun M1 t H1 locs1 ht hvm hp hb hz hk hS => kk M1 H1 locs1 hp ⟨by rw [← ht]; exact hb.1, ow_D hB.2.1, hB.2.2.1, hS⟩)
theorem ow_iret {Qp : Int32 → om_M → Prop} {v : Int32} (hexec : p.tables.exec = Jvm.exec) (hb : c.code = cc) (hr : meth.sig.returnType = some .int) (hlocks : meth.locks = false) (hB : ow_B G D cA ad (ow_A G ad) M s s.heap H locs) (hq : Qp v M) (hdg : decode cc pc = .ok (.ireturn, 1)) :
    W p l e R s m args below meth c H locs cells slots (MQ below (ow_Qi G D cA ad Qp) args s cells slots (ow_A G ad)) (F0 m pc ls [.int v]) :=
  W.iret hexec hb hr (fun t ht hW => ⟨⟨v, M, rfl, hq, by rw [ht]; exact hB.1, va_K.moved hW.alike hB.2.2.1⟩, hB.2.2.2.F ht⟩) hB.2.2.2.2.2 hdg hlocks
theorem ow_zret {Qp : Int32 → om_M → Prop} {v : Int32} (hexec : p.tables.exec = Jvm.exec) (hb : c.code = cc) (hr : meth.sig.returnType = some .boolean) (hlocks : meth.locks = false) (hv : vp_nar .boolean v = v) (hB : ow_B G D cA ad (ow_A G ad) M s s.heap H locs) (hq : Qp v M) (hdg : decode cc pc = .ok (.ireturn, 1)) :
    W p l e R s m args below meth c H locs cells slots (MQ below (ow_Qi G D cA ad Qp) args s cells slots (ow_A G ad)) (F0 m pc ls [.int v]) :=
  W.zret (ty := .boolean) hexec hb hr (congrArg Value.int hv) (fun t ht hW => ⟨⟨v, M, rfl, hq, by rw [ht]; exact hB.1, va_K.moved hW.alike hB.2.2.1⟩, hB.2.2.2.F ht⟩) hB.2.2.2.2.2 hdg hlocks
theorem ow_lret {Qp : Int64 → om_M → Prop} {v : Int64} (hexec : p.tables.exec = Jvm.exec) (hb : c.code = cc) (hr : meth.sig.returnType = some .long) (hlocks : meth.locks = false) (hB : ow_B G D cA ad (ow_A G ad) M s s.heap H locs) (hq : Qp v M) (hdg : decode cc pc = .ok (.lreturn, 1)) :
    W p l e R s m args below meth c H locs cells slots (MQ below (ow_Ql G D cA ad Qp) args s cells slots (ow_A G ad)) (F0 m pc ls [.long v]) :=
  W.lret hexec hb hr (fun t ht hW => ⟨⟨v, M, rfl, hq, by rw [ht]; exact hB.1, va_K.moved hW.alike hB.2.2.1⟩, hB.2.2.2.F ht⟩) hB.2.2.2.2.2 hdg hlocks
theorem ow_vret {Qp : om_M → Prop} (hexec : p.tables.exec = Jvm.exec) (hb : c.code = cc) (hr : meth.sig.returnType = none) (hlocks : meth.locks = false) (hB : ow_B G D cA ad (ow_A G ad) M s s.heap H locs) (hq : Qp M) (hdg : decode cc pc = .ok (.return_, 1)) :
    W p l e R s m args below meth c H locs cells slots (MQ below (ow_Qv G D cA ad Qp) args s cells slots (ow_A G ad)) (F0 m pc ls []) :=
  W.vret hexec hb hr (fun t ht hW => ⟨⟨M, rfl, hq, by rw [ht]; exact hB.1, va_K.moved hW.alike hB.2.2.1⟩, hB.2.2.2.F ht⟩) hB.2.2.2.2.2 hdg hlocks
end OWC
/-- a loop: its body, with what holds at the next turn -/
def ow_lp {σ : Type} (body : σ → (σ → Prop) → Prop) : Nat → σ → Prop
  | 0, _ => False
  | k + 1, x => body x (ow_lp body k)
theorem ow_lp_inv {σ : Type} {body : σ → (σ → Prop) → Prop} (I : σ → Prop) (μ : σ → Nat) (hb : ∀ x K, I x → (∀ y, I y → μ y < μ x → K y) → body x K) : ∀ k x, μ x < k → I x → ow_lp body k x := by
  intro k
  induction k with
  | zero => intro x h; omega
  | succ k ih => intro x h hI; exact hb x _ hI (fun y hy hm => ih y (by omega) hy)
