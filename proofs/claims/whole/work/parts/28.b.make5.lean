def cw_QQ (D : va_G) (cA : Nat → ClassId) (b : Nat) (G : List (Nat × Nat)) (Q : om_M → Prop) : Array Value → State → Outcome → State → Prop := va_Qv Q (fun M t => t.heap.size = b + G.length ∧ va_P D ow_cl (ow_wl G cA (aw b) M) t.heap ∧ va_K D ow_cl (ow_ty cA) t) (fun q => b ≤ q)
section CW5
variable {p : Program} {l : Launch} {e : Env} {R : Room} {s : State} {m : MethodId} {args : Array Value} {below : List Frame} {meth : Method} {c : Code} {H : Heap} {locs : List Loc} {cells slots : Nat} {Q : State → Prop}
variable {cc : ByteArray} {pc : Nat} {ls : Array Slot} {rest st0 : List Value} {D : va_G} {cA : Nat → ClassId} {A : Nat → Prop} {H0 : Heap} {ws : va_W} {h b q : Nat} {G : List (Nat × Nat)} {M : om_M}
theorem cw_vretQ {Qp : om_M → Prop} (hexec : p.tables.exec = Jvm.exec) (hb : c.code = cc) (hr : meth.sig.returnType = none) (hlocks : meth.locks = false) (hB : cw_B D cA (fun q => b ≤ q) ws s s.heap H locs) (hw : ws = ow_wl G cA (aw b) M) (hz : H.size = b + G.length) (hq : Qp M) (hdg : decode cc pc = .ok (.return_, 1)) :
    W p l e R s m args below meth c H locs cells slots (MQ below (cw_QQ D cA b G Qp) args s cells slots (fun q => b ≤ q)) (F0 m pc ls []) := by
  subst hw
  exact W.vret hexec hb hr (fun t ht hW => ⟨⟨M, rfl, hq, by rw [ht]; exact hz, by rw [ht]; exact hB.1, va_K.moved hW.alike hB.2.2.1⟩, hB.2.2.2.F ht⟩) hB.2.2.2.2.2 hdg hlocks
theorem cw_get (hexec : p.tables.exec = Jvm.exec) (hb : c.code = cc) {own C : String} {T : u_T} {N ci index : Nat} (hts : ∀ w ∈ lw_g, w.before args s = true) (hin : ∀ w ∈ u_ws C T N, w ∈ lw_g) (hown : s.vm.findClass own = some m.cls) {fs : List Value} (hB : cw_B D cA A ((b, .inr (ci, fs)) :: ws) s H0 H locs) (hc : ow_cl[ci]? = some (C, T, N)) (k : Nat) (hkN : k < N) {v : Value}
    (hlink : Cond.fieldLink own index (T k).1 (T k).2.1 (T k).2.2.1 ∈ lw_g) (hv : fs[k]? = some v) (hdg : decode cc pc = .ok (.getfield index, 3))
    (kk : W p l e R s m args below meth c H locs cells slots Q (F0 m (pc + 3) ls (v :: rest))) : W p l e R s m args below meth c H locs cells slots Q (F0 m pc ls (.ref b :: rest)) :=
  va_get (D := D) hexec hb hts hin hown hB.2.2.1 hB.1 0 rfl hc k hkN (hts _ hlink) (fun _ h => h) hv hdg kk
theorem cw_putI (hexec : p.tables.exec = Jvm.exec) (hb : c.code = cc) {own C : String} {T : u_T} {N ci index : Nat} (hts : ∀ w ∈ lw_g, w.before args s = true) (hin : ∀ w ∈ u_ws C T N, w ∈ lw_g) (ty0 : Nat → FieldType) (hty : ∀ k, k < N → parseFieldDescriptor (T k).2.2.1 = some (ty0 k)) (hnm : ∀ a, a < N → ∀ b, b < N → a ≠ b → (T a).2.1 ≠ (T b).2.1) (hown : s.vm.findClass own = some m.cls) {fs : List Value} (hB : cw_B D cA A ((b, .inr (ci, fs)) :: ws) s H0 H locs) (hc : ow_cl[ci]? = some (C, T, N)) (k : Nat) (hkN : k < N) {x : Int32}
    (hlink : Cond.fieldLink own index (T k).1 (T k).2.1 (T k).2.2.1 ∈ lw_g) (hfin : (T k).2.2.2 = false) (hd : parseFieldDescriptor (T k).2.2.1 = some .int) (hl : k < fs.length) (hdg : decode cc pc = .ok (.putfield index, 3))
    (kk : ∀ (H1 : Heap) (locs1 : List Loc), cw_B D cA A ((b, .inr (ci, fs.set k (.int x))) :: ws) s H0 H1 locs1 → W p l e R s m args below meth c H1 locs1 cells slots Q (F0 m (pc + 3) ls rest)) : W p l e R s m args below meth c H locs cells slots Q (F0 m pc ls (.int x :: .ref b :: rest)) :=
  va_put (D := D) hexec hb hts hin ty0 hty hnm hown hB.2.2.1 hB.1 hB.2.1 hB.2.2.2 0 rfl hc k hkN (hts _ hlink) (fun _ h => h) hfin hd rfl rfl hl hdg (fun H1 locs1 hP hD hS => kk H1 locs1 ⟨hP, hD, hB.2.2.1, hS⟩)
end CW5
section CW6
variable {p : Program} {l : Launch} {e : Env} {R : Room} {s : State} {m : MethodId} {args : Array Value} {below : List Frame} {meth : Method} {c : Code} {H : Heap} {locs : List Loc} {cells slots : Nat} {Q : State → Prop}
variable {cc : ByteArray} {pc : Nat} {ls : Array Slot} {rest st0 : List Value} {D : va_G} {cA : Nat → ClassId} {A : Nat → Prop} {H0 : Heap} {ws : va_W} {h b q : Nat} {G : List (Nat × Nat)} {M : om_M}
theorem cw_putIz (hexec : p.tables.exec = Jvm.exec) (hb : c.code = cc) {own : String} {T : u_T} {N ci index : Nat} (hts : ∀ w ∈ lw_g, w.before args s = true) (hin : ∀ w ∈ u_ws own T N, w ∈ lw_g) (ty0 : Nat → FieldType) (hty : ∀ k, k < N → parseFieldDescriptor (T k).2.2.1 = some (ty0 k)) (hnm : ∀ a, a < N → ∀ b, b < N → a ≠ b → (T a).2.1 ≠ (T b).2.1) (hown : s.vm.findClass own = some m.cls) {fs : List Value} (hB : cw_B D cA A ((b, .inr (ci, fs)) :: ws) s H0 H locs) (hc : ow_cl[ci]? = some (own, T, N)) (k : Nat) (hk : k < N) {x : Int32}
    (hlink : Cond.fieldLink own index (T k).1 (T k).2.1 (T k).2.2.1 ∈ lw_g) (hfin : (T k).2.2.2 = false) (hd : parseFieldDescriptor (T k).2.2.1 = some .int) (hl : k < fs.length) (hdg : decode cc pc = .ok (.putfield index, 3))
    (kk : ∀ (H1 : Heap) (locs1 : List Loc), H1.size = H.size → cw_B D cA A ((b, .inr (ci, fs.set k (.int x))) :: ws) s H0 H1 locs1 → W p l e R s m args below meth c H1 locs1 cells slots Q (F0 m (pc + 3) ls rest)) : W p l e R s m args below meth c H locs cells slots Q (F0 m pc ls (.int x :: .ref b :: rest)) := by
  obtain ⟨hP, hD, hK, hS0⟩ := hB
  have hap := va_apart (own := own) hts hin ty0 hty hnm hK hc
  obtain ⟨r, h1, cell, q1, q2, q3, q4⟩ := hP 0 _ rfl
  have hr : r = (own, T, N) := Option.some.inj (h1.symm.trans hc)
  subst hr
  obtain ⟨hS, hfc, kC, hkC, hkind⟩ := hK.1 ci _ hc
  obtain ⟨cf, kf, fi, f, hfi, hsl⟩ := hS k hk
  have hlay := hts _ (hin _ (u_in_lay hk))
  unfold u_lay at hlay
  rw [if_neg (by rw [hfin]; decide)] at hlay
  have hst := (u_facts hfc hkC (u_lays hts hin hk) hfi).1
  have h6 := u_store hfc hkC hkind hlay hfi hd (v := .int x) rfl rfl
  refine W.putK hexec hb (f := f) ⟨hown, hts _ hlink, ⟨_, _, _, hfi⟩, hst⟩ (by rw [q2]; exact h6) q1 q3 (by rw [hsl]; exact k2_hasslot (q4 k hk)) rfl rfl hdg fun H' e1 e2 e3 => ?_
  rw [hsl] at e1 ⊢
  exact kk H' _ e2 ⟨va_P.set (p := 0) hP hD rfl ⟨_, hc, t_OB.to (V := updV (vp_V fs) k (.int x)) ⟨_, e1, q2, q3, t_set q4 hap hk (.int x)⟩ (fun j _ => vp_updV_set hl (.int x) j)⟩ e3, va_D.set (p := 0) hD rfl, hK, hS0.put e2 e3 (hD.2 0 _ rfl)⟩
theorem cw_app1 {P : List (Nat × Nat)} {x : Nat × Nat} {q : Nat} (h : b + P.length = q) : ow_wl P cA (aw b) om_0 ++ ow_wl [x] cA (aw q) om_0 = ow_wl (P ++ [x]) cA (aw b) om_0 := by
  rw [cw_app, h]
theorem cw_hd {M1 : om_M} {x : Nat × Nat} {P : List (Nat × Nat)} {r : va_W} {hd : Nat × va_E} (h1 : ow_wl [x] cA (aw b) M1 = [hd]) (h2 : r = ow_wl P cA (aw (b + 1)) om_0) : hd :: r = ow_wl ([x] ++ P) cA (aw b) (om_j 1 M1 om_0) := by
  have := cw_appM [x] P cA b M1 om_0
  rw [h1] at this
  rw [h2]
  exact this.symm
theorem cw_to {ws' : va_W} (hB : cw_B D cA A ws s H0 H locs) (h : ws = ws') : cw_B D cA A ([] ++ ws') s H0 H locs := h ▸ hB
end CW6
