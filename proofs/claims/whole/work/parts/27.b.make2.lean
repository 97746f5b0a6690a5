theorem cw_arrV {c : ClassId} {N : Nat} {f g : Nat → Value} (h : ∀ j, j < N → f j = g j) : arrV c N f = arrV c N g := by
  unfold arrV
  congr 2
  funext j
  exact h j.val j.isLt
theorem cw_outer (c : ClassId) (N h0 : Nat) : ∀ i : Nat, Jvm.Free.Multi.outerC c N h0 i = arrV c N (fun j => if j < i then .ref (h0 + 1 + j) else .null)
  | 0 => by
    show ({ cls := c, slots := Array.replicate N .null, vm := .none } : Cell) = _
    rw [arrV_new]
    exact cw_arrV (fun j _ => by simp)
  | i + 1 => by
    show (Jvm.Free.Multi.outerC c N h0 i).setSlot i (.ref (h0 + 1 + i)) = _
    rw [cw_outer c N h0 i, arrV_store]
    refine cw_arrV (fun j _ => ?_)
    by_cases hj : j = i
    · subst hj
      simp [updV]
    · by_cases hl : j < i
      · simp [updV, hj, hl, Nat.lt_succ_of_lt hl]
      · simp [updV, hj, hl, show ¬ j < i + 1 by omega]
abbrev cw_Gm (t K : Nat) : List (Nat × Nat) := [(t, 7), (0, K), (0, K), (0, K), (0, K), (0, K), (0, K), (0, K)]
theorem cw_block {D : va_G} {cA : Nat → ClassId} {h t K : Nat} {Hn : Heap} (ht : t = 2 ∨ t = 5) (f2 : Hn[h]? = some (arrV (cA 2) 7 (fun j => if j < 7 then .ref (h + 1 + j) else .null))) (hrow : ∀ j : Nat, j < 7 → Hn[h + 1 + j]? = some (arrV (cA 0) K (fun _ => .int 0))) : va_P D ow_cl (ow_wl (cw_Gm t K) cA (aw h) om_0) Hn := by
  have key : ∀ j : Nat, j < 7 → va_at D ow_cl (h + (j + 1), .inl (cA 0, K, .inl (fun _ => 0))) Hn := fun j hj => by
    show Hn[h + (j + 1)]? = some (vp_cell _ _)
    rw [show h + (j + 1) = h + 1 + j by omega, hrow j hj]
    rfl
  have hc : va_at D ow_cl (h + 0, .inl (cA 2, 7, .inr (.inr (.inr (.inr (fun j => some (aw h (0 + 1 + j)))))))) Hn := by
    show Hn[h + 0]? = some (vp_cell _ _)
    rw [vp_cell_q, Nat.add_zero, f2]
    refine congrArg some (cw_arrV (fun j hj => ?_))
    simp only [hj, if_true]
    exact congrArg Value.ref (by show h + 1 + j = h + (0 + 1 + j); omega)
  intro i q hq
  have hi : i < 8 := (cw_addr hq).2
  have hw : ow_wl (cw_Gm t K) cA (aw h) om_0 = (h + 0, .inl (cA 2, 7, .inr (.inr (.inr (.inr (fun j => some (aw h (0 + 1 + j)))))))) :: (List.range 7).map (fun j => (h + (j + 1), .inl (cA 0, K, .inl (fun _ => 0)))) := by
    rcases ht with rfl | rfl <;> rfl
  rw [hw] at hq
  cases i with
  | zero => cases hq; exact hc
  | succ i =>
    rw [List.getElem?_cons_succ, List.getElem?_map, List.getElem?_range (by omega)] at hq
    cases hq
    exact key i (by omega)
section CW2
variable {p : Program} {l : Launch} {e : Env} {R : Room} {s : State} {m : MethodId} {args : Array Value} {below : List Frame} {meth : Method} {c : Code} {H : Heap} {locs : List Loc} {cells slots : Nat} {Q : State → Prop}
variable {cc : ByteArray} {pc : Nat} {ls : Array Slot} {rest : List Value} {D : va_G} {cA : Nat → ClassId} {A : Nat → Prop} {H0 : Heap} {ws : va_W} {h : Nat}
theorem cw_mna (hexec : p.tables.exec = Jvm.exec) (hb : c.code = cc) {own : String} {index : Nat} (hts : ∀ w ∈ lw_g, w.before args s = true) (hown : s.vm.findClass own = some m.cls) (hclink : Cond.classLink own index "[[I" ∈ lw_g) (hover : cw_AO s) (hB : cw_B D cA A ws s H0 H locs) (hA : ∀ q, H0.size ≤ q → A q) (hz : H.size = h) {t K : Nat} (ht : t = 2 ∨ t = 5) {k : Int32} (hk : ¬ k < 0) (hK : k.toNatClampNeg = K) (hK1 : K ≤ 1000) (hcells : cells + 8 ≤ R.cells) (hslots : slots + (7 + 7 * K) ≤ R.slots) (hdg : decode cc pc = .ok (.multianewarray index 2, 4))
    (kk : ∀ H1 : Heap, H1.size = h + 8 → cw_B D cA A (ws ++ ow_wl (cw_Gm t K) cA (aw h) om_0) s H0 H1 locs → W p l e R s m args below meth c H1 locs (cells + 8) (slots + (7 + 7 * K)) Q (F0 m (pc + 4) ls (.ref h :: rest))) : W p l e R s m args below meth c H locs cells slots Q (F0 m pc ls (.int k :: .int 7 :: rest)) := by
  intro T hT X
  have h7 : (7 : Int32).toNatClampNeg = 7 := by decide
  obtain ⟨vm₁, cA', comp, -, fA, fC, -, -, X', step⟩ := X.multianewarray2F (ty := .int) hexec hown (hts _ hclink) (cw_AO.use hover) (hts _ mw_97) (g := F0 m pc ls (.int k :: .int 7 :: rest)) rfl (by rw [hb]; exact hdg) rfl (by decide) hk (by decide) (by rw [hK]; show K * 4 ≤ _; omega) (by rw [hK]; omega) rfl rfl (by rw [h7]; exact hcells) (by rw [h7, hK]; exact hslots)
  rw [h7, hK] at X' step
  have e2 : cA' = cA 2 := Option.some.inj (fA.symm.trans (hB.2.2.1.2 2 _ rfl).2)
  have e0 : comp = cA 0 := Option.some.inj (fC.symm.trans (hB.2.2.1.2 0 _ rfl).2)
  subst e2
  subst e0
  have hTh : (T.setVm vm₁).heap = H := hT
  obtain ⟨f1, f2, -, -⟩ := Jvm.Free.Multi.fill_facts (T.setVm vm₁) (cA 2) (cA 0) 7 K (defaultValue .int) 7
  rw [hTh, hz] at f1 f2
  have hold : ∀ x : Nat, x < h → (Jvm.Free.Multi.fill (T.setVm vm₁) (cA 2) (cA 0) 7 K (defaultValue .int) 7).heap[x]? = H[x]? := fun x hx => by
    have := Jvm.Free.Multi.fill_old (T.setVm vm₁) (cA 2) (cA 0) 7 K (defaultValue .int) (a := x) (by rw [hTh, hz]; exact hx) 7
    rw [hTh] at this
    exact this
  have hrow : ∀ j : Nat, j < 7 → (Jvm.Free.Multi.fill (T.setVm vm₁) (cA 2) (cA 0) 7 K (defaultValue .int) 7).heap[h + 1 + j]? = some (arrV (cA 0) K (fun _ => .int 0)) := fun j hj => by
    have := Jvm.Free.Multi.fill_inner (T.setVm vm₁) (cA 2) (cA 0) 7 K (defaultValue .int) 7 j hj
    rw [hTh, hz] at this
    rw [this]
    show some ({ cls := cA 0, slots := Array.replicate K (.int 0), vm := .none } : Cell) = _
    rw [arrV_new]
  rw [cw_outer] at f2
  have hblock := cw_block (D := D) ht f2 hrow
  obtain ⟨t2, a1, b1⟩ := kk _ f1 (cw_kept hB hA hz (by rw [f1]; omega) hold hblock) _ rfl (by
    have e1 : cells + 1 + 7 = cells + 8 := by omega
    have e3 : slots + 7 + 7 * K = slots + (7 + 7 * K) := by omega
    rw [e1, e3] at X'
    exact X')
  refine ⟨t2, step _ ?_, b1⟩
  rw [hT, hz]
  exact a1
theorem cw_new (hexec : p.tables.exec = Jvm.exec) (hb : c.code = cc) {own C : String} {T : u_T} {N ci index : Nat} (hts : ∀ w ∈ lw_g, w.before args s = true) (hin : ∀ w ∈ u_ws C T N, w ∈ lw_g) (ty : Nat → FieldType) (hty : ∀ k, k < N → parseFieldDescriptor (T k).2.2.1 = some (ty k)) (hown : s.vm.findClass own = some m.cls) (hcl : Cond.classLink own index C ∈ lw_g) (hinst : Cond.instantiable C N ∈ lw_g) (hini : Cond.initialized C ∈ lw_g) (hB : cw_B D cA A ws s H0 H locs) (hA : ∀ q, H0.size ≤ q → A q) (hz : H.size = h) (hc : ow_cl[ci]? = some (C, T, N)) {fs : List Value} (hfs : ∀ j, j < N → defaultValue (ty j) = vp_V fs j) (hcells : cells + 1 ≤ R.cells) (hslots : slots + N ≤ R.slots) (hdg : decode cc pc = .ok (.new index, 3))
    (kk : ∀ H1 : Heap, H1.size = h + 1 → cw_B D cA A (ws ++ [(h, .inr (ci, fs))]) s H0 H1 locs → W p l e R s m args below meth c H1 locs (cells + 1) (slots + N) Q (F0 m (pc + 3) ls (.ref h :: rest))) : W p l e R s m args below meth c H locs cells slots Q (F0 m pc ls rest) := by
  obtain ⟨hP, hD, hK, hS⟩ := hB
  have hKn := hK.1 ci _ hc
  refine W.newcK hexec hb hown (hts _ hcl) (hts _ hinst) (hts _ hini) rfl hdg hcells hslots hKn.2.1 hz fun H1 kC hkC e1 z1 o1 => ?_
  have h0 := hS.1
  have hk : ∀ (k : Nat) (x : Nat × va_E), ws[k]? = some x → H1[x.1]? = H[x.1]? := fun k x hx => o1 x.1 (by have := (hP k x hx).lt; omega)
  refine kk H1 (by omega) ⟨(hP.kept hk).app (fun k x hx => ?_), hD.push hP hz.symm (hA _ (by omega)), hK, by omega, fun x h1 h2 => (o1 x (by omega)).trans (hS.2.1 x h1 h2), hS.2.2⟩
  have hz1 : k < 1 := (List.getElem?_eq_some_iff.mp hx).1
  rw [show k = 0 by omega] at hx
  cases hx
  exact ⟨_, hc, (u_born ty hts hin hKn hkC e1 hty).to hfs⟩
theorem cw_putF (hexec : p.tables.exec = Jvm.exec) (hb : c.code = cc) {own : String} {T : u_T} {N ci index b : Nat} (hts : ∀ w ∈ lw_g, w.before args s = true) (hin : ∀ w ∈ u_ws own T N, w ∈ lw_g) (ty0 : Nat → FieldType) (hty : ∀ k, k < N → parseFieldDescriptor (T k).2.2.1 = some (ty0 k)) (hnm : ∀ a, a < N → ∀ b, b < N → a ≠ b → (T a).2.1 ≠ (T b).2.1) (hown : s.vm.findClass own = some m.cls) {fs : List Value} (hB : cw_B D cA A ((b, .inr (ci, fs)) :: ws) s H0 H locs) (hc : ow_cl[ci]? = some (own, T, N)) (k : Nat) (hk : k < N) (hlink : Cond.fieldLink own index (T k).1 (T k).2.1 (T k).2.2.1 ∈ lw_g) (hfin : (T k).2.2.2 = true) (hi : meth.name = "<init>") (hdecl : (T k).1 = own) {ty : FieldType} {v : Value} (hd : parseFieldDescriptor (T k).2.2.1 = some ty) (hn : narrow ty v = v) (hfit : fits ty v = true) (hl : k < fs.length) (hdg : decode cc pc = .ok (.putfield index, 3))
    (kk : ∀ (H1 : Heap) (locs1 : List Loc), H1.size = H.size → cw_B D cA A ((b, .inr (ci, fs.set k v)) :: ws) s H0 H1 locs1 → W p l e R s m args below meth c H1 locs1 cells slots Q (F0 m (pc + 3) ls rest)) : W p l e R s m args below meth c H locs cells slots Q (F0 m pc ls (v :: .ref b :: rest)) := by
  obtain ⟨hP, hD, hK, hS0⟩ := hB
  have hap := va_apart (own := own) hts hin ty0 hty hnm hK hc
  obtain ⟨r, h1, cell, q1, q2, q3, q4⟩ := hP 0 _ rfl
  have hr : r = (own, T, N) := Option.some.inj (h1.symm.trans hc)
  subst hr
  obtain ⟨hS, hfc, kC, hkC, hkind⟩ := hK.1 ci _ hc
  obtain ⟨cf, kf, fi, f, hfi, hsl⟩ := hS k hk
  have hlay := hts _ (hin _ (u_in_lay hk))
  unfold u_lay at hlay
  rw [if_pos hfin] at hlay
  have hst := (u_facts hfc hkC (u_lays hts hin hk) hfi).1
  have hcf : m.cls = cf := by
    obtain ⟨_, _, c', _, _, _, -, -, hf', -, -, -, hown2, -⟩ := Cond.laysFinal_spec hlay
    have e1 : c' = cf := by have := hfi.symm.trans hf'; simp at this; exact this.1.symm
    rw [hdecl] at hown2
    rw [← e1]; exact Option.some.inj (hown.symm.trans hown2)
  have h6 := u_fits hfc hkC hkind (Or.inr hlay) hfi hd hn hfit
  refine W.putFinK hexec hb hown (hts _ hlink) hfi hst hcf hi (by rw [q2]; exact h6) q1 q3 (by rw [hsl]; exact k2_hasslot (q4 k hk)) rfl rfl hdg fun H' e1 e2 e3 => ?_
  rw [hsl] at e1 ⊢
  exact kk H' _ e2 ⟨va_P.set (p := 0) hP hD rfl ⟨_, hc, t_OB.to (V := updV (vp_V fs) k v) ⟨_, e1, q2, q3, t_set q4 hap hk v⟩ (fun j _ => vp_updV_set hl v j)⟩ e3, va_D.set (p := 0) hD rfl, hK, hS0.put e2 e3 (hD.2 0 _ rfl)⟩
end CW2
