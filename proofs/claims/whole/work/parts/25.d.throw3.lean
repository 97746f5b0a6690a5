theorem xw_fit (k : Nat) : Bundle.fit (xw_E k) = true := by
  match k with
  | 0 => decide +kernel
  | 1 => decide +kernel
  | _ + 2 => exact (by decide +kernel : Bundle.fit "java/lang/IllegalStateException" = true)
theorem xw_fits : ∀ n ∈ xw_up, Bundle.fit n = true := by decide +kernel
section XW3
variable {p : Program} {l : Launch} {e : Env} {R : Room} {s : State} {m : MethodId} {args : Array Value} {below : List Frame} {meth : Method} {c : Code} {H : Heap} {locs : List Loc} {cells slots : Nat} {Q : State → Prop}
variable {cc : ByteArray} {pc : Nat} {ls : Array Slot} {rest : List Value} {G : List (Nat × Nat)} {D : va_G} {cA : Nat → ClassId} {ad : Nat → Nat} {A : Nat → Prop} {M : om_M} {H0 : Heap}
theorem xw_old {s' U : State} {k n : Nat} (h : s'.sameButNew ({ U with vm := s'.vm } : State) [] k n) : ∀ q, q < s'.heap.size → U.heap[q]? = s'.heap[q]? := by
  intro q hq
  obtain ⟨-, -, -, -, -, h6⟩ := h
  obtain ⟨c', h1, h2, h3, h4⟩ := h6 q (s'.heap[q]'hq) (Array.getElem?_eq_getElem hq)
  have h1 : U.heap[q]? = some c' := h1
  rw [h1, Array.getElem?_eq_getElem hq]
  have hs : c'.slots = (s'.heap[q]'hq).slots := by
    apply Array.ext_getElem?
    intro i
    exact h4 i (by simp)
  rw [h2, hs]
set_option maxHeartbeats 4000000 in
/-- throw new E(): new, dup, the constructor, athrow -/
theorem xw_throw {Qp : Option Value → om_M → Prop} {Xp : Nat → om_M → Prop} (k : Nat) (htr : e.platform.stackTraces = false) (hexec : p.tables.exec = Jvm.exec) (hb : c.code = cc) (hown : s.vm.findClass "BallotDesk" = some m.cls) (hts : ∀ w ∈ lw_g, w.before args s = true) (hZ : xw_Z (ow_A G ad) s s.heap) (hB : ow_B G D cA ad (ow_A G ad) M s s.heap H locs) (hno : ∀ x ∈ c.exceptionTable.toList, False) (hlocks : meth.locks = false) (hls : ls.size = c.maxLocals) {ik : Nat}
    (hclink : Cond.classLink "BallotDesk" ik (xw_E k) ∈ lw_g) (hinst : Cond.instantiable (xw_E k) 6 ∈ lw_g) (hinit : Cond.initialized (xw_E k) ∈ lw_g) (d0 : decode cc pc = .ok (.new ik, 3)) (d3 : decode cc (pc + 3) = .ok (.dup, 1)) (d4 : decode cc (pc + 3 + 1) = .ok (.invokespecial (xw_I k), 3)) (d7 : decode cc (pc + 3 + 1 + 3) = .ok (.athrow, 1))
    (hc : cells + 1 ≤ R.cells) (hs : slots + 6 ≤ R.slots) (hfr : 6 ≤ R.frames) (hlo : 100 ≤ R.locals) (hq : Xp k M) :
    W p l e R s m args below meth c H locs cells slots (xw_MQ below (xw_Q G D cA ad Qp Xp) args s (cells + 1) (slots + 6) (ow_A G ad)) (F0 m pc ls []) := by
  intro T hT X
  subst hT
  have X0 := xw_rebase X (R' := { frames := 6, cells := 1, slots := 6, locals := 100 }) hfr hlo hc hs
  obtain ⟨s', hs'⟩ : ∃ s' : State, s' = (T.setVm s.vm).setFrames (.invoking m args :: below) := ⟨_, rfl⟩
  rw [← hs'] at X0
  have hvm : s'.vm = s.vm := by rw [hs']; rfl
  have hheap : s'.heap = T.heap := by rw [hs']; rfl
  have hW0 : s.WarmedH s'.vm := by rw [hvm]; exact State.WarmedH.refl s
  have hts' : ∀ w ∈ lw_g, w.before args s' = true := fun w hw => word_at hW0 (good_of_word (tg_good hw)) (hts w hw)
  have hZ' : xw_Z (ow_A G ad) s' s'.heap := by
    rw [hheap]
    exact xw_Z.warm hW0 (hZ.kept (fun a h1 h2 => hB.2.2.2.2.1 a h1 h2))
  have hown' : s'.vm.findClass "BallotDesk" = some m.cls := by rw [hvm]; exact hown
  have w : W p l e { frames := 6, cells := 1, slots := 6, locals := 100 } s' m args below meth c T.heap [] 0 0 (fun U => U.status = .running ∧ Ended U below (.threw T.heap.size) ∧ s'.WarmedH U.vm ∧ s'.sameButNew ({ U with vm := s'.vm } : State) [] 1 6 ∧ ∃ ce, U.heap[T.heap.size]? = some ce ∧ Bundle.OwnCell args s' (xw_E k) T.heap.size .null ce) (F0 m pc ls []) := by
    refine W.newc (C := xw_E k) (n := 6) hexec hb hown' (hts' _ hclink) (hts' _ hinst) (hts' _ hinit) rfl d0 (by decide) (by decide) (fun cC kC h1 h2 h3 h4 => ?_)
    refine W.eq (g2 := F0 m (pc + 3) ls [.ref T.heap.size]) rfl ?_
    refine lv_dup hexec hb d3 rfl ?_
    intro T2 hT2 X2
    obtain ⟨U, a1, a2, a3, a4, a5, ce, a6, a7⟩ := X2.ctorThrow0 hexec htr (own := "BallotDesk") (cls := xw_E k) (names := xw_up) (ic := xw_I k) hown' (xw_fit k) xw_fits (xw_words k hts' hZ') (fun x hx => by cases hx) (a := T.heap.size) h1 h2 (by rw [hT2]; exact Array.getElem?_push_size) (by rw [hheap]; exact Nat.le_refl _) (g := F0 m (pc + 3 + 1) ls [.ref T.heap.size, .ref T.heap.size]) rfl hls rfl rfl (rest := []) rfl (by rw [hb]; exact d4) (by rw [hb]; exact d7) (fun x hx => (hno x hx).elim) (Nat.le_of_ble_eq_true rfl) (Nat.le_of_ble_eq_true rfl) hlocks
    exact ⟨U, a1, a2, a3, a4, a5, ce, a6, a7⟩
  obtain ⟨U, st, hrun, hend, hWm, hsm, ce, hce, hoc⟩ := w T rfl X0
  have hkeep : ∀ q, q < T.heap.size → U.heap[q]? = T.heap[q]? := by
    intro q hq
    have := xw_old hsm q (by rw [hheap]; exact hq)
    rw [hheap] at this
    exact this
  have hal : s.vm.Alike U.vm := by rw [← hvm]; exact hWm.alike
  have hsz : T.heap.size ≤ U.heap.size := by
    have := hsm.2.1
    rw [hheap] at this
    exact this
  refine ⟨U, st, .threw T.heap.size, hrun, hend, ⟨Or.inr ⟨T.heap.size, k, M, ce, rfl, hq, hce, hoc.vm, by rw [hal.findClass, ← hvm]; exact hoc.cls, hB.1.kept (fun k q hk => hkeep q.1 ((hB.1 k q hk).lt)), va_K.moved hal hB.2.2.1⟩, Nat.le_trans hB.2.2.2.1 hsz, fun q h1 h2 => by rw [hkeep q (Nat.lt_of_lt_of_le h1 hB.2.2.2.1)]; exact hB.2.2.2.2.1 q h1 h2⟩, locs, ⟨State.WarmedH.of_rootvm hvm.symm hWm, ?_⟩, hB.2.2.2.2.2⟩
  have h2 : (T.setVm s.vm).sameButNew ({ U with vm := s.vm } : State) [] 1 6 := by
    rw [hvm] at hsm
    rw [hs'] at hsm
    refine ⟨?_, hsm.2⟩
    have h3 := hsm.1
    rw [State.setFrames_setFrames] at h3
    exact h3
  have h4 := X.same.trans h2
  rw [List.append_nil] at h4
  exact h4
end XW3
