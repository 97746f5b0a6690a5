/-! what a throw asks of the tables and of Throwable's two statics, in a form that stays -/
def xw_L (n d : String) (A : Nat → Prop) (U : State) (H : Heap) : Prop := ∃ (c : ClassId) (k : Class) (i : Nat) (f : Field) (a : Nat) (cell : Cell) (v : Value), U.vm.findClass Bundle.tN = some c ∧ U.fieldFound? Bundle.tN n d = some (c, k, i, f) ∧ f.isStatic = true ∧ k.statics = some a ∧ H[a]? = some cell ∧ cell.vm.isStatics = true ∧ cell.cls = c ∧ f.slot < cell.slots.size ∧ k.staticTypes[f.slot]? = some f.type ∧ cell.slots[f.slot]? = some v ∧ v.isRef = true ∧ ¬ A a
theorem xw_L.moved {n d : String} {A : Nat → Prop} {u U : State} {H : Heap} (hvm : u.vm.Alike U.vm) (h : xw_L n d A u H) : xw_L n d A U H := by
  obtain ⟨c, k, i, f, a, cell, v, h1, h2, h3, h4, h5, h6, h7, h8, h9, h10⟩ := h
  obtain ⟨k', hi', he⟩ := State.fieldFound?_setVm hvm h2
  exact ⟨c, k', i, f, a, cell, v, by rw [hvm.findClass]; exact h1, hi', h3, by rw [he]; exact h4, h5, h6, h7, h8, by rw [he]; exact h9, h10⟩
theorem xw_L.kept {n d : String} {A : Nat → Prop} {U : State} {H H1 : Heap} (h : xw_L n d A U H) (hq : ∀ a : Nat, a < H.size → ¬ A a → H1[a]? = H[a]?) : xw_L n d A U H1 := by
  obtain ⟨c, k, i, f, a, cell, v, h1, h2, h3, h4, h5, h6, h7, h8, h9, h10, h11, h12⟩ := h
  exact ⟨c, k, i, f, a, cell, v, h1, h2, h3, h4, by rw [hq a (Array.getElem?_eq_some_iff.mp h5).1 h12]; exact h5, h6, h7, h8, h9, h10, h11, h12⟩
theorem xw_L.narrow {n d : String} {A B : Nat → Prop} {U : State} {H : Heap} (h : xw_L n d A U H) (hAB : ∀ q, B q → A q) : xw_L n d B U H := by
  obtain ⟨c, k, i, f, a, cell, v, h1, h2, h3, h4, h5, h6, h7, h8, h9, h10, h11, h12⟩ := h
  exact ⟨c, k, i, f, a, cell, v, h1, h2, h3, h4, h5, h6, h7, h8, h9, h10, h11, fun q => h12 (hAB a q)⟩
theorem xw_L.of {n d : String} {A : Nat → Prop} {args : Array Value} {s : State} (hl : (Cond.laysStatic Bundle.tN n d).before args s = true) (hr : (Cond.isRef (.static Bundle.tN n d)).before args s = true) (hA : ∀ a : Nat, a < s.heap.size → ¬ A a) : xw_L n d A s s.heap := by
  obtain ⟨c, k, i, f, a, cell, hc, hi, hst, ha, hcell, hs, hcls, hlt, hty⟩ := Cond.laysStatic_spec hl
  obtain ⟨u, hu⟩ := Cond.staticRefV hi hst ha hcell hs hr
  exact ⟨c, k, i, f, a, cell, u.v, hc, hi, hst, ha, hcell, hs, hcls, hlt, hty, hu, u.2, hA a (Array.getElem?_eq_some_iff.mp hcell).1⟩
theorem xw_L.lays {n d : String} {A : Nat → Prop} {U : State} (h : xw_L n d A U U.heap) (args : Array Value) : (Cond.laysStatic Bundle.tN n d).before args U = true := by
  obtain ⟨c, k, i, f, a, cell, v, h1, h2, h3, h4, h5, h6, h7, h8, h9, h10, h11, h12⟩ := h
  simp [Cond.before, Cond.holds, Cond.value, h1, h2, h3, h4, h5, h6, h7, h8, h9]
theorem xw_L.isRef {n d : String} {A : Nat → Prop} {U : State} (h : xw_L n d A U U.heap) (args : Array Value) : (Cond.isRef (.static Bundle.tN n d)).before args U = true := by
  obtain ⟨c, k, i, f, a, cell, v, h1, h2, h3, h4, h5, h6, h7, h8, h9, h10, h11, h12⟩ := h
  have he : (Term.static Bundle.tN n d).eval args U none [] U = some v := by
    rw [← h10]
    simp [Term.eval, State.fieldNamed?, h2, h3, h4, h5, h6]
  simp only [Cond.before, Cond.holds, Cond.value]
  rw [he]
  cases v <;> simp_all [Value.isRef]
/-- the three exceptions: 0 NoSuchElementException, 1 IllegalArgumentException, 2 IllegalStateException -/
def xw_E (k : Nat) : String := match k with
  | 0 => "java/util/NoSuchElementException"
  | 1 => "java/lang/IllegalArgumentException"
  | _ => "java/lang/IllegalStateException"
def xw_I (k : Nat) : Nat := match k with
  | 0 => 210
  | 1 => 213
  | _ => 61
abbrev xw_up : List String := ["java/lang/RuntimeException", "java/lang/Exception"]
def xw_nr (w : Cond) : Bool := match w with
  | .isRef _ => false
  | .laysStatic _ _ _ => false
  | .castable _ _ => false
  | .declares _ => false
  | _ => true
theorem xw_atoms0 : ∀ w ∈ (Bundle.ownAtoms0 "BallotDesk" 210 "java/util/NoSuchElementException" xw_up).filter xw_nr, w ∈ lw_tbl ∧ goodWord w = true := by decide +kernel
theorem xw_atoms1 : ∀ w ∈ (Bundle.ownAtoms0 "BallotDesk" 213 "java/lang/IllegalArgumentException" xw_up).filter xw_nr, w ∈ lw_tbl ∧ goodWord w = true := by decide +kernel
theorem xw_atoms2 : ∀ w ∈ (Bundle.ownAtoms0 "BallotDesk" 61 "java/lang/IllegalStateException" xw_up).filter xw_nr, w ∈ lw_tbl ∧ goodWord w = true := by decide +kernel
theorem xw_rest0 : ∀ w ∈ (Bundle.ownAtoms0 "BallotDesk" 210 "java/util/NoSuchElementException" xw_up).filter (fun w => !xw_nr w), w ∈ ([Cond.castable "java/util/NoSuchElementException" "java/util/NoSuchElementException", .laysStatic Bundle.tN "UNASSIGNED_STACK" Bundle.steD, .laysStatic Bundle.tN "SUPPRESSED_SENTINEL" Bundle.listD, .isRef (.static Bundle.tN "UNASSIGNED_STACK" Bundle.steD), .isRef (.static Bundle.tN "SUPPRESSED_SENTINEL" Bundle.listD), .declares ⟨"java/lang/RuntimeException", "<init>", "()V"⟩, .declares ⟨"java/lang/Exception", "<init>", "()V"⟩, .declares ⟨"java/lang/Throwable", "<init>", "()V"⟩] : List Cond) := by decide +kernel
theorem xw_rest1 : ∀ w ∈ (Bundle.ownAtoms0 "BallotDesk" 213 "java/lang/IllegalArgumentException" xw_up).filter (fun w => !xw_nr w), w ∈ ([Cond.castable "java/lang/IllegalArgumentException" "java/lang/IllegalArgumentException", .laysStatic Bundle.tN "UNASSIGNED_STACK" Bundle.steD, .laysStatic Bundle.tN "SUPPRESSED_SENTINEL" Bundle.listD, .isRef (.static Bundle.tN "UNASSIGNED_STACK" Bundle.steD), .isRef (.static Bundle.tN "SUPPRESSED_SENTINEL" Bundle.listD), .declares ⟨"java/lang/RuntimeException", "<init>", "()V"⟩, .declares ⟨"java/lang/Exception", "<init>", "()V"⟩, .declares ⟨"java/lang/Throwable", "<init>", "()V"⟩] : List Cond) := by decide +kernel
theorem xw_rest2 : ∀ w ∈ (Bundle.ownAtoms0 "BallotDesk" 61 "java/lang/IllegalStateException" xw_up).filter (fun w => !xw_nr w), w ∈ ([Cond.castable "java/lang/IllegalStateException" "java/lang/IllegalStateException", .laysStatic Bundle.tN "UNASSIGNED_STACK" Bundle.steD, .laysStatic Bundle.tN "SUPPRESSED_SENTINEL" Bundle.listD, .isRef (.static Bundle.tN "UNASSIGNED_STACK" Bundle.steD), .isRef (.static Bundle.tN "SUPPRESSED_SENTINEL" Bundle.listD), .declares ⟨"java/lang/RuntimeException", "<init>", "()V"⟩, .declares ⟨"java/lang/Exception", "<init>", "()V"⟩, .declares ⟨"java/lang/Throwable", "<init>", "()V"⟩] : List Cond) := by decide +kernel
/-- the statics and casts that a throw needs, at state U with heap H -/
def xw_Z (A : Nat → Prop) (U : State) (H : Heap) : Prop := xw_L "UNASSIGNED_STACK" Bundle.steD A U H ∧ xw_L "SUPPRESSED_SENTINEL" Bundle.listD A U H ∧ va_Nw (.castable "java/util/NoSuchElementException" "java/util/NoSuchElementException") U ∧ va_Nw (.castable "java/lang/IllegalArgumentException" "java/lang/IllegalArgumentException") U ∧ va_Nw (.castable "java/lang/IllegalStateException" "java/lang/IllegalStateException") U ∧ va_Nw (.declares ⟨"java/lang/RuntimeException", "<init>", "()V"⟩) U ∧ va_Nw (.declares ⟨"java/lang/Exception", "<init>", "()V"⟩) U ∧ va_Nw (.declares ⟨"java/lang/Throwable", "<init>", "()V"⟩) U
theorem xw_Z.warm {A : Nat → Prop} {s U : State} {H : Heap} (hW : s.WarmedH U.vm) (h : xw_Z A s H) : xw_Z A U H := ⟨h.1.moved hW.alike, h.2.1.moved hW.alike, va_Nw.warmC hW h.2.2.1, va_Nw.warmC hW h.2.2.2.1, va_Nw.warmC hW h.2.2.2.2.1, va_Nw.warmD hW h.2.2.2.2.2.1, va_Nw.warmD hW h.2.2.2.2.2.2.1, va_Nw.warmD hW h.2.2.2.2.2.2.2⟩
theorem xw_Z.kept {A : Nat → Prop} {U : State} {H H1 : Heap} (h : xw_Z A U H) (hq : ∀ a : Nat, a < H.size → ¬ A a → H1[a]? = H[a]?) : xw_Z A U H1 := ⟨h.1.kept hq, h.2.1.kept hq, h.2.2⟩
theorem xw_Z.narrow {A B : Nat → Prop} {U : State} {H : Heap} (h : xw_Z A U H) (hAB : ∀ q, B q → A q) : xw_Z B U H := ⟨h.1.narrow hAB, h.2.1.narrow hAB, h.2.2⟩
theorem xw_words {A : Nat → Prop} {U : State} {args : Array Value} (k : Nat) (hts : ∀ w ∈ lw_g, w.before args U = true) (h : xw_Z A U U.heap) : ∀ w ∈ Bundle.ownAtoms0 "BallotDesk" (xw_I k) (xw_E k) xw_up, w.before args U = true := by
  have key : ∀ (cs : Cond) (L : List Cond), (∀ w ∈ L.filter xw_nr, w ∈ lw_tbl ∧ goodWord w = true) → (∀ w ∈ L.filter (fun w => !xw_nr w), w ∈ ([cs, .laysStatic Bundle.tN "UNASSIGNED_STACK" Bundle.steD, .laysStatic Bundle.tN "SUPPRESSED_SENTINEL" Bundle.listD, .isRef (.static Bundle.tN "UNASSIGNED_STACK" Bundle.steD), .isRef (.static Bundle.tN "SUPPRESSED_SENTINEL" Bundle.listD), .declares ⟨"java/lang/RuntimeException", "<init>", "()V"⟩, .declares ⟨"java/lang/Exception", "<init>", "()V"⟩, .declares ⟨"java/lang/Throwable", "<init>", "()V"⟩] : List Cond)) → cs.before args U = true → ∀ w ∈ L, w.before args U = true := by
    intro cs L h1 h2 hc w hw
    by_cases hn : xw_nr w = true
    · obtain ⟨q1, q2⟩ := h1 w (List.mem_filter.mpr ⟨hw, hn⟩)
      exact hts w (tg_of q1 q2)
    · have := h2 w (List.mem_filter.mpr ⟨hw, by simpa using hn⟩)
      rcases List.mem_cons.mp this with rfl | q
      · exact hc
      · rcases List.mem_cons.mp q with rfl | q
        · exact h.1.lays args
        · rcases List.mem_cons.mp q with rfl | q
          · exact h.2.1.lays args
          · rcases List.mem_cons.mp q with rfl | q
            · exact h.1.isRef args
            · rcases List.mem_cons.mp q with rfl | q
              · exact h.2.1.isRef args
              · rcases List.mem_cons.mp q with rfl | q
                · exact va_Nw.use rfl h.2.2.2.2.2.1
                · rcases List.mem_cons.mp q with rfl | q
                  · exact va_Nw.use rfl h.2.2.2.2.2.2.1
                  · rcases List.mem_cons.mp q with rfl | q
                    · exact va_Nw.use rfl h.2.2.2.2.2.2.2
                    · cases q
  match k with
  | 0 => exact key _ _ xw_atoms0 xw_rest0 (va_Nw.use rfl h.2.2.1)
  | 1 => exact key _ _ xw_atoms1 xw_rest1 (va_Nw.use rfl h.2.2.2.1)
  | _ + 2 => exact key _ _ xw_atoms2 xw_rest2 (va_Nw.use rfl h.2.2.2.2.1)
