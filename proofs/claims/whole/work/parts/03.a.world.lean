/-! One world: 90 objects, numbered; ints in M.1 o k, longs in M.2 o k; the references among them never change (ow_fs says where they lead). -/
abbrev om_M : Type := (Nat → Nat → Int32) × (Nat → Nat → Int64)
def om_up (M : om_M) (o k : Nat) (v : Int32) : om_M := (fun o' => if o' = o then upd (M.1 o) k v else M.1 o', M.2)
def om_ul (M : om_M) (o k : Nat) (v : Int64) : om_M := (M.1, fun o' => if o' = o then vp_updL (M.2 o) k v else M.2 o')
theorem om_up_s (M : om_M) (o k : Nat) (v : Int32) : (om_up M o k v).1 o = upd (M.1 o) k v := if_pos rfl
theorem om_up_n (M : om_M) {o k o' : Nat} (v : Int32) (h : o' ≠ o) : (om_up M o k v).1 o' = M.1 o' := if_neg h
theorem om_ul_s (M : om_M) (o k : Nat) (v : Int64) : (om_ul M o k v).2 o = vp_updL (M.2 o) k v := if_pos rfl
theorem om_ul_n (M : om_M) {o k o' : Nat} (v : Int64) (h : o' ≠ o) : (om_ul M o k v).2 o' = M.2 o' := if_neg h
/-- kinds: 0 int[n], 1 boolean[n], 2 int[n][7], 5 int[n][128], 4 long[n], 3 an object of class n -/
def ow_kl : List (Nat × Nat) := [(3, 0),
  (3, 1), (0, 21), (0, 21), (0, 7), (2, 7), (0, 7), (0, 7), (0, 7), (0, 7), (0, 7), (0, 7), (0, 7), (2, 7), (0, 7), (0, 7), (0, 7), (0, 7), (0, 7), (0, 7), (0, 7),
  (3, 7), (3, 2), (3, 3), (1, 128), (0, 7), (3, 4), (2, 7), (0, 7), (0, 7), (0, 7), (0, 7), (0, 7), (0, 7), (0, 7), (3, 5), (0, 21), (0, 7),
  (3, 6), (0, 128), (5, 7), (0, 128), (0, 128), (0, 128), (0, 128), (0, 128), (0, 128), (0, 128), (0, 7),
  (3, 1), (0, 21), (0, 21), (0, 7), (2, 7), (0, 7), (0, 7), (0, 7), (0, 7), (0, 7), (0, 7), (0, 7), (2, 7), (0, 7), (0, 7), (0, 7), (0, 7), (0, 7), (0, 7), (0, 7),
  (3, 8), (0, 7),
  (3, 9), (0, 140), (0, 20), (0, 7), (0, 7), (0, 7), (0, 154), (0, 22), (0, 7), (0, 7), (0, 7), (0, 49), (0, 49), (1, 49), (1, 128), (4, 128), (0, 7), (0, 7),
  (4, 1)]
def ow_kd (G : List (Nat × Nat)) (o : Nat) : Nat × Nat := G.getD o (9, 0)
theorem ow_lt {G : List (Nat × Nat)} {o t n : Nat} (h : ow_kd G o = (t, n)) (ht : t ≠ 9) : o < G.length := by
  by_cases ho : o < G.length
  · exact ho
  · exfalso
    have : ow_kd G o = (9, 0) := by
      unfold ow_kd
      simp [List.getD, List.getElem?_eq_none (show G.length ≤ o by omega)]
    rw [this] at h
    exact ht (congrArg Prod.fst h).symm
def ow_fs (ad : Nat → Nat) (r : Nat → Int32) (ci o : Nat) : List Value := match ci with
  | 0 => [.ref (ad (o + 1)), .ref (ad (o + 22)), .ref (ad (o + 21)), .int (r 3), .int (r 4)]
  | 1 => [.ref (ad (o + 1)), .ref (ad (o + 2)), .ref (ad (o + 3)), .ref (ad (o + 4)), .ref (ad (o + 12)), .int (r 5), .int (r 6), .int (r 7), .int (r 8)]
  | 2 => [.ref (ad (o + 1)), .ref (ad (o + 4)), .ref (ad (o + 13)), .ref (ad (o + 16)), .ref (ad (o + 26))]
  | 3 => [.ref (ad (o + 1)), .ref (ad (o + 2))]
  | 4 => [.ref (ad (o + 1))]
  | 5 => [.ref (ad (o + 1)), .ref (ad (o + 2)), .int (r 2)]
  | 6 => [.ref (ad (o + 1)), .ref (ad (o + 2))]
  | 7 => [.ref (ad (o + 1)), .ref (ad (o + 28)), .ref (ad (o + 48)), .int (r 3)]
  | 8 => [.ref (ad (o + 1)), .int (r 1)]
  | _ => [.int (r 0), .int (r 1), .int (r 2), .ref (ad (o + 1)), .ref (ad (o + 2)), .ref (ad (o + 3)), .ref (ad (o + 4)), .ref (ad (o + 5)), .int (r 8), .int (r 9), .ref (ad (o + 6)), .ref (ad (o + 7)), .ref (ad (o + 8)), .ref (ad (o + 9)), .ref (ad (o + 10)), .ref (ad (o + 11)), .ref (ad (o + 12)), .ref (ad (o + 13)), .ref (ad (o + 14)), .ref (ad (o + 15)), .ref (ad (o + 16)), .ref (ad (o + 17)), .int (r 22), .int (r 23)]
def ow_ek (cA : Nat → ClassId) (ad : Nat → Nat) (r : Nat → Int32) (z : Nat → Int64) (o t n : Nat) : va_E := match t with
  | 0 => .inl (cA 0, n, .inl r)
  | 1 => .inl (cA 1, n, .inl r)
  | 2 => .inl (cA 2, n, .inr (.inr (.inr (.inr (fun j => some (ad (o + 1 + j)))))))
  | 5 => .inl (cA 2, n, .inr (.inr (.inr (.inr (fun j => some (ad (o + 1 + j)))))))
  | 4 => .inl (cA 3, n, .inr (.inl z))
  | _ => .inr (n, ow_fs ad r n o)
def ow_ent (G : List (Nat × Nat)) (cA : Nat → ClassId) (ad : Nat → Nat) (r : Nat → Int32) (z : Nat → Int64) (o : Nat) : va_E := ow_ek cA ad r z o (ow_kd G o).1 (ow_kd G o).2
def ow_wl (G : List (Nat × Nat)) (cA : Nat → ClassId) (ad : Nat → Nat) (M : om_M) : va_W := (List.range G.length).map (fun o => (ad o, ow_ent G cA ad (M.1 o) (M.2 o) o))
theorem ow_ent_k {G : List (Nat × Nat)} {cA : Nat → ClassId} {ad : Nat → Nat} {r : Nat → Int32} {z : Nat → Int64} {o t n : Nat} (h : ow_kd G o = (t, n)) : ow_ent G cA ad r z o = ow_ek cA ad r z o t n := by
  unfold ow_ent
  rw [h]
theorem ow_at {G : List (Nat × Nat)} {cA : Nat → ClassId} {ad : Nat → Nat} {M : om_M} {o t n : Nat} (h : ow_kd G o = (t, n)) (ht : t ≠ 9) : (ow_wl G cA ad M)[o]? = some (ad o, ow_ek cA ad (M.1 o) (M.2 o) o t n) := by
  have ho := ow_lt h ht
  unfold ow_wl
  rw [List.getElem?_map, List.getElem?_range ho, ← ow_ent_k h]
  rfl
theorem ow_set {G : List (Nat × Nat)} {cA : Nat → ClassId} {ad : Nat → Nat} {M M' : om_M} {o t n : Nat} (h : ow_kd G o = (t, n)) (h1 : ∀ o', o' ≠ o → M'.1 o' = M.1 o') (h2 : ∀ o', o' ≠ o → M'.2 o' = M.2 o') : (ow_wl G cA ad M).set o (ad o, ow_ek cA ad (M'.1 o) (M'.2 o) o t n) = ow_wl G cA ad M' := by
  apply List.ext_getElem?
  intro i
  by_cases hi : i = o
  · subst hi
    by_cases hl : i < G.length
    · rw [List.getElem?_set_self (by simp [ow_wl]; exact hl)]
      simp [ow_wl, hl, ow_ent_k h]
    · rw [List.getElem?_eq_none (by simp [ow_wl]; omega), List.getElem?_eq_none (by simp [ow_wl]; omega)]
  · rw [List.getElem?_set_ne (Ne.symm hi)]
    unfold ow_wl
    rw [List.getElem?_map, List.getElem?_map]
    cases hr : (List.range G.length)[i]? with
    | none => rfl
    | some j =>
      have : j = i := by
        have := (List.getElem?_eq_some_iff.mp hr)
        obtain ⟨hlt, he⟩ := this
        simpa using he.symm
      subst this
      simp [h1 j hi, h2 j hi]
abbrev ow_ty (cA : Nat → ClassId) : List (ClassId × FieldType) := [(cA 0, .int), (cA 1, .boolean), (cA 2, .array .int), (cA 3, .long)]
def ow_A (G : List (Nat × Nat)) (ad : Nat → Nat) : Nat → Prop := fun q => ∃ o, o < G.length ∧ q = ad o
/-- the world at heap H: its cells, apart and in A, the tables, and that nothing outside A has changed since H0 -/
def ow_B (G : List (Nat × Nat)) (D : va_G) (cA : Nat → ClassId) (ad : Nat → Nat) (A : Nat → Prop) (M : om_M) (s : State) (H0 H : Heap) (locs : List Loc) : Prop :=
  va_P D ow_cl (ow_wl G cA ad M) H ∧ va_D A (ow_wl G cA ad M) ∧ va_K D ow_cl (ow_ty cA) s ∧ va_S A H0 H locs
section OWR
variable {p : Program} {l : Launch} {e : Env} {R : Room} {s : State} {m : MethodId} {args : Array Value} {below : List Frame} {meth : Method} {c : Code} {H : Heap} {locs : List Loc} {cells slots : Nat} {Q : State → Prop}
variable {cc : ByteArray} {pc : Nat} {ls : Array Slot} {rest : List Value} {G : List (Nat × Nat)} {D : va_G} {cA : Nat → ClassId} {ad : Nat → Nat} {A : Nat → Prop} {M : om_M} {H0 : Heap}
theorem ow_iald (hexec : p.tables.exec = Jvm.exec) (hb : c.code = cc) (hB : ow_B G D cA ad A M s H0 H locs) {o n : Nat} (hk : ow_kd G o = (0, n)) {i : Int32} (hin : vp_in i n) (hdg : decode cc pc = .ok (.iaload, 1))
    (kk : W p l e R s m args below meth c H locs cells slots Q (F0 m (pc + 1) ls (.int (M.1 o i.toNatClampNeg) :: rest))) : W p l e R s m args below meth c H locs cells slots Q (F0 m pc ls (.int i :: .ref (ad o) :: rest)) :=
  va_iald hexec hb hB.2.2.1 hB.1 o 0 (ow_at hk (by decide)) rfl hin hdg kk
theorem ow_zald (hexec : p.tables.exec = Jvm.exec) (hb : c.code = cc) (hB : ow_B G D cA ad A M s H0 H locs) {o n : Nat} (hk : ow_kd G o = (1, n)) {i : Int32} (hin : vp_in i n) (hdg : decode cc pc = .ok (.baload, 1))
    (kk : W p l e R s m args below meth c H locs cells slots Q (F0 m (pc + 1) ls (.int (M.1 o i.toNatClampNeg) :: rest))) : W p l e R s m args below meth c H locs cells slots Q (F0 m pc ls (.int i :: .ref (ad o) :: rest)) :=
  va_zald hexec hb hB.2.2.1 hB.1 o 1 (ow_at hk (by decide)) rfl hin hdg kk
theorem ow_lald (hexec : p.tables.exec = Jvm.exec) (hb : c.code = cc) (hB : ow_B G D cA ad A M s H0 H locs) {o n : Nat} (hk : ow_kd G o = (4, n)) {i : Int32} (hin : vp_in i n) (hdg : decode cc pc = .ok (.laload, 1))
    (kk : W p l e R s m args below meth c H locs cells slots Q (F0 m (pc + 1) ls (.long (M.2 o i.toNatClampNeg) :: rest))) : W p l e R s m args below meth c H locs cells slots Q (F0 m pc ls (.int i :: .ref (ad o) :: rest)) :=
  va_lald hexec hb hB.2.2.1 hB.1 o 3 (ow_at hk (by decide)) rfl hin hdg kk
theorem ow_alen {v : Int32} (hexec : p.tables.exec = Jvm.exec) (hb : c.code = cc) (hB : ow_B G D cA ad A M s H0 H locs) {o n : Nat} (hk : ow_kd G o = (0, n)) (hv : Int32.ofNat n = v) (hdg : decode cc pc = .ok (.arraylength, 1))
    (kk : W p l e R s m args below meth c H locs cells slots Q (F0 m (pc + 1) ls (.int v :: rest))) : W p l e R s m args below meth c H locs cells slots Q (F0 m pc ls (.ref (ad o) :: rest)) :=
  va_alen hexec hb hB.2.2.1 hB.1 o 0 (ow_at hk (by decide)) rfl hv hdg kk
theorem ow_aald0 (hexec : p.tables.exec = Jvm.exec) (hb : c.code = cc) (hB : ow_B G D cA ad A M s H0 H locs) {o n : Nat} {f : Nat → Option Nat} (ha : (ow_wl G cA ad M)[o]? = some (ad o, .inl (cA 2, n, .inr (.inr (.inr (.inr f)))))) {i : Int32} (hin : vp_in i n) (hdg : decode cc pc = .ok (.aaload, 1))
    (kk : W p l e R s m args below meth c H locs cells slots Q (F0 m (pc + 1) ls (va_rf (f i.toNatClampNeg) :: rest))) : W p l e R s m args below meth c H locs cells slots Q (F0 m pc ls (.int i :: .ref (ad o) :: rest)) := by
  have hlt : i.toNatClampNeg < n := Nat.not_le.mp fun q => hin (Or.inr q)
  exact W.aald (v := va_rf (f i.toNatClampNeg)) (ty := .array .int) hexec hb (hB.1 o _ ha) ((hB.2.2.1.2 2 _ rfl).1 n (fun j => va_rf (f j))) rfl (fun q => by cases q) (by show ¬ (i < 0 ∨ (arrV _ _ _).slots.size ≤ _); rw [arrV_size]; exact hin) (by show (arrV _ _ _).slots[_]? = _; rw [arrV_read _ _ hlt]) rfl rfl hdg kk
theorem ow_aald (hexec : p.tables.exec = Jvm.exec) (hb : c.code = cc) (hB : ow_B G D cA ad A M s H0 H locs) {o t n : Nat} (hk : ow_kd G o = (t, n)) (ht : t = 2 ∨ t = 5) {i : Int32} (hin : vp_in i n) (hdg : decode cc pc = .ok (.aaload, 1))
    (kk : W p l e R s m args below meth c H locs cells slots Q (F0 m (pc + 1) ls (.ref (ad (o + 1 + i.toNatClampNeg)) :: rest))) : W p l e R s m args below meth c H locs cells slots Q (F0 m pc ls (.int i :: .ref (ad o) :: rest)) := by
  rcases ht with rfl | rfl
  · exact ow_aald0 hexec hb hB (ow_at hk (by decide)) hin hdg kk
  · exact ow_aald0 hexec hb hB (ow_at hk (by decide)) hin hdg kk
theorem ow_iast (hexec : p.tables.exec = Jvm.exec) (hb : c.code = cc) (hB : ow_B G D cA ad A M s H0 H locs) {o n : Nat} (hk : ow_kd G o = (0, n)) {i x : Int32} (hin : vp_in i n) (hdg : decode cc pc = .ok (.iastore, 1))
    (kk : ∀ (H1 : Heap) (locs1 : List Loc), ow_B G D cA ad A (om_up M o i.toNatClampNeg x) s H0 H1 locs1 → W p l e R s m args below meth c H1 locs1 cells slots Q (F0 m (pc + 1) ls rest)) : W p l e R s m args below meth c H locs cells slots Q (F0 m pc ls (.int x :: .int i :: .ref (ad o) :: rest)) := by
  obtain ⟨hP, hD, hK, hS⟩ := hB
  refine va_iast hexec hb hK hP hD hS o 0 (ow_at hk (by decide)) rfl hin hdg (fun H1 locs1 hP hD hS => ?_)
  have e : (ow_wl G cA ad M).set o (ad o, .inl (cA 0, n, .inl (upd (M.1 o) i.toNatClampNeg x))) = ow_wl G cA ad (om_up M o i.toNatClampNeg x) := by
    rw [← ow_set (M := M) (M' := om_up M o i.toNatClampNeg x) hk (fun o' h => om_up_n M x h) (fun _ _ => rfl), om_up_s]
    rfl
  rw [e] at hP hD
  exact kk H1 locs1 ⟨hP, hD, hK, hS⟩
theorem ow_zast (hexec : p.tables.exec = Jvm.exec) (hb : c.code = cc) (hB : ow_B G D cA ad A M s H0 H locs) {o n : Nat} (hk : ow_kd G o = (1, n)) {i x : Int32} (hx : vp_nar .boolean x = x) (hin : vp_in i n) (hdg : decode cc pc = .ok (.bastore, 1))
    (kk : ∀ (H1 : Heap) (locs1 : List Loc), ow_B G D cA ad A (om_up M o i.toNatClampNeg x) s H0 H1 locs1 → W p l e R s m args below meth c H1 locs1 cells slots Q (F0 m (pc + 1) ls rest)) : W p l e R s m args below meth c H locs cells slots Q (F0 m pc ls (.int x :: .int i :: .ref (ad o) :: rest)) := by
  obtain ⟨hP, hD, hK, hS⟩ := hB
  refine va_zast hexec hb hK hP hD hS o 1 (ow_at hk (by decide)) rfl hin hdg (fun H1 locs1 hP hD hS => ?_)
  have e : (ow_wl G cA ad M).set o (ad o, .inl (cA 1, n, .inl (upd (M.1 o) i.toNatClampNeg (vp_nar .boolean x)))) = ow_wl G cA ad (om_up M o i.toNatClampNeg x) := by
    rw [hx, ← ow_set (M := M) (M' := om_up M o i.toNatClampNeg x) hk (fun o' h => om_up_n M x h) (fun _ _ => rfl), om_up_s]
    rfl
  rw [e] at hP hD
  exact kk H1 locs1 ⟨hP, hD, hK, hS⟩
theorem ow_last (hexec : p.tables.exec = Jvm.exec) (hb : c.code = cc) (hB : ow_B G D cA ad A M s H0 H locs) {o n : Nat} (hk : ow_kd G o = (4, n)) {i : Int32} {x : Int64} (hin : vp_in i n) (hdg : decode cc pc = .ok (.lastore, 1))
    (kk : ∀ (H1 : Heap) (locs1 : List Loc), ow_B G D cA ad A (om_ul M o i.toNatClampNeg x) s H0 H1 locs1 → W p l e R s m args below meth c H1 locs1 cells slots Q (F0 m (pc + 1) ls rest)) : W p l e R s m args below meth c H locs cells slots Q (F0 m pc ls (.long x :: .int i :: .ref (ad o) :: rest)) := by
  obtain ⟨hP, hD, hK, hS⟩ := hB
  refine va_last hexec hb hK hP hD hS o 3 (ow_at hk (by decide)) rfl hin hdg (fun H1 locs1 hP hD hS => ?_)
  have e : (ow_wl G cA ad M).set o (ad o, .inl (cA 3, n, .inr (.inl (vp_updL (M.2 o) i.toNatClampNeg x)))) = ow_wl G cA ad (om_ul M o i.toNatClampNeg x) := by
    rw [← ow_set (M := M) (M' := om_ul M o i.toNatClampNeg x) hk (fun _ _ => rfl) (fun o' h => om_ul_n M x h), om_ul_s]
    rfl
  rw [e] at hP hD
  exact kk H1 locs1 ⟨hP, hD, hK, hS⟩
/-- getfield: any field -/
theorem ow_get (hexec : p.tables.exec = Jvm.exec) (hb : c.code = cc) {own C : String} {T : u_T} {N ci index : Nat} (hts : ∀ w ∈ lw_g, w.before args s = true) (hin : ∀ w ∈ u_ws C T N, w ∈ lw_g) (hown : s.vm.findClass own = some m.cls) (hB : ow_B G D cA ad A M s H0 H locs) {o : Nat} (hk : ow_kd G o = (3, ci)) (hc : ow_cl[ci]? = some (C, T, N)) (k : Nat) (hkN : k < N) {v : Value}
    (hlink : Cond.fieldLink own index (T k).1 (T k).2.1 (T k).2.2.1 ∈ lw_g) (hv : (ow_fs ad (M.1 o) ci o)[k]? = some v) (hdg : decode cc pc = .ok (.getfield index, 3))
    (kk : W p l e R s m args below meth c H locs cells slots Q (F0 m (pc + 3) ls (v :: rest))) : W p l e R s m args below meth c H locs cells slots Q (F0 m pc ls (.ref (ad o) :: rest)) :=
  va_get (D := D) hexec hb hts hin hown hB.2.2.1 hB.1 o (ow_at hk (by decide)) hc k hkN (hts _ hlink) (fun _ h => h) hv hdg kk
theorem ow_put (hexec : p.tables.exec = Jvm.exec) (hb : c.code = cc) {own C : String} {T : u_T} {N ci index : Nat} (hts : ∀ w ∈ lw_g, w.before args s = true) (hin : ∀ w ∈ u_ws C T N, w ∈ lw_g) (ty0 : Nat → FieldType) (hty : ∀ k, k < N → parseFieldDescriptor (T k).2.2.1 = some (ty0 k)) (hnm : ∀ a, a < N → ∀ b, b < N → a ≠ b → (T a).2.1 ≠ (T b).2.1) (hown : s.vm.findClass own = some m.cls) (hB : ow_B G D cA ad A M s H0 H locs) {o : Nat} (hk : ow_kd G o = (3, ci)) (hc : ow_cl[ci]? = some (C, T, N)) (k : Nat) (hkN : k < N) {x : Int32}
    (hlink : Cond.fieldLink own index (T k).1 (T k).2.1 (T k).2.2.1 ∈ lw_g) (hfin : (T k).2.2.2 = false) (hd : parseFieldDescriptor (T k).2.2.1 = some .int) (hl : k < (ow_fs ad (M.1 o) ci o).length) (hset : (ow_fs ad (M.1 o) ci o).set k (.int x) = ow_fs ad (upd (M.1 o) k x) ci o) (hdg : decode cc pc = .ok (.putfield index, 3))
    (kk : ∀ (H1 : Heap) (locs1 : List Loc), ow_B G D cA ad A (om_up M o k x) s H0 H1 locs1 → W p l e R s m args below meth c H1 locs1 cells slots Q (F0 m (pc + 3) ls rest)) : W p l e R s m args below meth c H locs cells slots Q (F0 m pc ls (.int x :: .ref (ad o) :: rest)) := by
  obtain ⟨hP, hD, hK, hS⟩ := hB
  refine va_put (D := D) hexec hb hts hin ty0 hty hnm hown hK hP hD hS o (ow_at hk (by decide)) hc k hkN (hts _ hlink) (fun _ h => h) hfin hd rfl rfl hl hdg (fun H1 locs1 hP hD hS => ?_)
  have e : (ow_wl G cA ad M).set o (ad o, .inr (ci, (ow_fs ad (M.1 o) ci o).set k (.int x))) = ow_wl G cA ad (om_up M o k x) := by
    rw [hset, ← ow_set (M := M) (M' := om_up M o k x) hk (fun o' h => om_up_n M x h) (fun _ _ => rfl), om_up_s]
    rfl
  rw [e] at hP hD
  exact kk H1 locs1 ⟨hP, hD, hK, hS⟩
end OWR
