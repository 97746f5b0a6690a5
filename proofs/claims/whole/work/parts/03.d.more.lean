/-! further rows: a comparison of longs with its branch, System.arraycopy -/
theorem ow_cmp_eq (x y : Int64) : lg_cmp x y = 0 ↔ x = y := by
  unfold lg_cmp
  by_cases h : y < x
  · simp only [h, if_true]
    constructor
    · intro h; exact absurd h (by decide)
    · intro e; subst e; exact absurd h Int64.lt_irrefl
  · by_cases h2 : x = y <;> simp [h, h2]
theorem ow_cmp_gt (x y : Int64) : 0 < lg_cmp x y ↔ y < x := by
  unfold lg_cmp
  by_cases h : y < x
  · simp [h]
  · by_cases h2 : x = y <;> simp [h, h2]
theorem ow_cmp_lt (x y : Int64) : lg_cmp x y < 0 ↔ x < y := by
  unfold lg_cmp
  by_cases h : y < x
  · have h3 : ¬ x < y := fun q => absurd (Int64.lt_trans h q) Int64.lt_irrefl
    simp [h, h3]
  · by_cases h2 : x = y
    · subst h2
      simp
    · have h3 : x < y := by
        rcases Int64.lt_or_eq_of_le (Int64.not_lt.mp h) with q | q
        · exact q
        · exact absurd q h2
      simp [h, h2, h3]
theorem ow_i32_le (x : Int32) : x ≤ 0 ↔ ¬ 0 < x := Int32.not_lt.symm
theorem ow_i32_ge (x : Int32) : 0 ≤ x ↔ ¬ x < 0 := Int32.not_lt.symm
def ow_cpok (sp dp n : Int32) (n0 n1 : Nat) : Prop := ¬ sp < 0 ∧ ¬ dp < 0 ∧ ¬ n < 0 ∧ sp.toNatClampNeg + n.toNatClampNeg ≤ n0 ∧ dp.toNatClampNeg + n.toNatClampNeg ≤ n1
def ow_cpy (M : om_M) (src : Nat) (sp : Int32) (dst : Nat) (dp n : Int32) : om_M := (fun o' => if o' = dst then va_cpy (M.1 src) (M.1 dst) sp.toNatClampNeg dp.toNatClampNeg n.toNatClampNeg else M.1 o', M.2)
section OWM
variable {p : Program} {l : Launch} {e : Env} {R : Room} {s : State} {m : MethodId} {args : Array Value} {below : List Frame} {meth : Method} {c : Code} {H : Heap} {locs : List Loc} {cells slots : Nat} {Q : State → Prop}
variable {cc : ByteArray} {pc : Nat} {ls : Array Slot} {rest : List Value} {G : List (Nat × Nat)} {D : va_G} {cA : Nat → ClassId} {ad : Nat → Nat} {A : Nat → Prop} {M : om_M} {H0 : Heap}
theorem ow_lcmp_eq (hexec : p.tables.exec = Jvm.exec) (hb : c.code = cc) {x y : Int64} {off : Int} {tgt : Nat} (hd : decode cc pc = .ok (.lcmp, 1)) (hdg : decode cc (pc + 1) = .ok (.ifCond .eq off, 3)) (ht : ((pc + 1 : Nat) : Int) + off = (tgt : Int)) (kt : x = y → W p l e R s m args below meth c H locs cells slots Q (F0 m tgt ls rest)) (kf : ¬ x = y → W p l e R s m args below meth c H locs cells slots Q (F0 m (pc + 1 + 3) ls rest)) : W p l e R s m args below meth c H locs cells slots Q (F0 m pc ls (.long y :: .long x :: rest)) :=
  W.lcmp hexec hb hd (lv_if_eq hexec hb hdg ht (fun h => kt ((ow_cmp_eq x y).mp h)) (fun h => kf (fun q => h ((ow_cmp_eq x y).mpr q))))
theorem ow_lcmp_ne (hexec : p.tables.exec = Jvm.exec) (hb : c.code = cc) {x y : Int64} {off : Int} {tgt : Nat} (hd : decode cc pc = .ok (.lcmp, 1)) (hdg : decode cc (pc + 1) = .ok (.ifCond .ne off, 3)) (ht : ((pc + 1 : Nat) : Int) + off = (tgt : Int)) (kt : ¬ x = y → W p l e R s m args below meth c H locs cells slots Q (F0 m tgt ls rest)) (kf : x = y → W p l e R s m args below meth c H locs cells slots Q (F0 m (pc + 1 + 3) ls rest)) : W p l e R s m args below meth c H locs cells slots Q (F0 m pc ls (.long y :: .long x :: rest)) :=
  W.lcmp hexec hb hd (lv_if_ne hexec hb hdg ht (fun h => kt (fun q => h ((ow_cmp_eq x y).mpr q))) (fun h => kf ((ow_cmp_eq x y).mp h)))
theorem ow_lcmp_lt (hexec : p.tables.exec = Jvm.exec) (hb : c.code = cc) {x y : Int64} {off : Int} {tgt : Nat} (hd : decode cc pc = .ok (.lcmp, 1)) (hdg : decode cc (pc + 1) = .ok (.ifCond .lt off, 3)) (ht : ((pc + 1 : Nat) : Int) + off = (tgt : Int)) (kt : x < y → W p l e R s m args below meth c H locs cells slots Q (F0 m tgt ls rest)) (kf : ¬ x < y → W p l e R s m args below meth c H locs cells slots Q (F0 m (pc + 1 + 3) ls rest)) : W p l e R s m args below meth c H locs cells slots Q (F0 m pc ls (.long y :: .long x :: rest)) :=
  W.lcmp hexec hb hd (lv_if_lt hexec hb hdg ht (fun h => kt ((ow_cmp_lt x y).mp h)) (fun h => kf (fun q => h ((ow_cmp_lt x y).mpr q))))
theorem ow_lcmp_ge (hexec : p.tables.exec = Jvm.exec) (hb : c.code = cc) {x y : Int64} {off : Int} {tgt : Nat} (hd : decode cc pc = .ok (.lcmp, 1)) (hdg : decode cc (pc + 1) = .ok (.ifCond .ge off, 3)) (ht : ((pc + 1 : Nat) : Int) + off = (tgt : Int)) (kt : ¬ x < y → W p l e R s m args below meth c H locs cells slots Q (F0 m tgt ls rest)) (kf : x < y → W p l e R s m args below meth c H locs cells slots Q (F0 m (pc + 1 + 3) ls rest)) : W p l e R s m args below meth c H locs cells slots Q (F0 m pc ls (.long y :: .long x :: rest)) :=
  W.lcmp hexec hb hd (lv_if_ge hexec hb hdg ht (fun h => kt (fun q => (ow_i32_ge _).mp h ((ow_cmp_lt x y).mpr q))) (fun h => kf ((ow_cmp_lt x y).mp (Decidable.of_not_not (fun q => h ((ow_i32_ge _).mpr q))))))
theorem ow_lcmp_gt (hexec : p.tables.exec = Jvm.exec) (hb : c.code = cc) {x y : Int64} {off : Int} {tgt : Nat} (hd : decode cc pc = .ok (.lcmp, 1)) (hdg : decode cc (pc + 1) = .ok (.ifCond .gt off, 3)) (ht : ((pc + 1 : Nat) : Int) + off = (tgt : Int)) (kt : y < x → W p l e R s m args below meth c H locs cells slots Q (F0 m tgt ls rest)) (kf : ¬ y < x → W p l e R s m args below meth c H locs cells slots Q (F0 m (pc + 1 + 3) ls rest)) : W p l e R s m args below meth c H locs cells slots Q (F0 m pc ls (.long y :: .long x :: rest)) :=
  W.lcmp hexec hb hd (lv_if_gt hexec hb hdg ht (fun h => kt ((ow_cmp_gt x y).mp h)) (fun h => kf (fun q => h ((ow_cmp_gt x y).mpr q))))
theorem ow_lcmp_le (hexec : p.tables.exec = Jvm.exec) (hb : c.code = cc) {x y : Int64} {off : Int} {tgt : Nat} (hd : decode cc pc = .ok (.lcmp, 1)) (hdg : decode cc (pc + 1) = .ok (.ifCond .le off, 3)) (ht : ((pc + 1 : Nat) : Int) + off = (tgt : Int)) (kt : ¬ y < x → W p l e R s m args below meth c H locs cells slots Q (F0 m tgt ls rest)) (kf : y < x → W p l e R s m args below meth c H locs cells slots Q (F0 m (pc + 1 + 3) ls rest)) : W p l e R s m args below meth c H locs cells slots Q (F0 m pc ls (.long y :: .long x :: rest)) :=
  W.lcmp hexec hb hd (lv_if_le hexec hb hdg ht (fun h => kt (fun q => (ow_i32_le _).mp h ((ow_cmp_gt x y).mpr q))) (fun h => kf ((ow_cmp_gt x y).mp (Decidable.of_not_not (fun q => h ((ow_i32_le _).mpr q))))))
theorem ow_copy (hexec : p.tables.exec = Jvm.exec) (hb : c.code = cc) (hml : c.maxLocals = ls.size) {own : String} {index : Nat} (hown : s.vm.findClass own = some m.cls) (hlink : (Cond.methodLink own index arraycopyName).before args s = true) (hnat : (Cond.native arraycopyName).before args s = true) (hstat : (Cond.static arraycopyName).before args s = true) (hini : (Cond.initialized "java/lang/System").before args s = true)
    (hB : ow_B G D cA ad A M s H0 H locs) {src dst n0 n1 : Nat} (hk0 : ow_kd G src = (0, n0)) (hk1 : ow_kd G dst = (0, n1)) {sp dp n : Int32} (hc : ow_cpok sp dp n n0 n1) (hframes : 1 ≤ R.frames) (hlocals : (rest.map fun v => v.category).sum + (nativeFrameWords "java/lang/System" "arraycopy" 5 + 11) ≤ R.locals) (hdg : decode cc pc = .ok (.invokestatic index, 3))
    (kk : ∀ (H1 : Heap) (locs1 : List Loc), ow_B G D cA ad A (ow_cpy M src sp dst dp n) s H0 H1 locs1 → W p l e R s m args below meth c H1 locs1 cells slots Q (F0 m (pc + 3) ls rest)) : W p l e R s m args below meth c H locs cells slots Q (F0 m pc ls (.int n :: .int dp :: .ref (ad dst) :: .int sp :: .ref (ad src) :: rest)) := by
  obtain ⟨hP, hD, hK, hS⟩ := hB
  obtain ⟨h1, h2, h3, h4, h5⟩ := hc
  refine va_copyi hexec hb hml hown hlink hnat hstat hini hK hP hD hS src dst 0 0 (ow_at hk0 (by decide)) (ow_at hk1 (by decide)) rfl rfl rfl h1 h2 h3 h4 h5 (fun i _ => rfl) hframes hlocals hdg (fun H1 locs1 hP hD hS => ?_)
  have e : (ow_wl G cA ad M).set dst (ad dst, .inl (cA 0, n1, .inl (va_cpy (M.1 src) (M.1 dst) sp.toNatClampNeg dp.toNatClampNeg n.toNatClampNeg))) = ow_wl G cA ad (ow_cpy M src sp dst dp n) := by
    rw [← ow_set (M := M) (M' := ow_cpy M src sp dst dp n) hk1 (fun o' h => if_neg h) (fun _ _ => rfl)]
    show _ = (ow_wl G cA ad M).set dst (ad dst, .inl (cA 0, n1, .inl ((ow_cpy M src sp dst dp n).1 dst)))
    rw [show (ow_cpy M src sp dst dp n).1 dst = va_cpy (M.1 src) (M.1 dst) sp.toNatClampNeg dp.toNatClampNeg n.toNatClampNeg from if_pos rfl]
  rw [e] at hP hD
  exact kk H1 locs1 ⟨hP, hD, hK, hS⟩
end OWM
