/-! what holds of the tables at the law's entry -/
theorem lw_hg {args : Array Value} {s : State} (hts : ∀ w ∈ lw_tbl, w.before args s = true) : ∀ w ∈ lw_g, w.before args s = true := fun w h => hts w (tg_in h)
theorem lw_arr {args : Array Value} {s : State} {ty : FieldType} (h : (Cond.arrayClass ty).before args s = true) : ∃ cA : ClassId, s.vm.findClass ("[" ++ ty.toString) = some cA ∧ ArrOfT s cA ty := by
  obtain ⟨cA, kA, comp, h1, h2, h3⟩ := Cond.arrayClass_spec h
  exact ⟨cA, h1, fun n z => ⟨fun k h => (by cases h), kA, h2, comp, h3⟩⟩
theorem lw_arr2 {args : Array Value} {s : State} (h : (Cond.arrayOver (.array .int)).before args s = true) : ∃ cA : ClassId, s.vm.findClass ("[" ++ (FieldType.array .int).toString) = some cA ∧ ArrOfT s cA (.array .int) := by
  obtain ⟨comp, c, k, h1, h2, h3, h4, h5⟩ := arrayOverA_spec h
  exact ⟨c, h5, fun n z => ⟨fun k h => (by cases h), k, h3, comp, h4⟩⟩
theorem lw_K0 {args : Array Value} {s : State} (hts : ∀ w ∈ lw_tbl, w.before args s = true) : ∃ (D : va_G) (cA : Nat → ClassId), va_K D ow_cl (ow_ty cA) s := by
  have hg := lw_hg hts
  obtain ⟨c0, f0, h0⟩ := u_known hg iw_D (hg _ mw_24)
  obtain ⟨c1, f1, h1⟩ := u_known hg iw_P (hg _ mw_32)
  obtain ⟨c2, f2, h2⟩ := u_known hg iw_R (hg _ mw_119)
  obtain ⟨c3, f3, h3⟩ := u_known hg iw_E (hg _ mw_125)
  obtain ⟨c4, f4, h4⟩ := u_known hg iw_H (hg _ mw_139)
  obtain ⟨c5, f5, h5⟩ := u_known hg iw_K (hg _ mw_151)
  obtain ⟨c6, f6, h6⟩ := u_known hg iw_A (hg _ mw_167)
  obtain ⟨c7, f7, h7⟩ := u_known hg iw_W (hg _ mw_113)
  obtain ⟨c8, f8, h8⟩ := u_known hg iw_S (hg _ mw_202)
  obtain ⟨c9, f9, h9⟩ := u_known hg iw_M (hg _ mw_788)
  obtain ⟨a0, g0, r0⟩ := lw_arr (hg _ mw_97)
  obtain ⟨a1, g1, r1⟩ := lw_arr (hg _ mw_137)
  obtain ⟨a2, g2, r2⟩ := lw_arr2 (hts _ cw_over)
  obtain ⟨a3, g3, r3⟩ := lw_arr (hg _ mw_870)
  refine ⟨(fun i => match i with | 0 => c0 | 1 => c1 | 2 => c2 | 3 => c3 | 4 => c4 | 5 => c5 | 6 => c6 | 7 => c7 | 8 => c8 | _ => c9, fun i => match i with | 0 => f0 | 1 => f1 | 2 => f2 | 3 => f3 | 4 => f4 | 5 => f5 | 6 => f6 | 7 => f7 | 8 => f8 | _ => f9), fun i => match i with | 0 => a0 | 1 => a1 | 2 => a2 | _ => a3, fun c q hq => ?_, fun k q hq => ?_⟩
  · match c, hq with
    | 0, hq => cases hq; exact h0
    | 1, hq => cases hq; exact h1
    | 2, hq => cases hq; exact h2
    | 3, hq => cases hq; exact h3
    | 4, hq => cases hq; exact h4
    | 5, hq => cases hq; exact h5
    | 6, hq => cases hq; exact h6
    | 7, hq => cases hq; exact h7
    | 8, hq => cases hq; exact h8
    | 9, hq => cases hq; exact h9
    | n + 10, hq => cases hq
  · match k, hq with
    | 0, hq => cases hq; exact ⟨r0, g0⟩
    | 1, hq => cases hq; exact ⟨r1, g1⟩
    | 2, hq => cases hq; exact ⟨r2, g2⟩
    | 3, hq => cases hq; exact ⟨r3, g3⟩
    | n + 4, hq => cases hq
theorem lw_Z0 {args : Array Value} {s : State} (hts : ∀ w ∈ lw_tbl, w.before args s = true) (hgv : (Jvm.Cond.and given_1 narrow_1).before args s = true) : xw_Z (fun q => s.heap.size ≤ q) s s.heap := by
  have hs := flat_of_before _ hgv
  have hA : ∀ a : Nat, a < s.heap.size → ¬ s.heap.size ≤ a := fun a h => by omega
  exact ⟨xw_L.of (hts _ (by decide +kernel)) (hs _ (by decide +kernel)) hA, xw_L.of (hts _ (by decide +kernel)) (hs _ (by decide +kernel)) hA, va_Nw.of rfl (hts _ (by decide +kernel)), va_Nw.of rfl (hts _ (by decide +kernel)), va_Nw.of rfl (hts _ (by decide +kernel)), va_Nw.of rfl (hts _ (by decide +kernel)), va_Nw.of rfl (hts _ (by decide +kernel)), va_Nw.of rfl (hts _ (by decide +kernel))⟩
theorem lw_N0 {args : Array Value} {s : State} (hgv : (Jvm.Cond.and given_1 narrow_1).before args s = true) : xw_N s := by
  have hs := flat_of_before _ hgv
  exact ⟨va_Nc.of (hs (Cond.not (.castable "java/lang/IllegalArgumentException" "java/util/NoSuchElementException")) (by decide +kernel)), va_Nc.of (hs (Cond.not (.castable "java/lang/IllegalStateException" "java/lang/IllegalArgumentException")) (by decide +kernel))⟩
theorem lw_nw : ∀ w ∈ cw_nw, w ∈ lw_tbl ∧ w.onTables = true := by decide +kernel
theorem lw_C0 {args : Array Value} {s : State} (hts : ∀ w ∈ lw_tbl, w.before args s = true) : cw_N s := ⟨fun w hw => va_Nw.of (lw_nw w hw).2 (hts _ (lw_nw w hw).1), cw_AO.of (hts _ cw_over)⟩
