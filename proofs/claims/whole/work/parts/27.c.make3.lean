/-! worlds joined, with any memory -/
def om_sh (n : Nat) (M : om_M) : om_M := (fun o => M.1 (n + o), fun o => M.2 (n + o))
def om_j (n : Nat) (M1 M2 : om_M) : om_M := (fun o => if o < n then M1.1 o else M2.1 (o - n), fun o => if o < n then M1.2 o else M2.2 (o - n))
theorem cw_appM (G1 G2 : List (Nat × Nat)) (cA : Nat → ClassId) (b : Nat) (M1 M2 : om_M) : ow_wl (G1 ++ G2) cA (aw b) (om_j G1.length M1 M2) = ow_wl G1 cA (aw b) M1 ++ ow_wl G2 cA (aw (b + G1.length)) M2 := by
  unfold ow_wl
  rw [List.length_append, List.range_add, List.map_append, List.map_map]
  congr 1
  · apply List.map_congr_left
    intro o ho
    have ho := List.mem_range.mp ho
    simp only [ow_ent, cw_kl G1 G2 ho, om_j, ho, if_true]
  · apply List.map_congr_left
    intro o ho
    simp only [Function.comp, ow_ent, cw_kr, cw_ek, Nat.add_assoc, om_j, show ¬ G1.length + o < G1.length by omega, if_false, Nat.add_sub_cancel_left]
section CW3
variable {p : Program} {l : Launch} {e : Env} {R : Room} {s : State} {m : MethodId} {args : Array Value} {below : List Frame} {meth : Method} {c : Code} {H : Heap} {locs : List Loc} {cells slots : Nat} {Q : State → Prop}
variable {cc : ByteArray} {pc : Nat} {ls : Array Slot} {rest st0 : List Value} {D : va_G} {cA : Nat → ClassId} {A : Nat → Prop} {H0 : Heap} {ws : va_W} {h b q : Nat} {G : List (Nat × Nat)} {M : om_M}
theorem cw_vret (hexec : p.tables.exec = Jvm.exec) (hb : c.code = cc) (hr : meth.sig.returnType = none) (hlocks : meth.locks = false) (hB : cw_B D cA (fun q => b ≤ q) ws s s.heap H locs) (hw : ws = ow_wl G cA (aw b) M) (hz : H.size = b + G.length) (hdg : decode cc pc = .ok (.return_, 1)) :
    W p l e R s m args below meth c H locs cells slots (MQ below (cw_Q D cA b G M) args s cells slots (fun q => b ≤ q)) (F0 m pc ls []) := by
  subst hw
  exact W.vret hexec hb hr (fun t ht hW => ⟨⟨(), rfl, trivial, by rw [ht]; exact hz, by rw [ht]; exact hB.1, va_K.moved hW.alike hB.2.2.1⟩, hB.2.2.2.F ht⟩) hB.2.2.2.2.2 hdg hlocks
theorem cw_entry {fs : List Value} {ci : Nat} {as : Array Value} (h : cw_Pc D cA b ci fs as s) : as = [Value.ref b].toArray ∧ s.heap.size = b + 1 ∧ cw_B D cA (fun q => b ≤ q) [(b, .inr (ci, fs))] s s.heap s.heap [] ∧ cw_N s ∧ (∀ q, s.heap.size ≤ q → b ≤ q) :=
  ⟨h.1, h.2.1, ⟨h.2.2.1.1, ⟨fun i j x y hi hj hxy => by
    have h1 := (List.getElem?_eq_some_iff.mp hi).1
    have h2 := (List.getElem?_eq_some_iff.mp hj).1
    simp at h1 h2
    omega, fun k q hk => by
    have h1 := (List.getElem?_eq_some_iff.mp hk).1
    simp at h1
    subst h1
    cases hk
    exact Nat.le_refl _⟩, h.2.2.1.2, va_S.rf⟩, h.2.2.2, fun q hq => by have := h.2.1; omega⟩
theorem cw_pre {fs : List Value} {ci : Nat} (hB : cw_B D cA A (ws ++ [(q, .inr (ci, fs))]) s H0 H locs) (hz : H.size = q + 1) (hN : cw_N s) : PreS s H (cw_Pc D cA q ci fs) [.ref q] :=
  ⟨fun a U g mk k => ⟨k.1, k.2.1, ⟨k.2.2.1.1, va_K.moved (u := U) (U := U.calling g mk a) (Vm.Alike.refl U.vm) k.2.2.1.2⟩, cw_N.warm (s := U) (U := U.calling g mk a) (State.WarmedH.refl U) k.2.2.2⟩, fun U hU hW => ⟨rfl, by rw [hU]; exact hz, ⟨fun k x hx => by
    have h1 := (List.getElem?_eq_some_iff.mp hx).1
    simp at h1
    subst h1
    cases hx
    rw [hU]
    exact hB.1 ws.length _ (by simp), va_K.moved hW.alike hB.2.2.1⟩, hN.warm hW⟩⟩
theorem cw_call {fs : List Value} {ci mc ms : Nat} {a : Array Value} (hr : va_Run p l e R s m args below meth c H locs cells slots mc ms (F0 m pc ls st0) rest (cw_Q D cA q G M a) (fun x => q ≤ x)) (hB : cw_B D cA A (ws ++ [(q, .inr (ci, fs))]) s H0 H locs) (hz : H.size = q + 1) (hA : ∀ x, H0.size ≤ x → A x) (hq : H0.size ≤ q)
    (kk : ∀ (H1 : Heap) (locs1 : List Loc), H1.size = q + G.length → cw_B D cA A (ws ++ ow_wl G cA (aw q) M) s H0 H1 locs1 → W p l e R s m args below meth c H1 locs1 (cells + mc) (slots + ms) Q (F0 m (pc + 3) ls rest)) : W p l e R s m args below meth c H locs cells slots Q (F0 m pc ls st0) := by
  have hA' : ∀ x, q ≤ x → A x := fun x hx => hA x (by omega)
  refine va_callv hr hB.2.2.2 (fun x _ hx => hA' x hx) hA' (fun _ t H1 locs1 ht hvm _ hb hs hk hS => kk H1 locs1 (by rw [← ht]; exact hb.1) ?_)
  obtain ⟨hP, hD, hK, -⟩ := hB
  have hlt : ∀ (k : Nat) (x : Nat × va_E), ws[k]? = some x → x.1 < q := fun k x hx => by
    have hl := (List.getElem?_eq_some_iff.mp hx).1
    have h1 : (ws ++ [(q, .inr (ci, fs))])[k]? = some x := by rw [List.getElem?_append_left hl]; exact hx
    have h2 := (hP k x h1).lt
    have h3 : x.1 ≠ q := fun z => by
      have := hD.1 k ws.length x (q, .inr (ci, fs)) h1 (by simp) z
      omega
    omega
  have hPw : va_P D ow_cl ws H := fun k x hx => hP k x (by rw [List.getElem?_append_left (List.getElem?_eq_some_iff.mp hx).1]; exact hx)
  have hDw : va_D A ws := ⟨fun i j x y hi hj => hD.1 i j x y (by rw [List.getElem?_append_left (List.getElem?_eq_some_iff.mp hi).1]; exact hi) (by rw [List.getElem?_append_left (List.getElem?_eq_some_iff.mp hj).1]; exact hj), fun k x hx => hD.2 k x (by rw [List.getElem?_append_left (List.getElem?_eq_some_iff.mp hx).1]; exact hx)⟩
  refine ⟨(hPw.kept (fun k x hx => hk x.1 (by have := hlt k x hx; omega) (by have := hlt k x hx; omega))).app (by rw [← ht]; exact hb.2.1), va_D.app hDw (cw_Dw hA') (fun i j x y hx hy hxy => ?_), hK, hS⟩
  have h1 := hlt i x hx
  have h2 := (cw_addr hy).1
  omega
/-- a call on the last part of the world, by its contract over the one world -/
theorem cw_sub (hB : cw_B D cA A (ws ++ ow_wl G cA (aw h) M) s H0 H locs) : ow_B G D cA (aw h) A M s H0 H locs :=
  ⟨fun k x hx => hB.1 (ws.length + k) x (by rw [List.getElem?_append_right (Nat.le_add_right _ _), Nat.add_sub_cancel_left]; exact hx), ⟨fun i j x y hi hj hxy => by
    have := hB.2.1.1 (ws.length + i) (ws.length + j) x y (by rw [List.getElem?_append_right (Nat.le_add_right _ _), Nat.add_sub_cancel_left]; exact hi) (by rw [List.getElem?_append_right (Nat.le_add_right _ _), Nat.add_sub_cancel_left]; exact hj) hxy
    omega, fun k x hx => hB.2.1.2 (ws.length + k) x (by rw [List.getElem?_append_right (Nat.le_add_right _ _), Nat.add_sub_cancel_left]; exact hx)⟩, hB.2.2.1, hB.2.2.2⟩
theorem cw_callO {Qp : om_M → Prop} {a : Array Value} (hr : va_Run p l e R s m args below meth c H locs cells slots 0 0 (F0 m pc ls st0) rest (ow_Qv G D cA (aw h) Qp a) (ow_A G (aw h))) (hB : cw_B D cA A (ws ++ ow_wl G cA (aw h) M) s H0 H locs) (hlt : ∀ (k : Nat) (x : Nat × va_E), ws[k]? = some x → x.1 < h) (hz : H.size = h + G.length)
    (kk : ∀ (M1 : om_M) (H1 : Heap) (locs1 : List Loc), Qp M1 → H.size ≤ H1.size → cw_B D cA A (ws ++ ow_wl G cA (aw h) M1) s H0 H1 locs1 → W p l e R s m args below meth c H1 locs1 cells slots Q (F0 m (pc + 3) ls rest)) : W p l e R s m args below meth c H locs cells slots Q (F0 m pc ls st0) := by
  have hO := cw_sub hB
  refine va_callv hr hB.2.2.2 (fun x _ hx => ow_sub hO.2.1 x hx) (ow_sub hO.2.1) (fun M1 t H1 locs1 ht hvm hp hb hs hk hS => kk M1 H1 locs1 hp hs ?_)
  obtain ⟨hP, hD, hK, -⟩ := hB
  have hPw : va_P D ow_cl ws H := fun k x hx => hP k x (by rw [List.getElem?_append_left (List.getElem?_eq_some_iff.mp hx).1]; exact hx)
  have hDw : va_D A ws := ⟨fun i j x y hi hj => hD.1 i j x y (by rw [List.getElem?_append_left (List.getElem?_eq_some_iff.mp hi).1]; exact hi) (by rw [List.getElem?_append_left (List.getElem?_eq_some_iff.mp hj).1]; exact hj), fun k x hx => hD.2 k x (by rw [List.getElem?_append_left (List.getElem?_eq_some_iff.mp hx).1]; exact hx)⟩
  refine ⟨(hPw.kept (fun k x hx => hk x.1 (by have := hlt k x hx; omega) (fun ⟨o, ho, z⟩ => by have := hlt k x hx; have z : x.1 = h + o := z; omega))).app (by rw [← ht]; exact hb.1), va_D.app hDw (ow_D hO.2.1) (fun i j x y hx hy hxy => ?_), hK, hS⟩
  have h1 := hlt i x hx
  have h2 := (cw_addr hy).1
  omega
end CW3
