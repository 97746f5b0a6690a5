/-! every rule has a winner; both sides find the same -/
theorem mx_ex {R : Nat → Nat → Prop} (n : Nat) (hi : ∀ a, ¬ R a a) (ht : ∀ a b c, a < n → b < n → c < n → R a b → R b c → R a c) : ∀ m, m + 1 ≤ n → ∃ a, a < m + 1 ∧ ∀ b, b < m + 1 → ¬ R b a
  | 0, _ => ⟨0, by omega, fun b hb => by rw [show b = 0 by omega]; exact hi 0⟩
  | m + 1, hm => by
    obtain ⟨a, ha, h⟩ := mx_ex n hi ht m (by omega)
    by_cases e : R (m + 1) a
    · refine ⟨m + 1, by omega, fun b hb q => ?_⟩
      by_cases z : b = m + 1
      · subst z; exact hi _ q
      · exact h b (by omega) (ht b (m + 1) a (by omega) (by omega) (by omega) q e)
    · refine ⟨a, by omega, fun b hb q => ?_⟩
      by_cases z : b = m + 1
      · subst z; exact e q
      · exact h b (by omega) q
def Win (P : pv) (r c : Nat) : Prop := (r = 3 → Rn P P.n 0 c) ∧ (r = 4 → Lr P 0 (2 ^ c)) ∧ (r = 7 → Wpa P c) ∧ (r = 8 → Wlk P c) ∧ (r = 9 → Wag P c) ∧ (r = 10 → Wun P c) ∧ (r = 11 → c = sy P (P.n - 1)) ∧ ((r < 3 ∨ r = 5 ∨ r = 6) → Wsc P r c)
theorem Win3 {P : pv} {c : Nat} : Win P 3 c ↔ Rn P P.n 0 c := ⟨fun w => w.1 rfl, fun w => ⟨fun _ => w, by omega, by omega, by omega, by omega, by omega, by omega, by omega⟩⟩
theorem Win4 {P : pv} {c : Nat} : Win P 4 c ↔ Lr P 0 (2 ^ c) := ⟨fun w => w.2.1 rfl, fun w => ⟨by omega, fun _ => w, by omega, by omega, by omega, by omega, by omega, by omega⟩⟩
theorem Win7 {P : pv} {c : Nat} : Win P 7 c ↔ Wpa P c := ⟨fun w => w.2.2.1 rfl, fun w => ⟨by omega, by omega, fun _ => w, by omega, by omega, by omega, by omega, by omega⟩⟩
theorem Win8 {P : pv} {c : Nat} : Win P 8 c ↔ Wlk P c := ⟨fun w => w.2.2.2.1 rfl, fun w => ⟨by omega, by omega, by omega, fun _ => w, by omega, by omega, by omega, by omega⟩⟩
theorem Win9 {P : pv} {c : Nat} : Win P 9 c ↔ Wag P c := ⟨fun w => w.2.2.2.2.1 rfl, fun w => ⟨by omega, by omega, by omega, by omega, fun _ => w, by omega, by omega, by omega⟩⟩
theorem Win10 {P : pv} {c : Nat} : Win P 10 c ↔ Wun P c := ⟨fun w => w.2.2.2.2.2.1 rfl, fun w => ⟨by omega, by omega, by omega, by omega, by omega, fun _ => w, by omega, by omega⟩⟩
theorem Win11 {P : pv} {c : Nat} : Win P 11 c ↔ c = sy P (P.n - 1) := ⟨fun w => w.2.2.2.2.2.2.1 rfl, fun w => ⟨by omega, by omega, by omega, by omega, by omega, by omega, fun _ => w, by omega⟩⟩
theorem Wins {P : pv} {r c : Nat} (h : r < 3 ∨ r = 5 ∨ r = 6) : Win P r c ↔ Wsc P r c := ⟨fun w => w.2.2.2.2.2.2.2 h, fun w => ⟨by omega, by omega, by omega, by omega, by omega, by omega, by omega, fun _ => w⟩⟩
theorem Wp.dn {P : pv} {v w : Nat} (h : w ≤ v) : ∀ {k a b : Nat}, Wp P v k a b → Wp P w k a b
  | 0, _, _, q => ⟨q.1, Nat.le_trans h q.2⟩
  | _ + 1, _, _, q => q.elim (fun q => Or.inl (Wp.dn h q)) (fun q => Or.inr ⟨Wp.dn h q.1, Wp.dn h q.2⟩)
theorem Wpa.ex {P : pv} (hg : gd P) : ∃ c, c < P.n ∧ Wpa P c := by
  have hn2 : 2 ≤ P.n := hg.1
  obtain ⟨a, ha, h⟩ := mx_ex (R := fun x y => ∃ v, 0 < v ∧ Wp P v P.n x y ∧ ¬ Wp P v P.n y x) P.n (fun a ⟨v, _, q1, q2⟩ => q2 q1) (fun a b c ha hb hc ⟨v, v0, v1, v2⟩ ⟨w, w0, w1, w2⟩ => by
    rcases Nat.le_total v w with q | q
    · exact ⟨v, v0, Wp.trans hb v1 (Wp.dn q w1), fun z => v2 (Wp.trans hc (Wp.dn q w1) z)⟩
    · exact ⟨w, w0, Wp.trans hb (Wp.dn q v1) w1, fun z => w2 (Wp.trans ha z (Wp.dn q v1))⟩) (P.n - 1) (by omega)
  refine ⟨a, by omega, fun b hb _ v hv q => ?_⟩
  apply Classical.byContradiction
  intro z
  exact h b (by omega) ⟨v, hv, q, z⟩
theorem lk_ac {P : pv} (hg : gd P) {E : Nat → Nat → Prop} (h : okL P (pr P) E) : ∀ m, ∀ x, ¬ Tc (fun a b => E a b ∧ 128000128 - m ≤ key P a b) x x
  | 0, x, ⟨z, q, _⟩ => by have := key_lt hg x z; omega
  | m + 1, x, q => by
    have ih := lk_ac hg h m
    by_cases ex : ∃ a b, E a b ∧ key P a b = 128000128 - (m + 1) ∧ m + 1 ≤ 128000128
    · obtain ⟨a, b, e1, e2, e3⟩ := ex
      have hp := (h a b).mp e1
      have hE : ∀ c d, (E c d ∧ 128000128 - (m + 1) ≤ key P c d) ↔ ((E c d ∧ 128000128 - m ≤ key P c d) ∨ (c = a ∧ d = b)) := fun c d => by
        constructor
        · rintro ⟨z1, z2⟩
          by_cases e : key P c d = key P a b
          · exact Or.inr (key_inj hg ((h c d).mp z1).1 hp.1 e)
          · exact Or.inl ⟨z1, by omega⟩
        · rintro (⟨z1, z2⟩ | ⟨rfl, rfl⟩)
          · exact ⟨z1, by omega⟩
          · exact ⟨e1, by omega⟩
      have nrc : ¬ Rc (fun c d => E c d ∧ 128000128 - m ≤ key P c d) b a := fun r => hp.2 (r.mono (fun u w z => ⟨z.1, by have := z.2; omega⟩))
      rcases (Tc.add hE x x).mp q with z | ⟨z1, z2⟩
      · exact ih x z
      · apply nrc
        have r1 : Rc (fun c d => E c d ∧ 128000128 - m ≤ key P c d) b x := z2.elim (fun e => e ▸ Rc.refl) (fun z => z.rc)
        exact z1.elim (fun e => e ▸ r1) (fun z => r1.trans z.rc)
    · obtain ⟨z, z1, z2⟩ := q
      have mono : ∀ u w, (E u w ∧ 128000128 - (m + 1) ≤ key P u w) → (E u w ∧ 128000128 - m ≤ key P u w) := fun u w ⟨y1, y2⟩ => ⟨y1, by
        have : ¬ (key P u w = 128000128 - (m + 1) ∧ m + 1 ≤ 128000128) := fun y => ex ⟨u, w, y1, y.1, y.2⟩
        omega⟩
      exact ih x ⟨z, mono _ _ z1, z2.mono mono⟩
theorem Wlk.ex {P : pv} (hg : gd P) : ∃ c, c < P.n ∧ Wlk P c := by
  have hn2 : 2 ≤ P.n := hg.1
  by_cases ex : ∃ E, okL P (pr P) E
  · obtain ⟨E, h⟩ := ex
    have ac : ∀ x, ¬ Tc E x x := fun x ⟨z, q1, q2⟩ => lk_ac hg h 128000128 x ⟨z, ⟨q1, by omega⟩, q2.mono (fun u w e => ⟨e, by omega⟩)⟩
    obtain ⟨a, ha, hm⟩ := mx_ex (R := Tc E) P.n ac (fun a b c _ _ _ ⟨z, q1, q2⟩ q => ⟨z, q1, q2.trans q.rc⟩) (P.n - 1) (by omega)
    refine ⟨a, by omega, (Wlk.iff hg h a).mpr (fun b q => ?_)⟩
    have := ((h b a).mp q).1.1
    exact hm b (by omega) ⟨a, q, Rc.refl⟩
  · exact ⟨0, by omega, fun E h => absurd ⟨E, h⟩ ex⟩
theorem Wag.ex {P : pv} (hg : gd P) : ∃ c, c < P.n ∧ Wag P c := by
  have hn2 : 2 ≤ P.n := hg.1
  have hb := p2n hg
  by_cases ex : ∃ L, LTp P L (2 ^ P.n)
  · obtain ⟨L, h⟩ := ex
    obtain ⟨⟨c, q1, q2, q3⟩, -⟩ := h.2 (2 ^ P.n - 1) (by omega) (by omega)
    exact ⟨c, q1, (Wag.iff hg h c).mpr ⟨q2, q3.symm⟩⟩
  · exact ⟨0, by omega, fun L h => absurd ⟨L, h⟩ ex⟩
theorem Wun.ex {P : pv} (hg : gd P) : ∃ c, c < P.n ∧ Wun P c := by
  have hn2 : 2 ≤ P.n := hg.1
  obtain ⟨a, ha, h⟩ := mx_ex (R := cov P) P.n (fun a q => bt_irr q.1) (fun a b c ha hb hc q1 q2 => ⟨q1.2 c hc q2.1, fun d hd z => q1.2 d hd (q2.2 d hd z)⟩) (P.n - 1) (by omega)
  exact ⟨a, by omega, fun b hb => h b (by omega)⟩
theorem Wsc.ex {P : pv} (hg : gd P) (r : Nat) : ∃ c, c < P.n ∧ Wsc P r c := by
  have hn2 : 2 ≤ P.n := hg.1
  obtain ⟨a, ha, h⟩ := mx_ex (R := fun x y => ¬ bet r (P.sc r y) (P.sc r x)) P.n (fun a q => q (bet.refl _ _)) (fun a b c _ _ _ q1 q2 q3 => by
    have h1 : bet r (P.sc r a) (P.sc r b) := (bet.tot r _ _).resolve_left q1
    exact q2 (q3.trans h1)) (P.n - 1) (by omega)
  refine ⟨a, by omega, fun d hd => ?_⟩
  apply Classical.byContradiction
  intro z
  exact h d (by omega) z
theorem Lr.ex {P : pv} (hg : gd P) : ∃ c, c < P.n ∧ Lr P 0 (2 ^ c) := by
  have hn := hg.2.1
  have hb := p2n hg
  obtain ⟨u, ⟨u1, u2, u3⟩, hm⟩ := pk_least (fun u => 0 < u ∧ u < 2 ^ P.n ∧ Lr P 0 u) ⟨2 ^ P.n - 1, by omega, by omega, Lr.top⟩
  by_cases e : u &&& (u - 1) = 0
  · obtain ⟨c, hc, rfl⟩ := one7 u (by omega) u1 e
    exact ⟨c, (Nat.pow_lt_pow_iff_right (by decide)).mp u2, u3⟩
  · exfalso
    obtain ⟨d, hd, hdb⟩ := ex7 u (by omega) u1
    have hdn : d < P.n := bt_n P.n (by omega) u (by omega) u2 d hd hdb
    obtain ⟨c, hc, hw⟩ := Wk.ex (P := P) (p := bs u) ⟨d, hdn, hdb⟩
    have t7 := tb7 u (by omega) c (by omega) hw.1
    have lt := lt_sub (by omega) (by omega) hw.1
    refine hm (u - 2 ^ c) lt ⟨?_, by omega, u3.rule u1 u2 e hc hw⟩
    have : u ≠ 2 ^ c := fun z => e (by rw [z]; exact pw7 c (by omega))
    omega
theorem Rn.ex {P : pv} (hg : gd P) : ∃ c, c < P.n ∧ Rn P P.n 0 c := by
  have hn2 : 2 ≤ P.n := hg.1
  obtain ⟨a, ha, h⟩ := mx_ex (R := fun x y => P.pl y 0 < P.pl x 0) P.n (fun a q => Nat.lt_irrefl _ q) (fun a b c _ _ _ q1 q2 => Nat.lt_trans q2 q1) (P.n - 1) (by omega)
  have ha2 : a < P.n := by omega
  obtain ⟨b, hb, h2⟩ := mx_ex (R := fun x y => (y = a ∧ x ≠ a) ∨ (x ≠ a ∧ y ≠ a ∧ P.pl y 0 < P.pl x 0)) P.n (fun b q => by rcases q with q | q <;> omega) (fun x y z _ _ _ q1 q2 => by rcases q1 with q1 | q1 <;> rcases q2 with q2 | q2 <;> omega) (P.n - 1) (by omega)
  have hb2 : b < P.n := by omega
  have hba : b ≠ a := fun e => by
    by_cases z : a = 0
    · exact h2 1 (by omega) (Or.inl ⟨e, by omega⟩)
    · exact h2 0 (by omega) (Or.inl ⟨e, by omega⟩)
  have m1 : mee P a b := fun e he e1 e2 => by
    have q1 := h e (by omega)
    have q2 := h2 e (by omega)
    have : ¬ P.pl b 0 < P.pl e 0 := fun z => q2 (Or.inr ⟨e1, hba, z⟩)
    exact ⟨by omega, by omega⟩
  have m2 : mee P b a := fun e he e1 e2 => ⟨(m1 e he e2 e1).2, (m1 e he e2 e1).1⟩
  have key : ∀ i j, i < j → j < P.n → mee P i j → ∃ c, c < P.n ∧ Rn P P.n 0 c := fun i j hij hj hm => by
    by_cases z : P.bt j i
    · exact ⟨j, hj, i, j, hij, hj, by omega, hm, Or.inr ⟨rfl, bt_asym z⟩⟩
    · exact ⟨i, by omega, i, j, hij, hj, by omega, hm, Or.inl ⟨rfl, z⟩⟩
  rcases Nat.lt_or_ge a b with z | z
  · exact key a b z hb2 m1
  · exact key b a (by omega) ha2 m2
theorem r12 {r : Nat} (hr : r < 12) : r = 3 ∨ r = 4 ∨ r = 7 ∨ r = 8 ∨ r = 9 ∨ r = 10 ∨ r = 11 ∨ (r < 3 ∨ r = 5 ∨ r = 6) := by omega
theorem Win.ex {P : pv} (hg : gd P) {r : Nat} (hr : r < 12) : ∃ c, c < P.n ∧ Win P r c := by
  have hn2 : 2 ≤ P.n := hg.1
  rcases r12 hr with rfl | rfl | rfl | rfl | rfl | rfl | rfl | h
  · exact (Rn.ex hg).imp (fun c q => ⟨q.1, Win3.mpr q.2⟩)
  · exact (Lr.ex hg).imp (fun c q => ⟨q.1, Win4.mpr q.2⟩)
  · exact (Wpa.ex hg).imp (fun c q => ⟨q.1, Win7.mpr q.2⟩)
  · exact (Wlk.ex hg).imp (fun c q => ⟨q.1, Win8.mpr q.2⟩)
  · exact (Wag.ex hg).imp (fun c q => ⟨q.1, Win9.mpr q.2⟩)
  · exact (Wun.ex hg).imp (fun c q => ⟨q.1, Win10.mpr q.2⟩)
  · exact ⟨_, sy_lt hg (by omega), Win11.mpr rfl⟩
  · exact (Wsc.ex hg r).imp (fun c q => ⟨q.1, (Wins h).mpr q.2⟩)
theorem sp_cwin {F o r : Nat} {P : pv} {M : om_M} {Q : Int32 → om_M → Prop} (hP : RP o M P) (hg : gd P) (ho : o = 1 ∨ o = 49) (ht : ta M) (hr : r < 12) (hF : 1000 ≤ F) (h : ∀ M' x, cr M M' → iS P.n x (Win P r) → Q x M') : wp_R_winnerSet F 22 o (nI r) M Q := by
  have hn := hg.2.1
  have hn2 : 2 ≤ P.n := hg.1
  have sc : (r < 3 ∨ r = 5 ∨ r = 6) → wp_C_winnerSet F o (nI r) M Q := fun hs => sp_Cwinners hP hg hr (by omega) (fun x hx => h M x cr.refl (hx.congr (fun c _ => Wins hs)))
  refine pk_eq r 3 (fun e => ?_) (fun n3 => pk_eq r 4 (fun e => ?_) (fun n4 => pk_eq r 5 (fun e => sc (by omega)) (fun n5 => pk_eq r 6 (fun e => sc (by omega)) (fun n6 => pk_eq r 7 (fun e => ?_) (fun n7 => pk_eq r 8 (fun e => ?_) (fun n8 => pk_eq r 9 (fun e => ?_) (fun n9 => pk_eq r 10 (fun e => ?_) (fun n10 => pk_eq r 11 (fun e => ?_) (fun n11 => sc (by omega))))))))))
  · subst e
    exact sp_Rrunoff hP hg (by omega) (fun x hx => h M x cr.refl (hx.congr (fun c _ => Win3)))
  · subst e
    exact sp_Ewinners hP hg ho (by omega) (fun M' x c1 hx => h M' x c1 (hx.congr (fun c _ => Win4)))
  · subst e
    exact sp_Hwinners hP hg ho (by omega) (fun M' x c1 hx => h M' x c1 (hx.congr (fun c _ => Win7)))
  · subst e
    exact sp_Kwinners hP hg ho (by omega) (fun M' x c1 hx => h M' x c1 (hx.congr (fun c _ => Win8)))
  · subst e
    exact sp_Awinners hP hg ho ht (by omega) (fun M' x c1 hx => h M' x c1 (hx.congr (fun c _ => Win9)))
  · subst e
    exact sp_Runcovered hP hg ho (by omega) (fun M' x c1 hx => h M' x c1 (hx.congr (fun c _ => Win10)))
  · subst e
    exact sp_lastToStay hP hg (by omega) (h M _ cr.refl ((iS.one hn (sy_lt hg (by omega))).congr (fun c _ => Win11)))
def mw (M M' : om_M) : Prop := (∀ q, (q < 82 ∨ 87 ≤ q) → M'.1 q = M.1 q) ∧ ∀ q, q ≠ 86 → M'.2 q = M.2 q
theorem mw.mq {M M' : om_M} (h : mw M M') : mq M M' := ⟨fun q hq => h.1 q (by omega), fun k _ _ _ => congrFun (h.1 71 (by omega)) k, h.2 89 (by decide)⟩
theorem mw.RL {M M' : om_M} {P : pv} (h : mw M M') (g : RL M P) : RL M' P := g.congr (fun q _ _ => h.1 q (by omega)) (by rw [h.1 71 (by omega)]) (by rw [h.1 71 (by omega)])
theorem off_mw {o : Nat} {M M' : om_M} (h : pu_off o M M') (ho : 82 ≤ o ∧ o < 87) : mw M M' := ⟨fun q hq => h.1 q (by omega), fun q _ => by rw [h.2]⟩
theorem lo.mw {M M' : om_M} (h : lo M M') : mw M M' := ⟨fun q _ => by rw [h.1], h.2⟩
theorem mw.trans {M M' M'' : om_M} (h : mw M M') (g : mw M' M'') : mw M M'' := ⟨fun q hq => (g.1 q hq).trans (h.1 q hq), fun q hq => (g.2 q hq).trans (h.2 q hq)⟩
theorem off_RT {o : Nat} {M M' : om_M} {P : pv} (h : pu_off o M M') (ho : o ≠ 82) (g : RT M P) : RT M' P := fun a b ha hb => by rw [h.1 _ (by omega)]; exact g a b ha hb
theorem sp_work2 {F r : Nat} {P : pv} {M : om_M} {Q : Int32 → om_M → Prop} (hL : RL M P) (hg : gd P) (hr : r < 12) (hF : 100000000 ≤ F) (h : ∀ M' x, mw M M' → RT M' P → iS P.n x (Win P r) → Q x M') : wp_M_work F 71 (nI r) M Q := by
  have hn := hg.2.1
  have hn2 : 2 ≤ P.n := hg.1
  refine sp_mtally hL hn hg.2.2.1 (fun t ht => (hg.2.2.2.2.1 t ht).1) (by omega) (fun M1 j1 hR => ?_)
  have hL1 := j1.RL (by decide) hL
  have m1 : mw M M1 := off_mw j1 (by decide)
  have sc : (r < 3 ∨ r = 5 ∨ r = 6) → ∀ x2 : Int32, ((r = 1 ∨ r = 5) → x2 = 0) → (¬ (r = 1 ∨ r = 5) → x2 = 1) → wp_M_extreme F 71 (nI r) x2 M1 Q := fun hs x2 g1 g0 => sp_extreme hL1 hR hg hs g1 g0 (by omega) (fun x hx => h M1 x m1 hR (hx.congr (fun c _ => Wins hs)))
  refine pk_eq r 0 (fun e => sc (by omega) 1 (by omega) (fun _ => rfl)) (fun n0 => pk_eq r 1 (fun e => sc (by omega) 0 (fun _ => rfl) (by omega)) (fun n1 => pk_eq r 2 (fun e => sc (by omega) 1 (by omega) (fun _ => rfl)) (fun n2 => pk_eq r 3 (fun e => ?_) (fun n3 => pk_eq r 4 (fun e => ?_) (fun n4 => pk_eq r 5 (fun e => sc (by omega) 0 (fun _ => rfl) (by omega)) (fun n5 => pk_eq r 6 (fun e => sc (by omega) 1 (by omega) (fun _ => rfl)) (fun n6 => pk_eq r 7 (fun e => ?_) (fun n7 => pk_eq r 8 (fun e => ?_) (fun n8 => pk_eq r 9 (fun e => ?_) (fun n9 => pk_eq r 10 (fun e => ?_) (fun n10 => ?_)))))))))))
  · subst e
    exact sp_Mrunoff hL1 hR hg (by omega) (fun x hx => h M1 x m1 hR (hx.congr (fun c _ => Win3)))
  · subst e
    exact sp_eliminate hL1 hg (by omega) (fun M' x k1 _ hx => h M' x (m1.trans (off_mw k1 (by decide))) (off_RT k1 (by decide) hR) (hx.congr (fun c _ => Win4)))
  · subst e
    exact sp_pathWinners hL1 hR hg hF (fun M' x k1 hx => h M' x (m1.trans (off_mw k1 (by decide))) (off_RT k1 (by decide) hR) (hx.congr (fun c _ => Win7)))
  · subst e
    exact sp_lockWinners hL1 hR hg (by omega) (fun M' x k1 hx => h M' x (m1.trans (off_mw k1 (by decide))) (off_RT k1 (by decide) hR) (hx.congr (fun c _ => Win8)))
  · subst e
    exact sp_agreeing hL1 hR hg (by omega) (fun M' x k1 hx => h M' x (m1.trans k1.mw) (k1.RT hR) (hx.congr (fun c _ => Win9)))
  · subst e
    exact sp_Muncovered hL1 hR hg (by omega) (fun x hx => h M1 x m1 hR (hx.congr (fun c _ => Win10)))
  · have e : r = 11 := by omega
    subst e
    exact sp_byAgenda hL1 hR hg (by omega) (h M1 _ m1 hR ((iS.one hn (sy_lt hg (by omega))).congr (fun c _ => Win11)))
theorem sp_work {F r : Nat} {P : pv} {M : om_M} {Q : Int32 → om_M → Prop} (hL : RL M P) (hg : gd P) (hr : r < 12) (hF : 100000000 ≤ F) (h : ∀ M' x, mw M M' → iS P.n x (Win P r) → Q x M') : wp_M_work F 71 (nI r) M Q := sp_work2 hL hg hr hF (fun M' x m _ hx => h M' x m hx)
theorem sp_theWinner {F o r : Nat} {P : pv} {M : om_M} {Q : Int32 → om_M → Prop} (hP : RP o M P) (hg : gd P) (ho : o = 1 ∨ o = 49) (ht : ta M) (hr : r < 12) (hF : 1000 ≤ F) (h : ∀ M' k, cr M M' → hd P.n P.ti (Win P r) k → Q (nI (P.ti k)) M') : wp_R_theWinner F 22 o (nI r) M Q :=
  sp_cwin hP hg ho ht hr hF (fun M' x c1 hx => sp_firstInTie (c1.RP ho hP) hg hx (by omega) (fun k hk => h M' k c1 hk) (fun q => by
    obtain ⟨c, hc, hw⟩ := Win.ex hg hr
    exact absurd hw (q c hc)))
theorem iv_7 {F : Nat} (hF : 100000000 ≤ F) (M : om_M) (a1 a2 a3 : Int32) (h : II M) : wl_7 F 0 71 89 a1 a2 a3 M II := by
  show wp_L_winners F 0 a1 89 1 M (fun r2 M1 => wp_M_winners F 71 a1 M1 (fun r4 M3 => lt_i II r2 r4 M3))
  obtain ⟨⟨P, hg, hP, hM⟩, -⟩ := id h
  have hn := hg.gn
  refine sp_isRule (fun r hr e => ⟨fun e => absurd e (by decide), fun _ => ?_⟩) (fun q => ⟨fun _ => ⟨fun _ => ?_, fun e => absurd rfl e⟩, fun e => absurd rfl e⟩)
  · subst e
    refine sp_cwin (o := 0 + 1) hP hg.gd (Or.inl rfl) h.ta hr (by omega) (fun M1 x c1 hx => ⟨pk_in 0 1 (by decide), ?_⟩)
    show wp_M_winners F 71 (nI r) (om_ul M1 89 0 x.toInt64) _
    have e71 : (om_ul M1 89 0 x.toInt64).1 71 = M.1 71 := c1.1 71 (by omega)
    have hM1 : RM (om_ul M1 89 0 x.toInt64) P := hM.congr (fun q _ _ => c1.1 q (by omega)) (by rw [e71]) (by rw [e71])
    refine sp_misRule (fun _ _ _ => ?_) (fun q => absurd rfl (q r hr))
    refine sp_goes (fun e => absurd e (by decide)) (fun _ e => absurd e (by decide)) (fun _ _ => ⟨fun e => absurd e (by decide), fun _ => ?_⟩)
    refine sp_load (P := P) (RM.up0 hM1) hn hg.gT (by omega) (fun M2 k1 k2 => sp_work k2 hg.gd hr hF (fun M3 y l1 hy => ?_))
    have exy : x = y := hx.uniq hy (fun c _ => Iff.rfl)
    subst exy
    refine lt_ok ?_ ?_ (II.asked (M1' := om_ul M1 89 0 x.toInt64) h (c1.cq h.ta) rfl ((mq.th.trans k1.mq).trans l1.mq))
    · rw [l1.1 71 (by omega), k1.2.1 0 (by decide) (by decide)]; exact pu_up1
    · rw [l1.2 89 (by decide), k1.2.2]; exact ul_out (M := M1)
  · refine sp_misRule (fun r hr e => absurd e (q r hr)) (fun _ => ?_)
    exact sp_goes (fun _ => ⟨fun _ => lt_bad (by decide) pu_up1 h.thrown, fun e => absurd rfl e⟩) (fun e => absurd rfl e) (fun e => absurd rfl e)
theorem iv_8 {F : Nat} (hF : 100000000 ≤ F) (M : om_M) (a1 a2 a3 : Int32) (h : II M) : wl_8 F 0 71 89 a1 a2 a3 M II := by
  show wp_L_winner F 0 a1 89 1 M (fun r2 M1 => wp_M_winner F 71 a1 M1 (fun r4 M3 => lt_i II r2 r4 M3))
  obtain ⟨⟨P, hg, hP, hM⟩, -⟩ := id h
  have hn := hg.gn
  refine sp_isRule (fun r hr e => ⟨fun e => absurd e (by decide), fun _ => ?_⟩) (fun q => ⟨fun _ => ⟨fun _ => ?_, fun e => absurd rfl e⟩, fun e => absurd rfl e⟩)
  · subst e
    refine sp_theWinner (o := 0 + 1) hP hg.gd (Or.inl rfl) h.ta hr (by omega) (fun M1 k c1 hk => ⟨pk_in 0 1 (by decide), ?_⟩)
    show wp_M_winner F 71 (nI r) (om_ul M1 89 0 (nI (P.ti k)).toInt64) _
    have e71 : (om_ul M1 89 0 (nI (P.ti k)).toInt64).1 71 = M.1 71 := c1.1 71 (by omega)
    have hM1 : RM (om_ul M1 89 0 (nI (P.ti k)).toInt64) P := hM.congr (fun q _ _ => c1.1 q (by omega)) (by rw [e71]) (by rw [e71])
    refine sp_misRule (fun _ _ _ => ?_) (fun q => absurd rfl (q r hr))
    refine sp_goes (fun e => absurd e (by decide)) (fun _ e => absurd e (by decide)) (fun _ _ => ⟨fun e => absurd e (by decide), fun _ => ?_⟩)
    refine sp_load (P := P) (RM.up0 hM1) hn hg.gT (by omega) (fun M2 k1 k2 => sp_work k2 hg.gd hr hF (fun M3 y l1 hy => ?_))
    refine sp_firstOf (l1.RL k2) hg.gd hy (Win.ex hg.gd hr) (by omega) (fun k' hk' => ?_)
    rw [hk'.uniq hk]
    refine lt_ok ?_ ?_ (II.asked (M1' := om_ul M1 89 0 (nI (P.ti k)).toInt64) h (c1.cq h.ta) rfl ((mq.th.trans k1.mq).trans l1.mq))
    · rw [l1.1 71 (by omega), k1.2.1 0 (by decide) (by decide)]; exact pu_up1
    · rw [l1.2 89 (by decide), k1.2.2]; exact ul_out (M := M1)
  · refine sp_misRule (fun r hr e => absurd e (q r hr)) (fun _ => ?_)
    exact sp_goes (fun _ => ⟨fun _ => lt_bad (by decide) pu_up1 h.thrown, fun e => absurd rfl e⟩) (fun e => absurd rfl e) (fun e => absurd rfl e)
