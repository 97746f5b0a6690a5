/-! locks: the class -/
theorem iS.or {n : Nat} {x y : Int32} {p q : Nat → Prop} (h : iS n x p) (g : iS n y q) : iS n (x ||| y) (fun c => p c ∨ q c) := by
  obtain ⟨s, h1, rfl, h3⟩ := h
  obtain ⟨t, g1, rfl, g3⟩ := g
  refine ⟨s ||| t, Nat.or_lt_two_pow h1 g1, pa_or s t, fun c hc => ?_⟩
  rw [Nat.testBit_or, Bool.or_eq_true, h3 c hc, g3 c hc]
theorem key_enc {v i j : Nat} (hv : v ≤ 2000001) (hi : i < 7) (hj : j < 7) : ((nI v <<< ((6 : Int32) &&& 31)) ||| (((7 : Int32) - nI i) <<< ((3 : Int32) &&& 31))) ||| ((7 : Int32) - nI j) = nI (v * 64 + (7 - i) * 8 + (7 - j)) := by
  rw [show (7 : Int32) - nI i = nI (7 - i) from pk_sub (a := 7) (b := i) (by omega), show (7 : Int32) - nI j = nI (7 - j) from pk_sub (a := 7) (b := j) (by omega), pk_shlN _ 6 (by decide) (by omega), pk_shlN _ 3 (by decide) (by omega), pa_or, pa_or]
  refine congrArg nI ?_
  have e1 := Nat.shiftLeft_add_eq_or_of_lt (i := 6) (b := (7 - i) * 2 ^ 3) (by omega) v
  rw [Nat.shiftLeft_eq] at e1
  rw [← e1]
  have e2 := Nat.shiftLeft_add_eq_or_of_lt (i := 3) (b := 7 - j) (by omega) (v * 8 + (7 - i))
  rw [Nat.shiftLeft_eq] at e2
  rw [show v * 2 ^ 6 + (7 - i) * 2 ^ 3 = (v * 8 + (7 - i)) * 2 ^ 3 by omega, ← e2]
theorem key_d1 {v i j : Nat} (hv : v ≤ 2000001) (hi : i < 7) (hj : j < 7) : (7 : Int32) - ((nI (v * 64 + (7 - i) * 8 + (7 - j)) >>> ((3 : Int32) &&& 31)) &&& 7) = nI i := by
  rw [pk_shrN (by omega) _ 3 (by decide), pa_and7 (Nat.lt_of_le_of_lt (Nat.div_le_self _ _) (by omega)), show (v * 64 + (7 - i) * 8 + (7 - j)) / 2 ^ 3 % 8 = 7 - i by omega]
  show nI 7 - nI (7 - i) = nI i
  rw [pk_sub (by omega)]
  congr 1
  omega
theorem key_d2 {v i j : Nat} (hv : v ≤ 2000001) (hi : i < 7) (hj : j < 7) : (7 : Int32) - (nI (v * 64 + (7 - i) * 8 + (7 - j)) &&& 7) = nI j := by
  rw [pa_and7 (by omega), show (v * 64 + (7 - i) * 8 + (7 - j)) % 8 = 7 - j by omega]
  show nI 7 - nI (7 - j) = nI j
  rw [pk_sub (by omega)]
  congr 1
  omega
theorem key_ti {P : pv} (hg : gd P) {i j : Nat} (hi : i < P.n) (hj : j < P.n) : key P (P.ti i) (P.ti j) = P.ah (P.ti i) (P.ti j) * 64 + (7 - i) * 8 + (7 - j) := by
  unfold key
  rw [tpl_eq hg hi, tpl_eq hg hj]
def col (P : pv) (i j v : Nat) : Prop := ∃ i' j', i' < P.n ∧ j' < P.n ∧ (i' < i ∨ (i' = i ∧ j' < j)) ∧ P.bt (P.ti i') (P.ti j') ∧ key P (P.ti i') (P.ti j') = v
theorem sp_collect {F o : Nat} {P : pv} {M : om_M} {Q : om_M → Prop} (hP : RP o M P) (hg : gd P) (ho : o = 1 ∨ o = 49) (hF : 100 ≤ F) (h : ∀ M' m ks, cr M M' → M'.1 35 2 = nI m → m ≤ 21 → srt M' m ks → (∀ v, (∃ x, x < m ∧ ks x = v) ↔ col P P.n 0 v) → Q M') : wp_K_collect F 35 o M Q := by
  have hn := hg.2.1
  have hti := hg.2.2.2.2.2.1
  have htp := tot_pairs hg
  refine pu_loop P.n (fun i z => ∃ m ks, z.2 = nI i ∧ cr M z.1 ∧ z.1.1 35 2 = nI m ∧ m = su (fun i => su (fun j => p01 P (P.ti i) (P.ti j)) P.n) i ∧ srt z.1 m ks ∧ ∀ v, (∃ x, x < m ∧ ks x = v) ↔ col P i 0 v) (fun i z K hi hJ hK => ?_) (i := 0) (by omega) (by omega) ⟨0, fun _ => 0, rfl, cr.refl.up (by omega) (by omega), pu_up1, rfl, ⟨fun i q => absurd q (by omega), fun i q => absurd q (by omega), fun i q => absurd q (by omega)⟩, fun v => ⟨fun ⟨x, q, _⟩ => absurd q (by omega), fun ⟨i', j', _, _, q, _⟩ => absurd q (by omega)⟩⟩
  obtain ⟨M1, y⟩ := z
  obtain ⟨m, ks, rfl, j1, j2, j3, j4, j5⟩ := hJ
  have hP1 := j1.RP ho hP
  have hmt := su_more (g := fun i => su (fun j => p01 P (P.ti i) (P.ti j)) P.n) hi
  refine pk_le P.n i (fun hle => ?_) (fun hlt => ?_) hP1.1
  · have e : i = P.n := by omega
    subst e
    exact h M1 m ks j1 j2 (by omega) j4 j5
  · show wp_O_at F (M1.1 o 7) (nI i) M1 _
    rw [hP1.2.2.1]
    refine sp_at hti.1 hn hlt ?_
    refine pu_loop P.n (fun j z => ∃ m ks, z.2 = nI j ∧ cr M z.1 ∧ z.1.1 35 2 = nI m ∧ m = su (fun i => su (fun j => p01 P (P.ti i) (P.ti j)) P.n) i + su (fun j => p01 P (P.ti i) (P.ti j)) j ∧ srt z.1 m ks ∧ ∀ v, (∃ x, x < m ∧ ks x = v) ↔ col P i j v) (fun j z K2 hj hJ hK2 => ?_) (i := 0) (by omega) (by omega) ⟨m, ks, rfl, j1, j2, j3, j4, j5⟩
    obtain ⟨M2, y⟩ := z
    obtain ⟨m, ks, rfl, k1, k2, k3, k4, k5⟩ := hJ
    have hP2 := k1.RP ho hP
    refine pk_le P.n j (fun hle => hK hlt _ ⟨m, ks, by rw [nI_1], k1, k2, ?_, k4, fun v => (k5 v).trans ⟨?_, ?_⟩⟩) (fun hltj => ?_) hP2.1
    · rw [k3, show j = P.n by omega]; rfl
    · rintro ⟨i', j', q1, q2, q3, q4, q5⟩
      exact ⟨i', j', q1, q2, by omega, q4, q5⟩
    · rintro ⟨i', j', q1, q2, q3, q4, q5⟩
      exact ⟨i', j', q1, q2, by omega, q4, q5⟩
    · show wp_O_at F (M2.1 o 7) (nI j) M2 _
      rw [hP2.2.2.1]
      refine sp_at hti.1 hn hltj ?_
      have ha := hti.1 i hlt
      have hb := hti.1 j hltj
      refine sp_beats hP2 hg (by omega) (by omega) (fun hbt => ⟨fun e => absurd e (by decide), fun _ => ⟨pk_in (P.ti i) 7 (by omega), pk_in (P.ti j) 7 (by omega), ?_⟩⟩) (fun hbt => ⟨fun _ => hK2 hltj _ ⟨m, ks, by rw [nI_1], k1, k2, ?_, k4, fun v => (k5 v).trans ⟨?_, ?_⟩⟩, fun e => absurd rfl e⟩)
      · rw [nI_clamp (n := P.ti i) (by omega), nI_clamp (n := P.ti j) (by omega), show M2.1 (o + 12 + 1 + P.ti i) (P.ti j) = _ from hP2.2.2.2.2.2.2.2.2 _ _ (by omega) (by omega), key_enc (ah_le hg _ _) (by omega) (by omega), ← key_ti hg hlt hltj]
        have cnt : m + 1 ≤ 21 := by
          have e1 : su (fun j => p01 P (P.ti i) (P.ti j)) (j + 1) = su (fun j => p01 P (P.ti i) (P.ti j)) j + 1 := by
            show su _ j + p01 P (P.ti i) (P.ti j) = _
            rw [p01_p hbt]
          have e2 := su_more (g := fun j => p01 P (P.ti i) (P.ti j)) (show j + 1 ≤ P.n by omega)
          have e3 := su_more (g := fun i => su (fun j => p01 P (P.ti i) (P.ti j)) P.n) (show i + 1 ≤ P.n by omega)
          have e4 : su (fun i => su (fun j => p01 P (P.ti i) (P.ti j)) P.n) (i + 1) = su (fun i => su (fun j => p01 P (P.ti i) (P.ti j)) P.n) i + su (fun j => p01 P (P.ti i) (P.ti j)) P.n := rfl
          omega
        refine sp_insert k1 k2 (by omega) k4 (key_lt hg _ _) (fun x hx e => ?_) hF (fun M3 kt l1 l2 l3 l4 => hK2 hltj _ ⟨m + 1, kt, by rw [nI_1], l1, l2, ?_, l3, fun v => (l4 v).trans ⟨?_, ?_⟩⟩)
        · obtain ⟨i', j', q1, q2, q3, q4, q5⟩ := (k5 _).mp ⟨x, hx, e⟩
          have := key_inj hg ⟨hti.1 i' q1, hti.1 j' q2, q4⟩ ⟨ha, hb, hbt⟩ q5
          have e1 := hti.2 i' i q1 hlt this.1
          have e2 := hti.2 j' j q2 hltj this.2
          omega
        · show _ = _ + (su _ j + p01 P (P.ti i) (P.ti j))
          rw [p01_p hbt]
          omega
        · rintro (q | q)
          · obtain ⟨i', j', q1, q2, q3, q4, q5⟩ := (k5 v).mp q
            exact ⟨i', j', q1, q2, by omega, q4, q5⟩
          · exact ⟨i, j, hlt, hltj, by omega, hbt, q.symm⟩
        · rintro ⟨i', j', q1, q2, q3, q4, q5⟩
          by_cases e : i' = i ∧ j' = j
          · obtain ⟨rfl, rfl⟩ := e
            exact Or.inr q5.symm
          · exact Or.inl ((k5 v).mpr ⟨i', j', q1, q2, by omega, q4, q5⟩)
      · rw [k3]
        show _ = _ + (su _ j + p01 P (P.ti i) (P.ti j))
        rw [p01_n hbt]
        rfl
      · rintro ⟨i', j', q1, q2, q3, q4, q5⟩
        exact ⟨i', j', q1, q2, by omega, q4, q5⟩
      · rintro ⟨i', j', q1, q2, q3, q4, q5⟩
        refine ⟨i', j', q1, q2, ?_, q4, q5⟩
        have : ¬ (i' = i ∧ j' = j) := fun e => hbt (by rw [← e.1, ← e.2]; exact q4)
        omega
theorem sp_lock {F a b : Nat} {P : pv} {E E' : Nat → Nat → Prop} {M0 M : om_M} {Q : om_M → Prop} (hg : gd P) (h0 : cr M0 M) (ha : a < P.n) (hb : b < P.n) (hE : ∀ c d, E' c d ↔ (E c d ∨ (c = a ∧ d = b))) (hu : ∀ x, x < P.n → iS P.n (M.1 37 x) (Tc E x)) (hF : 10 ≤ F) (h : ∀ M', cr M0 M' → (∀ q, q ≠ 37 → M'.1 q = M.1 q) → (∀ x, x < P.n → iS P.n (M'.1 37 x) (Tc E' x)) → Q M') : wp_K_lock F 35 (nI a) (nI b) (nI P.n) M Q := by
  have hn := hg.2.1
  refine ⟨pk_in b 7 (by omega), ?_⟩
  rw [nI_clamp (n := b) (by omega)]
  have hgn := (hu b hb).ins hn hb
  refine pu_loop P.n (fun i z => z.2 = nI i ∧ cr M0 z.1 ∧ (∀ q, q ≠ 37 → z.1.1 q = M.1 q) ∧ (∀ x, x < i → iS P.n (z.1.1 37 x) (Tc E' x)) ∧ ∀ x, i ≤ x → x < P.n → iS P.n (z.1.1 37 x) (Tc E x)) (fun i z K hi hJ hK => ?_) (i := 0) (by omega) (by omega) ⟨rfl, h0, fun _ _ => rfl, fun x hx => absurd hx (by omega), fun x _ hx => hu x hx⟩
  obtain ⟨M1, y⟩ := z
  obtain ⟨rfl, j1, j2, j3, j4⟩ := hJ
  refine pk_le P.n i (fun hle => h M1 j1 j2 (fun x hx => j3 x (by omega))) (fun hlt => ?_)
  have put : (i = a ∨ Tc E i a) → wp_K_lock_41 F 35 (nI a) (nI b) (nI P.n) Q ((M.1 (35 + 2) b) ||| ((1 : Int32) <<< (nI b &&& 31))) K M1 (nI i) := fun hc => by
    refine ⟨pk_in i 7 (by omega), ?_⟩
    rw [nI_clamp (n := i) (by omega)]
    refine hK hlt _ ⟨by rw [nI_1], j1.up (by omega) (by omega), fun q hq => by rw [om_up_n _ _ (by omega)]; exact j2 q hq, fun x hx => ?_, fun x h1 h2 => ?_⟩
    · show iS P.n ((om_up M1 37 i _).1 37 x) _
      by_cases e : x = i
      · subst e
        rw [pu_up1]
        refine ((j4 x (Nat.le_refl _) hlt).or hgn).congr (fun c _ => (Tc.add hE x c).trans ⟨?_, ?_⟩)
        · rintro (q | ⟨-, q⟩)
          · exact Or.inl q
          · exact Or.inr (q.elim Or.inr Or.inl)
        · rintro (q | q)
          · exact Or.inl q
          · exact Or.inr ⟨hc, q.elim Or.inr Or.inl⟩
      · rw [pu_up2 e]; exact j3 x (by omega)
    · show iS P.n ((om_up M1 37 i _).1 37 x) _
      rw [pu_up2 (by omega)]; exact j4 x (by omega) h2
  refine pk_eq i a (fun e => put (Or.inl e)) (fun ne => ⟨pk_in i 7 (by omega), ?_⟩)
  rw [nI_clamp (n := i) (by omega)]
  refine (j4 i (Nat.le_refl _) hlt).br0 hn ha (fun np => hK hlt _ ⟨by rw [nI_1], j1, j2, fun x hx => ?_, fun x h1 h2 => j4 x (by omega) h2⟩) (fun hp => put (Or.inr hp))
  by_cases e : x = i
  · subst e
    refine (j4 x (Nat.le_refl _) hlt).congr (fun c _ => (Tc.add hE x c).trans ⟨fun q => q.elim id (fun q => ?_), Or.inl⟩)
    exact (q.1.elim (fun z => absurd z ne) (fun z => absurd z np))
  · exact j3 x (by omega)
theorem sp_Kwinners {F o : Nat} {P : pv} {M : om_M} {Q : Int32 → om_M → Prop} (hP : RP o M P) (hg : gd P) (ho : o = 1 ∨ o = 49) (hF : 100 ≤ F) (h : ∀ M' x, cr M M' → iS P.n x (Wlk P) → Q x M') : wp_K_winnerSet F 35 o M Q := by
  have hn := hg.2.1
  have hti := hg.2.2.2.2.2.1
  refine sp_collect hP hg ho hF (fun M1 m ks j1 j2 j3 j4 j5 => ?_)
  refine sp_fill (by decide) (by omega) (fun M2 k1 k2 k3 => ?_)
  have c2 : cr M M2 := j1.trans ⟨fun q hq => k1.1 q (by omega), k1.2, fun t => ⟨by rw [k1.1 39 (by decide)]; exact t.1, fun c hc => by rw [k1.1 _ (by omega)]; exact t.2 c hc⟩⟩
  have hP2 := c2.RP ho hP
  show wp_K_winnerSet_20 F 35 o Q M2 (((1 : Int32) <<< ((M2.1 o 5) &&& 31)) - 1) 0
  rw [hP2.1]
  refine pu_loop m (fun k z => ∃ x, ∃ E : Nat → Nat → Prop, z.2 = (x, nI k) ∧ cr M z.1 ∧ (∀ q, q ≠ 37 → z.1.1 q = M2.1 q) ∧ okL P (fun a b => pr P a b ∧ ∃ i, i < k ∧ ks i = key P a b) E ∧ (∀ x, x < P.n → iS P.n (z.1.1 37 x) (Tc E x)) ∧ iS P.n x (fun c => ∀ a, ¬ E a c)) (fun k z K hi hJ hK => ?_) (i := 0) (by omega) (by omega) ⟨_, fun _ _ => False, rfl, c2, fun _ _ => rfl, fun a b => ⟨fun q => q.elim, fun q => by obtain ⟨i, q1, _⟩ := q.1.2; omega⟩, fun x hx => ?_, (iS.every hn).congr (fun c _ => ⟨fun _ => trivial, fun _ a q => q⟩)⟩
  · obtain ⟨M3, y⟩ := z
    obtain ⟨x, E, rfl, l1, l2, l3, l4, l5⟩ := hJ
    have hP3 := l1.RP ho hP
    have e35 : M3.1 35 2 = nI m := by rw [l2 35 (by decide), k1.1 35 (by decide)]; exact j2
    refine pk_le m k (fun hle => ?_) (fun hlt => ⟨pk_in k 21 (by omega), ?_⟩) e35
    · have e : k = m := by omega
      subst e
      have ok : okL P (pr P) E := fun a b => by
        rw [l3 a b]
        constructor
        · rintro ⟨q1, q2⟩
          exact ⟨q1.1, q2⟩
        · rintro ⟨q1, q2⟩
          obtain ⟨t1, e1⟩ := tpl_lt hg q1.1
          obtain ⟨t2, e2⟩ := tpl_lt hg q1.2.1
          exact ⟨⟨q1, (j5 _).mpr ⟨tpl P a, tpl P b, t1, t2, by omega, by rw [e1, e2]; exact q1.2.2, by rw [e1, e2]⟩⟩, q2⟩
      exact h M3 x l1 (l5.congr (fun c _ => Wlk.iff hg ok c))
    · obtain ⟨i, j, q1, q2, -, q4, q5⟩ := (j5 (ks k)).mp ⟨k, hlt, rfl⟩
      have ek : M3.1 36 k = nI (P.ah (P.ti i) (P.ti j) * 64 + (7 - i) * 8 + (7 - j)) := by
        rw [l2 36 (by decide), k1.1 36 (by decide), j4.1 k hlt, ← q5, key_ti hg q1 q2]
      have hv := ah_le hg (P.ti i) (P.ti j)
      have ha := hti.1 i q1
      have hb := hti.1 j q2
      rw [nI_clamp (n := k) (by omega)]
      show wp_O_at F (M3.1 o 7) ((7 : Int32) - ((M3.1 36 k >>> ((3 : Int32) &&& 31)) &&& 7)) M3 _
      rw [ek, key_d1 hv (by omega) (by omega), hP3.2.2.1]
      refine sp_at hti.1 hn q1 ?_
      show wp_O_at F (M3.1 o 7) ((7 : Int32) - (M3.1 36 k &&& 7)) M3 _
      rw [ek, key_d2 hv (by omega) (by omega), hP3.2.2.1]
      refine sp_at hti.1 hn q2 ⟨pk_in (P.ti j) 7 (by omega), ?_⟩
      rw [nI_clamp (n := P.ti j) (by omega)]
      have hpab : pr P (P.ti i) (P.ti j) := ⟨ha, hb, q4⟩
      have hgt : ∀ c d, (pr P c d ∧ ∃ i, i < k ∧ ks i = key P c d) → key P (P.ti i) (P.ti j) < key P c d := fun c d ⟨_, x, z1, z2⟩ => by
        rw [q5, ← z2]; exact j4.lt z1 hlt
      have hD' : ∀ c d, (pr P c d ∧ ∃ i, i < k + 1 ∧ ks i = key P c d) ↔ ((pr P c d ∧ ∃ i, i < k ∧ ks i = key P c d) ∨ (c = P.ti i ∧ d = P.ti j)) := fun c d => by
        constructor
        · rintro ⟨z1, x, z2, z3⟩
          by_cases e : x = k
          · subst e
            exact Or.inr (key_inj hg z1 hpab (by rw [← z3, q5]))
          · exact Or.inl ⟨z1, x, by omega, z3⟩
        · rintro (⟨z1, x, z2, z3⟩ | ⟨rfl, rfl⟩)
          · exact ⟨z1, x, by omega, z3⟩
          · exact ⟨hpab, k, by omega, q5.symm⟩
      have hne : P.ti i ≠ P.ti j := fun e => bt_irr (e ▸ q4 : P.bt (P.ti i) (P.ti i))
      refine (l4 _ hb).br0 hn ha (fun np => ?_) (fun hp => hK hlt _ ⟨x, E, by rw [nI_1], l1, l2, l3.step hg (fun c d z => z.1) hpab hgt hD' (fun c d => ⟨Or.inl, fun z => z.elim id (fun z => absurd hp.rc z.2.2)⟩), l4, l5⟩)
      have nrc : ¬ Rc E (P.ti j) (P.ti i) := fun r => r.tc.elim (fun e => hne e.symm) np
      show wp_K_lock F 35 (nI (P.ti i)) (nI (P.ti j)) (M3.1 o 5) M3 _
      rw [hP3.1]
      refine sp_lock (E' := fun c d => E c d ∨ (c = P.ti i ∧ d = P.ti j)) hg l1 ha hb (fun c d => Iff.rfl) l4 (by omega) (fun M4 n1 n2 n3 => hK hlt _ ⟨_, _, by rw [nI_1], n1, fun q hq => (n2 q hq).trans (l2 q hq), l3.step hg (fun c d z => z.1) hpab hgt hD' (fun c d => ⟨fun z => z.elim Or.inl (fun z => Or.inr ⟨z.1, z.2, nrc⟩), fun z => z.elim Or.inl (fun z => Or.inr ⟨z.1, z.2.1⟩)⟩), n3, (l5.del hn hb).congr (fun c _ => ⟨fun z => ⟨fun a q => z a (Or.inl q), fun e => z _ (Or.inr ⟨rfl, e⟩)⟩, fun z a q => q.elim (fun q => z.1 a q) (fun q => z.2 q.2)⟩)⟩)
  · show iS P.n (M2.1 37 x) _
    rw [k2 x (by omega)]
    exact iS.no.congr (fun c _ => ⟨fun ⟨_, q, _⟩ => q.elim, fun q => q.elim⟩)
