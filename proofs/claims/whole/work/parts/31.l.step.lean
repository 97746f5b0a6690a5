/-! elimination: winners, branches, step -/
theorem cr.cq {M M' : om_M} (h : cr M M') (t : ta M) : cq M M' := ⟨fun q hq => h.1 q (by omega), h.2.1, h.2.2 t⟩
theorem sp_Ewinners {F o : Nat} {P : pv} {M : om_M} {Q : Int32 → om_M → Prop} (hP : RP o M P) (hg : gd P) (ho : o = 1 ∨ o = 49) (hF : 1000 ≤ F) (h : ∀ M' x, cr M M' → iS P.n x (fun c => Lr P 0 (2 ^ c)) → Q x M') : wp_E_winnerSet F 23 o M Q := by
  have hn := hg.2.1
  have hb := p2n hg
  refine sp_spread hP hg ho hF (fun M1 j1 j2 => ?_)
  have hP1 := j1.cr.RP ho hP
  refine pu_loop P.n (fun i z => ∃ x, z = (M1, x, nI i) ∧ iS P.n x (fun c => c < i ∧ Lr P 0 (2 ^ c))) (fun a z K hi hJ hK => ?_) (i := 0) (by omega) (by omega) ⟨0, rfl, iS.no.congr (fun c _ => ⟨fun q => absurd q.1 (by omega), fun q => q.elim⟩)⟩
  obtain ⟨x, rfl, hs⟩ := hJ
  refine pk_le P.n a (fun hle => ?_) (fun ha => ?_) hP1.1
  · have e : a = P.n := by omega
    subst e
    exact h M1 x j1.cr (hs.congr (fun c hc => ⟨fun q => ⟨hc, q⟩, fun q => q.2⟩))
  · have h2 := Nat.pow_lt_pow_right (a := 2) (by decide) ha
    have h0 := Nat.pow_pos (n := a) (show 0 < 2 by decide)
    rw [mb_one (by omega), nI_clamp (n := 2 ^ a) (by omega)]
    refine ⟨pk_in (2 ^ a) 128 (by omega), fun e => hK ha _ ⟨x, by rw [nI_1], hs.congr (fun c _ => ⟨fun q => ⟨?_, q.2⟩, fun q => ⟨by have := q.1; omega, q.2⟩⟩)⟩, fun ne => hK ha _ ⟨_, by rw [nI_1], ?_⟩⟩
    · have : c ≠ a := fun z => by subst z; exact (j2 _ h0 h2).mpr q.2 e
      have := q.1
      omega
    · rw [← mb_one (c := a) (by omega)]
      refine (hs.ins hn ha).congr (fun c _ => ⟨fun q => ?_, fun q => ?_⟩)
      · by_cases z : c = a
        · exact Or.inr z
        · exact Or.inl ⟨by have := q.1; omega, q.2⟩
      · rcases q with q | q
        · exact ⟨by have := q.1; omega, q.2⟩
        · subst q; exact ⟨by omega, (j2 _ h0 h2).mp ne⟩
noncomputable def pv.br (P : pv) (k : Nat) : Nat := su (fun s => ci (1 ≤ s ∧ Lr P 0 s) 1) k
theorem br_le {P : pv} (k : Nat) : P.br k ≤ k := by
  have := su_max (n := k) (g := fun s => ci (1 ≤ s ∧ Lr P 0 s) 1) (m := 1) (fun t _ => ci_le)
  unfold pv.br
  omega
theorem br_in {P : pv} {k : Nat} (h : Lr P 0 k) (hk : 1 ≤ k) : P.br (k + 1) = P.br k + 1 := by
  show su _ k + ci _ 1 = su _ k + 1
  rw [ci_pos ⟨hk, h⟩]
theorem br_out {P : pv} {k : Nat} (h : ¬ Lr P 0 k) : P.br (k + 1) = P.br k := by
  show su _ k + ci _ 1 = su _ k
  rw [ci_neg (fun q => h q.2)]
  rfl
theorem sp_sets {F o : Nat} {P : pv} {M : om_M} {Q : Int32 → om_M → Prop} (hP : RP o M P) (hg : gd P) (ho : o = 1 ∨ o = 49) (hF : 1000 ≤ F) (h : ∀ M', cr M M' → Q (nI (P.br (2 ^ P.n))) M') : wp_E_setsThatCanBeLeft F 23 o M Q := by
  have hn := hg.2.1
  have hb := p2n hg
  refine sp_spread hP hg ho hF (fun M1 j1 j2 => ?_)
  have hP1 := j1.cr.RP ho hP
  refine pu_loop (2 ^ P.n) (fun i z => 1 ≤ i ∧ z = (M1, nI (P.br i), nI i)) (fun s z K hi hJ hK => ?_) (i := 1) (by omega) (by omega) ⟨by omega, ?_⟩
  · obtain ⟨h1, rfl⟩ := hJ
    show ((((1 : Int32) <<< ((M1.1 o 5) &&& 31)) - 1) < nI s → Q (nI (P.br s)) M1) ∧ (¬ (((1 : Int32) <<< ((M1.1 o 5) &&& 31)) - 1) < nI s → _)
    rw [hP1.1, mb_all (by omega)]
    refine pk_lt (2 ^ P.n - 1) s (fun hlt => ?_) (fun hge => ⟨pk_in s 128 (by omega), ?_⟩)
    · rw [show s = 2 ^ P.n by omega]; exact h M1 j1.cr
    · show (M1.1 (23 + 1) (nI s).toNatClampNeg = 0 → _) ∧ (¬ M1.1 (23 + 1) (nI s).toNatClampNeg = 0 → _)
      rw [nI_clamp (n := s) (by omega)]
      refine ⟨fun e => hK (by omega) _ ⟨by omega, ?_⟩, fun ne => hK (by omega) _ ⟨by omega, ?_⟩⟩
      · rw [br_out (fun q => (j2 s h1 (by omega)).mpr q e), nI_1]
      · rw [br_in ((j2 s h1 (by omega)).mp ne) h1, nI_1, nI_1]
  · rw [show P.br 1 = 0 by
      show su _ 0 + ci _ 1 = 0
      rw [ci_neg (fun q => absurd q.1 (by decide))]
      rfl]
    rfl
theorem sp_work4 {F : Nat} {P : pv} {M : om_M} {Q : Int32 → om_M → Prop} (hL : RL M P) (hg : gd P) (hF : 1000 ≤ F) (h : ∀ M1 M' x, pu_off 82 M M1 → pu_off 85 M1 M' → (∀ u, 1 ≤ u → u < 2 ^ P.n → (M'.1 85 u ≠ 0 ↔ Lr P 0 u)) → iS P.n x (fun c => Lr P 0 (2 ^ c)) → Q x M') : wp_M_work F 71 4 M Q := by
  refine sp_mtally hL hg.2.1 hg.2.2.1 (fun t ht => (hg.2.2.2.2.1 t ht).1) hF (fun M1 j1 _ => ?_)
  refine pk_eq 4 0 (fun e => absurd e (by decide)) (fun _ => pk_eq 4 1 (fun e => absurd e (by decide)) (fun _ => pk_eq 4 2 (fun e => absurd e (by decide)) (fun _ => pk_eq 4 3 (fun e => absurd e (by decide)) (fun _ => pk_eq 4 4 (fun _ => ?_) (fun e => absurd rfl e)))))
  exact sp_eliminate (j1.RL (by decide) hL) hg hF (fun M' x k1 k2 k3 => h M1 M' x j1 k1 k2 k3)
theorem off_mq {o : Nat} {M M' : om_M} (h : pu_off o M M') (ho : 77 ≤ o ∧ o < 89) : mq M M' := ⟨fun q hq => h.1 q (by omega), fun k _ _ _ => congrFun (h.1 71 (by omega)) k, by rw [h.2]⟩
theorem iv_12 {F : Nat} (hF : 10000 ≤ F) (M : om_M) (a1 a2 a3 : Int32) (h : II M) : wl_12 F 0 71 89 a1 a2 a3 M II := by
  obtain ⟨⟨P, hg, hP, hM⟩, -⟩ := id h
  have hn := hg.gn
  have hb := p2n hg.gd
  refine sp_sets (o := 0 + 1) hP hg.gd (Or.inl rfl) (by omega) (fun M1 c1 => ?_)
  have hM1 : RM M1 P := hM.congr (fun q _ _ => c1.1 q (by omega)) (by rw [c1.1 71 (by omega)]) (by rw [c1.1 71 (by omega)])
  refine sp_load (P := P) hM1.up0 hn hg.gT (by omega) (fun M2 k1 k2 => ?_)
  refine sp_work4 k2 hg.gd (by omega) (fun M3 M4 x l1 l2 l3 l4 => ?_)
  have hL4 : RL M4 P := l2.RL (by decide) (l1.RL (by decide) k2)
  refine pu_loop (2 ^ P.n) (fun i z => 1 ≤ i ∧ z = (M4, nI (P.br i), nI i)) (fun s z K hi hJ hK => ?_) (i := 1) (by omega) (by omega) ⟨by omega, ?_⟩
  · obtain ⟨h1, rfl⟩ := hJ
    show ((((1 : Int32) <<< ((M4.1 71 8) &&& 31)) - 1) < nI s → ((nI (P.br (2 ^ P.n)) = nI (P.br s) → II M4) ∧ (¬ nI (P.br (2 ^ P.n)) = nI (P.br s) → False))) ∧ (¬ (((1 : Int32) <<< ((M4.1 71 8) &&& 31)) - 1) < nI s → _)
    rw [hL4.1, mb_all (by omega)]
    refine pk_lt (2 ^ P.n - 1) s (fun hlt => ?_) (fun hge => ⟨pk_in s 128 (by omega), ?_⟩)
    · rw [show s = 2 ^ P.n by omega]
      refine ⟨fun _ => ?_, fun e => e rfl⟩
      exact II.asked h (c1.cq h.ta) rfl (((mq.th.trans k1.mq).trans (off_mq l1 (by decide))).trans (off_mq l2 (by decide)))
    · show (M4.1 (71 + 14) (nI s).toNatClampNeg = 0 → _) ∧ (¬ M4.1 (71 + 14) (nI s).toNatClampNeg = 0 → _)
      rw [nI_clamp (n := s) (by omega)]
      refine ⟨fun e => hK (by omega) _ ⟨by omega, ?_⟩, fun ne => hK (by omega) _ ⟨by omega, ?_⟩⟩
      · rw [br_out (fun q => (l3 s h1 (by omega)).mpr q e), nI_1]
      · rw [br_in ((l3 s h1 (by omega)).mp ne) h1, nI_1, nI_1]
  · rw [show P.br 1 = 0 by
      show su _ 0 + ci _ 1 = 0
      rw [ci_neg (fun q => absurd q.1 (by decide))]
      rfl]
    rfl
/-- the last of a set in the tie order -/
def lst (P : pv) (p : Nat → Prop) (k : Nat) : Prop := k < P.n ∧ p (P.ti k) ∧ ∀ j, k < j → j < P.n → ¬ p (P.ti j)
theorem lst.uniq {P : pv} {p : Nat → Prop} {j k : Nat} (h : lst P p j) (g : lst P p k) : j = k := by
  rcases Nat.lt_trichotomy j k with q | q | q
  · exact absurd g.2.1 (h.2.2 k q g.1)
  · exact q
  · exact absurd h.2.1 (g.2.2 j q h.1)
theorem sp_lastInTie {F o : Nat} {x : Int32} {p : Nat → Prop} {P : pv} {M : om_M} {Q : Int32 → om_M → Prop} (hP : RP o M P) (hg : gd P) (hx : iS P.n x p) (hne : ∃ c, c < P.n ∧ p c) (hF : 10 ≤ F) (h1 : ∀ k, lst P p k → Q (nI (P.ti k)) M) : wp_P_lastInTie F o x M Q := by
  have hn := hg.2.1
  have hn2 : 2 ≤ P.n := hg.1
  have ho := hg.2.2.2.2.2.1
  obtain ⟨c, hc, hp⟩ := hne
  obtain ⟨k0, hk0, e0⟩ := ho.onto hc
  unfold wp_P_lastInTie
  rw [hP.1, show nI P.n - 1 = nI (P.n - 1) from pk_sub (a := P.n) (b := 1) (by omega)]
  refine pu_loop (P.n - 1 - k0) (fun i z => z = (M, nI (P.n - 1 - i)) ∧ ∀ j, P.n - 1 - i < j → j < P.n → ¬ p (P.ti j)) (fun i z K hi hJ hK => ?_) (i := 0) (by omega) (by omega) ⟨rfl, fun j q1 q2 => absurd q1 (by omega)⟩
  obtain ⟨rfl, hj⟩ := hJ
  obtain ⟨s, es⟩ : ∃ s, s = P.n - 1 - i := ⟨_, rfl⟩
  rw [← es] at hj ⊢
  refine ⟨fun q => absurd q (nI_pos (by omega)), fun _ => ?_⟩
  show wp_O_at F (M.1 o 7) (nI s) M _
  rw [hP.2.2.1]
  refine sp_at ho.1 hn (by omega) ?_
  refine hx.br0 hn (ho.1 s (by omega)) (fun np => hK ?_ _ ⟨?_, fun j q1 q2 => ?_⟩) (fun hps => h1 s ⟨by omega, hps, fun j q1 q2 => hj j q1 q2⟩)
  · rcases Nat.lt_or_ge i (P.n - 1 - k0) with z | z
    · exact z
    · have : s = k0 := by omega
      subst this
      exact absurd (by rw [e0]; exact hp) np
  · have : s ≠ 0 := fun z => by
      have : k0 = 0 := by omega
      subst this
      subst z
      exact np (by rw [e0]; exact hp)
    rw [show s = P.n - 1 - (i + 1) + 1 by omega]
    exact congrArg (Prod.mk M) (pk_m1 _)
  · by_cases e : j = s
    · subst e; exact np
    · exact hj j (by omega) q2
/-- who is left after i have gone -/
def Sg (P : pv) : Nat → Nat → Prop
  | 0 => fun _ => True
  | i + 1 => fun d => Sg P i d ∧ ¬ ∃ k, lst P (Wk P (Sg P i)) k ∧ P.ti k = d
theorem Wk.ex {P : pv} {p : Nat → Prop} (h : ∃ c, c < P.n ∧ p c) : ∃ c, c < P.n ∧ Wk P p c := by
  obtain ⟨c, hc, hp⟩ := h
  obtain ⟨m, ⟨c0, q1, q2, q3⟩, hm⟩ := pk_least (fun m => ∃ c, c < P.n ∧ p c ∧ P.ld p c = m) ⟨_, c, hc, hp, rfl⟩
  refine ⟨c0, q1, q2, fun d hd hpd => ?_⟩
  rw [q3]
  rcases Nat.lt_or_ge (P.ld p d) m with z | z
  · exact absurd ⟨d, hd, hpd, rfl⟩ (hm _ z)
  · exact z
theorem lst.ex {P : pv} (hg : gd P) {p : Nat → Prop} (h : ∃ c, c < P.n ∧ p c) : ∃ k, lst P p k := by
  obtain ⟨c, hc, hp⟩ := h
  obtain ⟨k, hk, e⟩ := hg.2.2.2.2.2.1.onto hc
  obtain ⟨m, ⟨q1, q2, q3⟩, hm⟩ := pk_least (fun m => m < P.n ∧ 0 < P.n ∧ p (P.ti (P.n - 1 - m))) ⟨P.n - 1 - k, by omega, by omega, by rw [show P.n - 1 - (P.n - 1 - k) = k by omega, e]; exact hp⟩
  refine ⟨P.n - 1 - m, by omega, q3, fun j h1 h2 hpj => ?_⟩
  exact hm (P.n - 1 - j) (by omega) ⟨by omega, q2, by rw [show P.n - 1 - (P.n - 1 - j) = j by omega]; exact hpj⟩
theorem Sg.cnt {P : pv} (hg : gd P) : ∀ i, i ≤ P.n → su (fun d => ci (Sg P i d) 1) P.n = P.n - i
  | 0, _ => by
    rw [su_congr (g := fun d => ci (Sg P 0 d) 1) (h := fun _ => 1) (fun t _ => ci_pos (p := Sg P 0 t) trivial)]
    have : ∀ n, su (fun _ => 1) n = n := fun n => by
      induction n with
      | zero => rfl
      | succ n ih => show su _ n + 1 = n + 1; rw [ih]
    rw [this]
    rfl
  | i + 1, hi => by
    have ih := Sg.cnt hg i (by omega)
    have hex : ∃ c, c < P.n ∧ Sg P i c := by
      apply Classical.byContradiction
      intro q
      rw [su_zero (fun t ht => ci_neg (fun z => q ⟨t, ht, z⟩))] at ih
      omega
    obtain ⟨k, hk⟩ := lst.ex hg (Wk.ex hex)
    have ht := hg.2.2.2.2.2.1.1 k hk.1
    have e1 := su_uf (g := fun d => ci (Sg P i d) 1) (v := 0) (n := P.n) ht
    have e2 : ci (Sg P i (P.ti k)) 1 = 1 := ci_pos hk.2.1.1
    rw [e2, ih] at e1
    rw [su_congr (h := uf (fun d => ci (Sg P i d) 1) (P.ti k) 0) (fun d hd => ?_)]
    · omega
    · by_cases e : d = P.ti k
      · subst e
        rw [uf_s]
        exact ci_neg (fun q => q.2 ⟨k, hk, rfl⟩)
      · rw [uf_n e]
        by_cases q : Sg P i d
        · rw [ci_pos q]
          exact ci_pos ⟨q, fun ⟨k', h1, h2⟩ => e (by rw [← h2, h1.uniq hk])⟩
        · rw [ci_neg q]
          exact ci_neg (fun z => q z.1)
theorem Sg.ex {P : pv} (hg : gd P) {i : Nat} (hi : i < P.n) : ∃ c, c < P.n ∧ Sg P i c := by
  apply Classical.byContradiction
  intro q
  have ih := Sg.cnt hg i (by omega)
  rw [su_zero (fun t ht => ci_neg (fun z => q ⟨t, ht, z⟩))] at ih
  omega
theorem Sg.next {P : pv} {i k : Nat} (hk : lst P (Wk P (Sg P i)) k) (d : Nat) : Sg P (i + 1) d ↔ (Sg P i d ∧ d ≠ P.ti k) :=
  ⟨fun q => ⟨q.1, fun e => q.2 ⟨k, hk, e.symm⟩⟩, fun q => ⟨q.1, fun ⟨k', h1, h2⟩ => q.2 (by rw [← h2, h1.uniq hk])⟩⟩
theorem sp_goerAt {F o k : Nat} {P : pv} {M : om_M} {Q : Int32 → om_M → Prop} (hP : RP o M P) (hg : gd P) (ho : o = 1 ∨ o = 49) (hk : k < P.n) (hF : 100 ≤ F) (h : ∀ M' j, cr M M' → lst P (Wk P (Sg P k)) j → Q (nI (P.ti j)) M') : wp_E_goerAt F 23 o (nI k) M Q := by
  have hn := hg.2.1
  have ho2 := hg.2.2.2.2.2.1
  show wp_E_goerAt_8 F 23 o (nI k) Q M (((1 : Int32) <<< ((M.1 o 5) &&& 31)) - 1) 0
  rw [hP.1]
  refine pu_loop k (fun i z => ∃ x, z.2 = (x, nI i) ∧ cr M z.1 ∧ iS P.n x (Sg P i)) (fun i z K hi hJ hK => ?_) (i := 0) (by omega) (by omega) ⟨_, rfl, cr.refl, iS.every hn⟩
  obtain ⟨M1, y⟩ := z
  obtain ⟨x, rfl, j1, hs⟩ := hJ
  have hP1 := j1.RP ho hP
  have c25 : ∀ M2, pu_off 25 M1 M2 → cr M M2 := fun M2 l => j1.trans (s24.cr ⟨fun q _ h2 => l.1 q h2, l.2⟩)
  refine pk_le k i (fun hle => ?_) (fun hlt => ?_)
  · have e : i = k := by omega
    subst e
    exact sp_goers hP1 hg ho hs hF (fun M2 g l1 l2 => sp_lastInTie ((c25 M2 l1).RP ho hP) hg l2 (Wk.ex (Sg.ex hg hk)) (by omega) (fun j hj => h M2 j (c25 M2 l1) hj))
  · exact sp_goers hP1 hg ho hs hF (fun M2 g l1 l2 => sp_lastInTie ((c25 M2 l1).RP ho hP) hg l2 (Wk.ex (Sg.ex hg (by omega))) (by omega) (fun j hj => hK hlt _ ⟨_, by rw [nI_1], c25 M2 l1, (hs.del hn (ho2.1 j hj.1)).congr (fun d _ => Sg.next hj d)⟩))
theorem wl_13_eq {F : Nat} {a1 a2 a3 : Int32} {M : om_M} {I : om_M → Prop} : wl_13 F 0 71 89 a1 a2 a3 M I = wp_L_step F 0 a1 89 1 M (fun r2 M1 => wp_M_step F 71 a1 M1 (fun r4 M3 => lt_i I r2 r4 M3)) := rfl
theorem iv_13 {F : Nat} (hF : 10000 ≤ F) (M : om_M) (a1 a2 a3 : Int32) (h : II M) : wl_13 F 0 71 89 a1 a2 a3 M II := by
  rw [wl_13_eq]
  obtain ⟨⟨P, hg, hP, hM⟩, -⟩ := id h
  have hn := hg.gn
  have hn2 : 2 ≤ P.n := hg.1
  have e1 : ∀ M' : om_M, M'.1 71 1 = nI P.n → M'.1 71 1 - 1 = nI (P.n - 1) := fun M' e => by rw [e]; exact pk_sub (a := P.n) (b := 1) (by omega)
  have bad : (∀ c, c < P.n → a1 ≠ nI c) → wp_D_step_19 F 0 a1 (fun r3 M1 => vp_in 0 1 ∧ wp_M_step F 71 a1 (om_ul M1 89 (0 : Int32).toNatClampNeg ((r3 : Int32).toInt64)) (fun r4 M3 => lt_i II 0 r4 M3)) (fun k M2 => ((k = 0 → wp_M_step F 71 a1 M2 (fun r4 M3 => lt_i II 1 r4 M3)) ∧ (¬ k = 0 → False))) M := by
    intro hb
    refine ⟨fun _ => ⟨fun _ => ?_, fun e => absurd rfl e⟩, fun e => absurd rfl e⟩
    refine sp_win0 (n := P.n - 1) (e1 M hM.1) (by omega) (fun c hc e => absurd e (hb c (by omega))) (fun _ => ?_)
    exact sp_goes (fun _ => ⟨fun _ => lt_bad (by decide) pu_up1 h.thrown, fun e => absurd rfl e⟩) (fun e => absurd rfl e) (fun e => absurd rfl e)
  refine ⟨fun q => bad (fun t ht e => absurd q (e ▸ nI_pos (by omega))), fun q => ?_⟩
  obtain ⟨k, hk2, rfl⟩ := nI_of q
  refine pk_le P.n k (fun hle => bad (fun s hs e => by have := (nI_eq hk2 (by omega)).mp e; omega)) (fun hk => ⟨fun e => absurd e (by decide), fun _ => ?_⟩) hP.1
  refine sp_goerAt (o := 0 + 1) hP hg.gd (Or.inl rfl) hk (by omega) (fun M1 j c1 hj => ⟨pk_in 0 1 (by decide), ?_⟩)
  show wp_M_step F 71 (nI k) (om_ul M1 89 0 (nI (P.ti j)).toInt64) _
  have e71 : (om_ul M1 89 0 (nI (P.ti j)).toInt64).1 71 = M.1 71 := c1.1 71 (by omega)
  have hM1 : RM (om_ul M1 89 0 (nI (P.ti j)).toInt64) P := hM.congr (fun q _ _ => c1.1 q (by omega)) (by rw [e71]) (by rw [e71])
  refine sp_win0 (n := P.n - 1) (e1 _ hM1.1) (by omega) (fun _ _ _ => ?_) (fun q => absurd rfl (q k (by omega)))
  refine sp_goes (fun e => absurd e (by decide)) (fun _ e => absurd e (by decide)) (fun _ _ => ⟨fun e => absurd e (by decide), fun _ => ?_⟩)
  refine sp_load (P := P) (RM.up0 hM1) hn hg.gT (by omega) (fun M2 k1 k2 => ?_)
  show wp_M_step_35 F 71 (nI k) _ M2 (((1 : Int32) <<< ((M2.1 71 8) &&& 31)) - 1) (-1) 0
  rw [k2.1]
  refine pu_loop (k + 1) (fun i z => ∃ x g, z = (M2, x, g, nI i) ∧ iS P.n x (Sg P i) ∧ (0 < i → ∃ j, lst P (Wk P (Sg P (i - 1))) j ∧ g = nI (P.ti j))) (fun i z K hi hJ hK => ?_) (i := 0) (by omega) (by omega) ⟨_, _, rfl, iS.every hn, fun q => absurd q (by omega)⟩
  obtain ⟨x, g, rfl, hs, hgo⟩ := hJ
  refine pk_lt k i (fun hlt => ?_) (fun hge => ?_)
  · have e : i = k + 1 := by omega
    subst e
    obtain ⟨j', hj', rfl⟩ := hgo (by omega)
    rw [Nat.add_sub_cancel] at hj'
    rw [hj'.uniq hj]
    refine lt_ok ?_ ?_ (II.asked (M1' := om_ul M1 89 0 (nI (P.ti j)).toInt64) h (c1.cq h.ta) rfl ?_)
    · show M2.1 71 0 = 0
      rw [k1.2.1 0 (by decide) (by decide)]; exact pu_up1
    · show M2.2 89 0 = _
      rw [k1.2.2]; exact ul_out (M := M1)
    · exact mq.th.trans k1.mq
  · refine sp_weakest k2 hg.gd hs (by omega) (fun w hw => ?_)
    obtain ⟨k0, hk0⟩ := lst.ex hg.gd (Wk.ex (Sg.ex hg.gd (i := i) (by omega)))
    refine pu_loop P.n (fun m z => ∃ g : Int32, z = (M2, g, nI m) ∧ (k0 < m → g = nI (P.ti k0))) (fun m z K2 hm hJ hK2 => ?_) (i := 0) (by omega) (by omega) ⟨g, rfl, fun q => absurd q (by omega)⟩
    obtain ⟨g, rfl, hg2⟩ := hJ
    refine pk_le P.n m (fun hle => ?_) (fun hlt => ⟨pk_in m 7 (by omega), ?_⟩) k2.1
    · have eg := hg2 (by have := hk0.1; omega)
      subst eg
      exact hK (by omega) _ ⟨_, _, by rw [nI_1], (hs.del hn (hg.2.2.2.2.2.1.1 k0 hk0.1)).congr (fun d _ => Sg.next hk0 d), fun _ => ⟨k0, by rw [Nat.add_sub_cancel]; exact hk0, rfl⟩⟩
    · rw [nI_clamp (n := m) (by omega), show (M2, g, nI m).1.1 (71 + 8) m = nI (P.ti m) from k2.2.2.2.2.1 m hlt]
      refine hw.br1 hn (hg.2.2.2.2.2.1.1 m hlt) (fun hp => hK2 hlt _ ⟨_, by rw [nI_1], fun q => ?_⟩) (fun np => hK2 hlt _ ⟨g, by rw [nI_1], fun q => ?_⟩)
      · rcases Nat.lt_or_ge k0 m with z | z
        · exact absurd hp (hk0.2.2 m z hlt)
        · rw [show m = k0 by omega]
      · refine hg2 ?_
        have : m ≠ k0 := fun e => np (e ▸ hk0.2.1)
        omega
