/-! uncovered, agenda -/
/-- the scratch of the class's rules -/
def cr (M M' : om_M) : Prop := (∀ q, (q < 23 ∨ 49 ≤ q) → M'.1 q = M.1 q) ∧ M'.2 = M.2 ∧ (ta M → ta M')
theorem cr.refl {M : om_M} : cr M M := ⟨fun _ _ => rfl, rfl, id⟩
theorem cr.trans {M M' M'' : om_M} (h : cr M M') (g : cr M' M'') : cr M M'' := ⟨fun q hq => (g.1 q hq).trans (h.1 q hq), g.2.1.trans h.2.1, fun t => g.2.2 (h.2.2 t)⟩
theorem cr.up {M M' : om_M} {o k : Nat} {v : Int32} (h : cr M M') (ho : 23 ≤ o ∧ o < 49) (hk : ¬ (39 ≤ o ∧ o < 48 ∧ k = 0)) : cr M (om_up M' o k v) := by
  refine ⟨fun q hq => by rw [om_up_n _ _ (by omega)]; exact h.1 q hq, h.2.1, fun t => ?_⟩
  obtain ⟨t1, t2⟩ := h.2.2 t
  refine ⟨?_, fun c hc => ?_⟩
  · by_cases e : o = 39
    · subst e; rw [pu_up2 (by omega)]; exact t1
    · rw [om_up_n _ _ (by omega)]; exact t1
  · by_cases e : o = 41 + c
    · subst e; rw [pu_up2 (by omega)]; exact t2 c hc
    · rw [om_up_n _ _ (by omega)]; exact t2 c hc
theorem cr.RP {M M' : om_M} {o : Nat} {P : pv} (h : cr M M') (ho : o = 1 ∨ o = 49) (g : RP o M P) : RP o M' P := g.congr (fun q _ _ => h.1 q (by omega))
theorem iS.and {n : Nat} {x y : Int32} {p q : Nat → Prop} (h : iS n x p) (g : iS n y q) : iS n (x &&& y) (fun c => p c ∧ q c) := by
  obtain ⟨s, h1, rfl, h3⟩ := h
  obtain ⟨t, g1, rfl, g3⟩ := g
  refine ⟨s &&& t, Nat.lt_of_le_of_lt Nat.and_le_left h1, mb_and s t, fun c hc => ?_⟩
  rw [Nat.testBit_and, Bool.and_eq_true, h3 c hc, g3 c hc]
def cov (P : pv) (a b : Nat) : Prop := P.bt a b ∧ ∀ c, c < P.n → P.bt b c → P.bt a c
def Wun (P : pv) (b : Nat) : Prop := ∀ a, a < P.n → ¬ cov P a b
theorem sp_beatenBy {F o a : Nat} {P : pv} {M : om_M} {Q : Int32 → om_M → Prop} (hP : RP o M P) (hg : gd P) (ha : a < P.n) (hF : 10 ≤ F) (h : ∀ x, iS P.n x (P.bt a) → Q x M) : wp_P_beatenBy F o (nI a) M Q := by
  have hn := hg.2.1
  refine pu_loop P.n (fun i z => ∃ x, z = (M, x, nI i) ∧ iS P.n x (fun c => c < i ∧ P.bt a c)) (fun b z K hi hJ hK => ?_) (i := 0) (by omega) (by omega) ⟨0, rfl, iS.no.congr (fun c _ => ⟨fun q => absurd q.1 (by omega), fun q => q.elim⟩)⟩
  obtain ⟨x, rfl, hs⟩ := hJ
  refine pk_le P.n b (fun hle => ?_) (fun hb => ?_) hP.1
  · have e : b = P.n := by omega
    subst e
    exact h x (hs.congr (fun c hc => ⟨fun q => ⟨hc, q⟩, fun q => q.2⟩))
  · refine sp_beats hP hg (by omega) (by omega) (fun hbt => ⟨fun e => absurd e (by decide), fun _ => hK hb _ ⟨_, by rw [nI_1], (hs.ins hn hb).congr (fun c _ => ⟨fun q => ?_, fun q => ?_⟩)⟩⟩) (fun hbt => ⟨fun _ => hK hb _ ⟨x, by rw [nI_1], hs.congr (fun c _ => ⟨fun q => ?_, fun q => ⟨by have := q.1; omega, q.2⟩⟩)⟩, fun e => absurd rfl e⟩)
    · rcases Nat.lt_or_ge c b with z | z
      · exact Or.inl ⟨z, q.2⟩
      · exact Or.inr (by have := q.1; omega)
    · rcases q with q | q
      · exact ⟨by have := q.1; omega, q.2⟩
      · subst q; exact ⟨by omega, hbt⟩
    · rcases Nat.lt_or_ge c b with z | z
      · exact ⟨z, q.2⟩
      · have : c = b := by have := q.1; omega
        subst this
        exact absurd q.2 hbt
theorem sp_Runcovered {F o : Nat} {P : pv} {M : om_M} {Q : Int32 → om_M → Prop} (hP : RP o M P) (hg : gd P) (ho : o = 1 ∨ o = 49) (hF : 10 ≤ F) (h : ∀ M' x, cr M M' → iS P.n x (Wun P) → Q x M') : wp_R_uncovered F 22 o M Q := by
  have hn := hg.2.1
  refine pu_loop P.n (fun i z => z.2 = nI i ∧ cr M z.1 ∧ ∀ a, a < i → iS P.n (z.1.1 48 a) (P.bt a)) (fun a z K hi hJ hK => ?_) (i := 0) (by omega) (by omega) ⟨rfl, cr.refl, fun a ha => absurd ha (by omega)⟩
  obtain ⟨M1, y⟩ := z
  obtain ⟨rfl, j1, j2⟩ := hJ
  have hP1 := j1.RP ho hP
  refine pk_le P.n a (fun hle => ?_) (fun ha => ?_) hP1.1
  · have e : a = P.n := by omega
    subst e
    show wp_R_uncovered_34 F 22 o Q M1 (((1 : Int32) <<< ((M1.1 o 5) &&& 31)) - 1) 0
    rw [hP1.1]
    refine pu_loop P.n (fun i z => ∃ x, z = (M1, x, nI i) ∧ iS P.n x (fun b => ∀ a, a < i → ¬ cov P a b)) (fun a z K hi hJ hK => ?_) (i := 0) (by omega) (by omega) ⟨_, rfl, (iS.every hn).congr (fun c _ => ⟨fun _ => trivial, fun _ a ha => absurd ha (by omega)⟩)⟩
    obtain ⟨x, rfl, hs⟩ := hJ
    refine pk_le P.n a (fun hle => ?_) (fun ha => ?_) hP1.1
    · have e : a = P.n := by omega
      subst e
      exact h M1 x j1 hs
    · refine pu_loop P.n (fun j z => ∃ x, z = (M1, x, nI j) ∧ iS P.n x (fun b => (∀ a', a' < a → ¬ cov P a' b) ∧ (b < j → ¬ cov P a b))) (fun b z K2 hj hJ hK2 => ?_) (i := 0) (by omega) (by omega) ⟨x, rfl, hs.congr (fun c _ => ⟨fun q => q.1, fun q => ⟨q, fun z => absurd z (by omega)⟩⟩)⟩
      obtain ⟨x, rfl, hs⟩ := hJ
      refine pk_le P.n b (fun hle => ?_) (fun hb => ⟨pk_in b 7 (by omega), pk_in a 7 (by omega), ?_⟩) hP1.1
      · refine hK ha _ ⟨x, by rw [nI_1], hs.congr (fun c hc => ⟨fun q => ⟨fun a' h' => q a' (by omega), fun _ => q a (by omega)⟩, fun q a' h' => ?_⟩)⟩
        by_cases z : a' = a
        · subst z; exact q.2 (by omega)
        · exact q.1 a' (by omega)
      · rw [nI_clamp (n := a) (by omega), nI_clamp (n := b) (by omega)]
        have sa := j2 a ha
        have sb := j2 b hb
        have eq : ((M1.1 (22 + 26) a) &&& ((M1.1 (22 + 26) b) ||| ((1 : Int32) <<< (nI b &&& 31)))) = ((M1.1 (22 + 26) b) ||| ((1 : Int32) <<< (nI b &&& 31))) ↔ cov P a b := by
          have s1 := sb.ins hn hb
          have s2 := sa.and s1
          constructor
          · intro e
            have s3 := s2
            rw [show ((M1, nI P.n).1.1 48 a &&& ((M1, nI P.n).1.1 48 b ||| 1 <<< (nI b &&& 31))) = _ from e] at s3
            have := s3.same hn s1
            refine ⟨((this b hb).mpr (Or.inr rfl)).1, fun c hc q => ((this c hc).mpr (Or.inl q)).1⟩
          · intro q
            refine s2.uniq s1 (fun c hc => ⟨fun z => z.2, fun z => ⟨?_, z⟩⟩)
            rcases z with z | z
            · exact q.2 c hc z
            · subst z; exact q.1
        refine ⟨fun e => hK2 hb _ ⟨_, by rw [nI_1], (hs.del hn hb).congr (fun c _ => ⟨fun q => ?_, fun q => ?_⟩)⟩, fun ne => hK2 hb _ ⟨x, by rw [nI_1], hs.congr (fun c _ => ⟨fun q => ⟨q.1, fun z => q.2 (by omega)⟩, fun q => ⟨q.1, fun z => ?_⟩⟩)⟩⟩
        · exact ⟨⟨q.1, fun z => q.2 (by omega)⟩, fun z => by subst z; exact q.2 (by omega) (eq.mp e)⟩
        · refine ⟨q.1.1, fun z => q.1.2 ?_⟩
          have := q.2
          omega
        · by_cases y : c = b
          · subst y; exact fun w => ne (eq.mpr w)
          · exact q.2 (by omega)
  · refine sp_beatenBy hP1 hg ha hF (fun x hx => ⟨pk_in a 7 (by omega), hK ha _ ⟨by rw [nI_1], j1.up (by omega) (by omega), fun c hc => ?_⟩⟩)
    rw [nI_clamp (n := a) (by omega)]
    by_cases e : c = a
    · subst e; rw [pu_up1]; exact hx
    · rw [pu_up2 e]; exact j2 c (by omega)
theorem sp_Muncovered {F : Nat} {P : pv} {M : om_M} {Q : Int32 → om_M → Prop} (hL : RL M P) (hR : RT M P) (hg : gd P) (hF : 10 ≤ F) (h : ∀ x, iS P.n x (Wun P) → Q x M) : wp_M_uncovered F 71 M Q := by
  have hn := hg.2.1
  show wp_M_uncovered_7 F 71 Q M (((1 : Int32) <<< ((M.1 71 8) &&& 31)) - 1) 0
  rw [hL.1]
  refine pu_loop P.n (fun i z => ∃ x, z = (M, x, nI i) ∧ iS P.n x (fun b => ∀ a, a < i → ¬ cov P a b)) (fun a z K hi hJ hK => ?_) (i := 0) (by omega) (by omega) ⟨_, rfl, (iS.every hn).congr (fun c _ => ⟨fun _ => trivial, fun _ a ha => absurd ha (by omega)⟩)⟩
  obtain ⟨x, rfl, hs⟩ := hJ
  refine pk_le P.n a (fun hle => ?_) (fun ha => ?_) hL.1
  · have e : a = P.n := by omega
    subst e
    exact h x hs
  · refine pu_loop P.n (fun j z => ∃ x, z = (M, x, nI j) ∧ iS P.n x (fun b => (∀ a', a' < a → ¬ cov P a' b) ∧ (b < j → ¬ cov P a b))) (fun b z K2 hj hJ hK2 => ?_) (i := 0) (by omega) (by omega) ⟨x, rfl, hs.congr (fun c _ => ⟨fun q => q.1, fun q => ⟨q, fun z => absurd z (by omega)⟩⟩)⟩
    obtain ⟨x, rfl, hs⟩ := hJ
    refine pk_le P.n b (fun hle => ?_) (fun hb => ?_) hL.1
    · refine hK ha _ ⟨x, by rw [nI_1], hs.congr (fun c hc => ⟨fun q => ⟨fun a' h' => q a' (by omega), fun _ => q a (by omega)⟩, fun q a' h' => ?_⟩)⟩
      by_cases z : a' = a
      · subst z; exact q.2 (by omega)
      · exact q.1 a' (by omega)
    · have run : ∀ y0 : Int32, ((y0 = 1 ∧ P.bt a b) ∨ (y0 = 0 ∧ ¬ P.bt a b)) → wp_M_uncovered_44 F 71 Q (nI a) K K2 M x (nI b) y0 := by
        intro y0 h0
        refine pu_loop P.n (fun j z => ∃ y : Int32, z = (M, y, nI j) ∧ ((y = 1 ∧ P.bt a b ∧ ∀ c, c < j → P.bt b c → P.bt a c) ∨ (y = 0 ∧ ¬ cov P a b))) (fun j z K3 hj hJ hK3 => ?_) (i := 0) (by omega) (by omega) ⟨y0, rfl, h0.elim (fun q => Or.inl ⟨q.1, q.2, fun c hc => absurd hc (by omega)⟩) (fun q => Or.inr ⟨q.1, fun z => q.2 z.1⟩)⟩
        obtain ⟨y, rfl, hy⟩ := hJ
        refine pk_le P.n j (fun hle => ?_) (fun hlt => ?_) hL.1
        · refine ⟨fun e => hK2 hb _ ⟨x, by rw [nI_1], hs.congr (fun c _ => ⟨fun q => ⟨q.1, fun z => q.2 (by omega)⟩, fun q => ⟨q.1, fun z => ?_⟩⟩)⟩, fun ne => hK2 hb _ ⟨_, by rw [nI_1], (hs.del hn hb).congr (fun c _ => ⟨fun q => ?_, fun q => ?_⟩)⟩⟩
          · by_cases w : c = b
            · subst w; exact (hy.resolve_left (fun q => absurd (q.1.symm.trans e) (by decide))).2
            · exact q.2 (by omega)
          · have hc := hy.resolve_right (fun q => ne q.1)
            exact ⟨⟨q.1, fun z => q.2 (by omega)⟩, fun z => by subst z; exact q.2 (by omega) ⟨hc.2.1, fun d hd => hc.2.2 d (by omega)⟩⟩
          · refine ⟨q.1.1, fun z => q.1.2 ?_⟩
            have := q.2
            omega
        · have no : ¬ cov P a b → wp_M_uncovered_99 F 71 Q (nI a) x (nI b) K K2 K3 M (nI j) := fun hm => hK3 hlt _ ⟨0, by rw [nI_1], Or.inr ⟨rfl, hm⟩⟩
          refine ⟨fun e => no (hy.resolve_left (fun q => absurd (q.1.symm.trans e) (by decide))).2, fun ne => ?_⟩
          have hy1 := hy.resolve_right (fun q => ne q.1)
          have yes : (P.bt b j → P.bt a j) → wp_M_uncovered_95 F 71 Q (nI a) x (nI b) K K2 K3 M (nI j) := fun hh => hK3 hlt _ ⟨1, by rw [nI_1], Or.inl ⟨rfl, hy1.2.1, fun c hc => by
            by_cases z : c = j
            · subst z; exact hh
            · exact hy1.2.2 c (by omega)⟩⟩
          refine pk_eq j a (fun e => yes (fun q => by subst e; exact absurd q (bt_asym hy1.2.1))) (fun na => pk_eq j b (fun e => yes (fun q => by subst e; exact absurd q bt_irr)) (fun nb => ?_))
          refine sp_mbeats hR hg (by omega) (by omega) (fun h1 => ⟨fun e => absurd e (by decide), fun _ => ?_⟩) (fun h1 => ⟨fun _ => yes (fun q => absurd q h1), fun e => absurd rfl e⟩)
          exact sp_mbeats hR hg (by omega) (by omega) (fun h2 => ⟨fun e => absurd e (by decide), fun _ => yes (fun _ => h2)⟩) (fun h2 => ⟨fun _ => no (fun z => h2 (z.2 j hlt h1)), fun e => absurd rfl e⟩)
      refine pk_eq a b (fun e => run 0 (Or.inr ⟨rfl, by subst e; exact bt_irr⟩)) (fun ne => ?_)
      exact sp_mbeats hR hg (by omega) (by omega) (fun h1 => ⟨fun e => absurd e (by decide), fun _ => run 1 (Or.inl ⟨rfl, h1⟩)⟩) (fun h1 => ⟨fun _ => run 0 (Or.inr ⟨rfl, h1⟩), fun e => absurd rfl e⟩)
/-- agenda -/
def tpl (P : pv) (c : Nat) : Nat := su (fun k => if P.ti k = c then k else 0) P.n
theorem tpl_eq {P : pv} (hg : gd P) {k : Nat} (hk : k < P.n) : tpl P (P.ti k) = k := by
  unfold tpl
  rw [su_one (t := k) hk (fun s hs hne => if_neg (fun q => hne (hg.2.2.2.2.2.1.2 s k hs hk q))), if_pos rfl]
def sy (P : pv) : Nat → Nat
  | 0 => P.ag 0
  | k + 1 => if P.ah (sy P k) (P.ag (k + 1)) < P.ah (P.ag (k + 1)) (sy P k) ∨ (¬ P.ah (P.ag (k + 1)) (sy P k) < P.ah (sy P k) (P.ag (k + 1)) ∧ tpl P (P.ag (k + 1)) < tpl P (sy P k)) then P.ag (k + 1) else sy P k
theorem sy_nx {P : pv} {k : Nat} (h : P.bt (P.ag (k + 1)) (sy P k) ∨ (¬ P.bt (sy P k) (P.ag (k + 1)) ∧ tpl P (P.ag (k + 1)) < tpl P (sy P k))) : sy P (k + 1) = P.ag (k + 1) := if_pos h
theorem sy_st {P : pv} {k : Nat} (h : ¬ (P.bt (P.ag (k + 1)) (sy P k) ∨ (¬ P.bt (sy P k) (P.ag (k + 1)) ∧ tpl P (P.ag (k + 1)) < tpl P (sy P k)))) : sy P (k + 1) = sy P k := if_neg h
theorem sy_ag (P : pv) : ∀ k, ∃ j, j ≤ k ∧ sy P k = P.ag j
  | 0 => ⟨0, Nat.le_refl _, rfl⟩
  | k + 1 => by
    obtain ⟨j, hj, e⟩ := sy_ag P k
    by_cases h : P.bt (P.ag (k + 1)) (sy P k) ∨ (¬ P.bt (sy P k) (P.ag (k + 1)) ∧ tpl P (P.ag (k + 1)) < tpl P (sy P k))
    · exact ⟨k + 1, Nat.le_refl _, sy_nx h⟩
    · exact ⟨j, by omega, (sy_st h).trans e⟩
theorem sy_lt {P : pv} (hg : gd P) {k : Nat} (hk : k < P.n) : sy P k < P.n := by
  obtain ⟨j, hj, e⟩ := sy_ag P k
  rw [e]
  exact hg.2.2.2.2.2.2.1.1 j (by omega)
theorem sp_lastToStay {F o : Nat} {P : pv} {M : om_M} {Q : Int32 → om_M → Prop} (hP : RP o M P) (hg : gd P) (hF : 10 ≤ F) (h : Q (nI (sy P (P.n - 1))) M) : wp_R_lastToStay F o M Q := by
  have hn := hg.2.1
  have hn2 : 2 ≤ P.n := hg.1
  have hag := hg.2.2.2.2.2.2.1
  unfold wp_R_lastToStay
  rw [hP.2.2.2.1]
  refine sp_at (k := 0) hag.1 hn (by omega) ?_
  refine pu_loop P.n (fun i z => 1 ≤ i ∧ z = (M, nI (sy P (i - 1)), nI i)) (fun i z K hi hJ hK => ?_) (i := 1) (by omega) (by omega) ⟨by omega, rfl⟩
  obtain ⟨hi1, rfl⟩ := hJ
  obtain ⟨k, rfl⟩ : ∃ k, i = k + 1 := ⟨i - 1, by omega⟩
  rw [Nat.add_sub_cancel] at hK ⊢
  refine pk_le P.n (k + 1) (fun hle => ?_) (fun hlt => ?_) hP.1
  · rw [show P.n - 1 = k by omega] at h
    exact h
  · have hs := sy_lt hg (k := k) (by omega)
    have ha := hag.1 (k + 1) hlt
    show wp_O_at F (M.1 o 8) (nI (k + 1)) M _
    rw [hP.2.2.2.1]
    refine sp_at hag.1 hn hlt ?_
    have go : ∀ v, v = sy P (k + 1) → wp_R_lastToStay_63 F o Q K M (nI v) (nI (k + 1)) := fun v hv => hK hlt _ ⟨by omega, by subst hv; rw [nI_1]⟩
    refine sp_beats hP hg (by omega) (by omega) (fun h1 => ⟨fun e => absurd e (by decide), fun _ => go _ (sy_nx (Or.inl h1)).symm⟩) (fun h1 => ⟨fun _ => ?_, fun e => absurd rfl e⟩)
    refine sp_beats hP hg (by omega) (by omega) (fun h2 => ⟨fun e => absurd e (by decide), fun _ => go _ (sy_st (fun q => q.elim h1 (fun q => q.1 h2))).symm⟩) (fun h2 => ⟨fun _ => ?_, fun e => absurd rfl e⟩)
    refine sp_firstInTie hP hg ((iS.one hn hs).ins hn ha) hF (fun j hj => go _ ?_) (fun q => absurd (Or.inl rfl) (q (sy P k) hs))
    have hne : sy P k ≠ P.ag (k + 1) := fun e => by
      obtain ⟨i, hi, ei⟩ := sy_ag P k
      have := hag.2 i (k + 1) (by omega) hlt (ei.symm.trans e)
      omega
    obtain ⟨js, hjs, es⟩ := hg.2.2.2.2.2.1.onto hs
    obtain ⟨jn, hjn, en⟩ := hg.2.2.2.2.2.1.onto ha
    have t1 := tpl_eq hg hjs
    have t2 := tpl_eq hg hjn
    rw [es] at t1
    rw [en] at t2
    rcases hj.2.1 with q | q
    · rw [q]
      refine (sy_st (fun z => z.elim h1 (fun z => ?_))).symm
      have : j = js := hg.2.2.2.2.2.1.2 j js hj.1 hjs (q.trans es.symm)
      subst this
      exact hj.2.2 jn (by omega) (Or.inr en)
    · rw [q]
      refine (sy_nx (Or.inr ⟨h2, ?_⟩)).symm
      have : j = jn := hg.2.2.2.2.2.1.2 j jn hj.1 hjn (q.trans en.symm)
      subst this
      rcases Nat.lt_or_ge j js with w | w
      · omega
      · have h3 : js ≠ j := fun e => by
          subst e
          exact hne (es.symm.trans en)
        exact absurd (Or.inl es) (hj.2.2 js (by omega))
theorem sp_byAgenda {F : Nat} {P : pv} {M : om_M} {Q : Int32 → om_M → Prop} (hL : RL M P) (hR : RT M P) (hg : gd P) (hF : 10 ≤ F) (h : Q ((1 : Int32) <<< (nI (sy P (P.n - 1)) &&& 31)) M) : wp_M_byAgenda F 71 M Q := by
  have hn := hg.2.1
  have hn2 : 2 ≤ P.n := hg.1
  have hag := hg.2.2.2.2.2.2.1
  refine ⟨pk_in 0 7 (by decide), ?_⟩
  rw [show M.1 (71 + 9) (0 : Int32).toNatClampNeg = nI (P.ag 0) from hL.2.2.2.2.2.1 0 (by omega)]
  refine pu_loop P.n (fun i z => 1 ≤ i ∧ z = (M, nI (sy P (i - 1)), nI i)) (fun i z K hi hJ hK => ?_) (i := 1) (by omega) (by omega) ⟨by omega, rfl⟩
  obtain ⟨hi1, rfl⟩ := hJ
  obtain ⟨k, rfl⟩ : ∃ k, i = k + 1 := ⟨i - 1, by omega⟩
  rw [Nat.add_sub_cancel] at hK ⊢
  refine pk_le P.n (k + 1) (fun hle => ?_) (fun hlt => ⟨pk_in (k + 1) 7 (by omega), ?_⟩) hL.1
  · rw [show P.n - 1 = k by omega] at h
    exact h
  · have hs := sy_lt hg (k := k) (by omega)
    have ha := hag.1 (k + 1) hlt
    rw [nI_clamp (n := k + 1) (by omega), show (M, nI (sy P k), nI (k + 1)).1.1 (71 + 9) (k + 1) = nI (P.ag (k + 1)) from hL.2.2.2.2.2.1 (k + 1) hlt]
    have nx : sy P (k + 1) = P.ag (k + 1) → wp_M_byAgenda_55 F 71 Q K M (nI (sy P k)) (nI (k + 1)) (nI (P.ag (k + 1))) := fun e => ⟨fun q => absurd q (by decide), fun _ => hK hlt _ ⟨by omega, by rw [e, nI_1]⟩⟩
    have st : sy P (k + 1) = sy P k → wp_M_byAgenda_59 F 71 Q K M (nI (sy P k)) (nI (k + 1)) (nI (P.ag (k + 1))) := fun e => ⟨fun _ => hK hlt _ ⟨by omega, by rw [e, nI_1]⟩, fun q => absurd rfl q⟩
    refine sp_mbeats hR hg (by omega) (by omega) (fun h1 => ⟨fun e => absurd e (by decide), fun _ => nx (sy_nx (Or.inl h1))⟩) (fun h1 => ⟨fun _ => ?_, fun e => absurd rfl e⟩)
    refine sp_mbeats hR hg (by omega) (by omega) (fun h2 => ⟨fun e => absurd e (by decide), fun _ => st (sy_st (fun q => q.elim h1 (fun q => q.1 h2)))⟩) (fun h2 => ⟨fun _ => ?_, fun e => absurd rfl e⟩)
    refine sp_tiePlace hL hg ha hF (fun jn hjn en => sp_tiePlace hL hg hs hF (fun js hjs es => ?_))
    have t1 := tpl_eq hg hjs
    have t2 := tpl_eq hg hjn
    rw [es] at t1
    rw [en] at t2
    exact pk_le js jn (fun q => st (sy_st (fun z => z.elim h1 (fun z => by omega)))) (fun q => nx (sy_nx (Or.inr ⟨h2, by omega⟩)))
