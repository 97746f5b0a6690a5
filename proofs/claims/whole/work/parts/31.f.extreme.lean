/-! who wins by score -/
def bet (r x y : Nat) : Prop := ((r = 1 ∨ r = 5) → x ≤ y) ∧ (¬ (r = 1 ∨ r = 5) → y ≤ x)
theorem bet.tot (r x y : Nat) : bet r x y ∨ bet r y x := by
  by_cases h : r = 1 ∨ r = 5
  · rcases Nat.le_total x y with q | q
    · exact Or.inl ⟨fun _ => q, fun n => absurd h n⟩
    · exact Or.inr ⟨fun _ => q, fun n => absurd h n⟩
  · rcases Nat.le_total x y with q | q
    · exact Or.inr ⟨fun n => absurd n h, fun _ => q⟩
    · exact Or.inl ⟨fun n => absurd n h, fun _ => q⟩
theorem bet.refl (r x : Nat) : bet r x x := ⟨fun _ => Nat.le_refl _, fun _ => Nat.le_refl _⟩
theorem bet.trans {r x y z : Nat} (h : bet r x y) (g : bet r y z) : bet r x z := ⟨fun q => Nat.le_trans (h.1 q) (g.1 q), fun q => Nat.le_trans (g.2 q) (h.2 q)⟩
theorem bet.anti {r x y : Nat} (h : bet r x y) (g : bet r y x) : x = y := by
  by_cases q : r = 1 ∨ r = 5
  · exact Nat.le_antisymm (h.1 q) (g.1 q)
  · exact Nat.le_antisymm (g.2 q) (h.2 q)
def Wsc (P : pv) (r c : Nat) : Prop := ∀ d, d < P.n → bet r (P.sc r c) (P.sc r d)
theorem sp_Cwinners {F o r : Nat} {P : pv} {M : om_M} {Q : Int32 → om_M → Prop} (hP : RP o M P) (hg : gd P) (hr : r < 12) (hF : 10 ≤ F) (h : ∀ x, iS P.n x (Wsc P r) → Q x M) : wp_C_winnerSet F o (nI r) M Q := by
  have hn := hg.2.1
  have hn2 : 2 ≤ P.n := hg.1
  have key : ∀ x2 : Int32, ((r = 1 ∨ r = 5) → x2 = 1) → (¬ (r = 1 ∨ r = 5) → x2 = 0) → wp_C_winnerSet_15 F o (nI r) Q M x2 := by
    intro x2 g1 g0
    refine pu_loop P.n (fun i z => ∃ x b, z = (M, x, lN b, nI i) ∧ b < 2 ^ 63 ∧ iS P.n x (fun c => c < i ∧ ∀ d, d < i → bet r (P.sc r c) (P.sc r d)) ∧ (0 < i → (∃ c, c < i ∧ P.sc r c = b) ∧ ∀ d, d < i → bet r b (P.sc r d))) (fun i z K hi hJ hK => ?_) (i := 0) (by omega) (by omega) ⟨0, 0, rfl, by decide, iS.no.congr (fun c _ => ⟨fun q => absurd q.1 (by omega), fun q => q.elim⟩), fun q => absurd q (by omega)⟩
    obtain ⟨x, b, rfl, hb, hs, hm⟩ := hJ
    refine pk_le P.n i (fun hle => ?_) (fun hlt => ?_) hP.1
    · have e : i = P.n := by omega
      subst e
      exact h x (hs.congr (fun c hc => ⟨fun q => ⟨hc, q⟩, fun q => q.2⟩))
    · refine sp_Cof hP hg hr hlt hF ?_
      have ho := sc_le hg r i
      have alone : (i = 0 ∨ ¬ bet r b (P.sc r i)) → wp_C_winnerSet_69 F o (nI r) Q x2 K M (nI i) (lN (P.sc r i)) := by
        intro hc
        have up : ∀ d, d < i → bet r (P.sc r i) (P.sc r d) ∧ ¬ bet r (P.sc r d) (P.sc r i) := fun d hd => by
          rcases hc with q | q
          · omega
          · have h1 := (hm (by omega)).2 d hd
            have h2 : bet r (P.sc r i) b := (bet.tot r b (P.sc r i)).elim (fun z => absurd z q) id
            exact ⟨h2.trans h1, fun z => q (h1.trans z)⟩
        refine hK hlt _ ⟨_, P.sc r i, by rw [nI_1], by omega, (iS.one hn hlt).congr (fun c hc => ⟨fun q => ?_, fun q => ?_⟩), fun _ => ⟨⟨i, by omega, rfl⟩, fun d hd => ?_⟩⟩
        · rcases Nat.lt_or_ge c i with z | z
          · exact absurd (q.2 i (by omega)) (up c z).2
          · have := q.1; omega
        · subst q
          refine ⟨by omega, fun d hd => ?_⟩
          by_cases e : d = c
          · subst e; exact bet.refl _ _
          · exact (up d (by omega)).1
        · by_cases e : d = i
          · subst e; exact bet.refl _ _
          · exact (up d (by omega)).1
      have others : 0 < i → bet r b (P.sc r i) → wp_C_winnerSet_81 F o (nI r) Q x2 K M x (lN b) (nI i) (lN (P.sc r i)) := by
        intro hi0 hbi
        obtain ⟨⟨c0, hc0, e0⟩, hm2⟩ := hm hi0
        refine pkl_eq (P.sc r i) b (fun e => hK hlt _ ⟨_, b, by rw [nI_1], hb, (hs.ins hn hlt).congr (fun c hc => ⟨fun q => ?_, fun q => ?_⟩), fun _ => ⟨⟨c0, by omega, e0⟩, fun d hd => ?_⟩⟩) (fun ne => hK hlt _ ⟨x, b, by rw [nI_1], hb, hs.congr (fun c hc => ⟨fun q => ?_, fun q => ?_⟩), fun _ => ⟨⟨c0, by omega, e0⟩, fun d hd => ?_⟩⟩)
        · by_cases z : c = i
          · exact Or.inr z
          · exact Or.inl ⟨by have := q.1; omega, fun d hd => q.2 d (by omega)⟩
        · rcases q with q | q
          · refine ⟨by omega, fun d hd => ?_⟩
            by_cases z : d = i
            · subst z
              have := q.2 c0 hc0
              rw [e0] at this
              rw [e]; exact this
            · exact q.2 d (by omega)
          · subst q
            refine ⟨by omega, fun d hd => ?_⟩
            by_cases z : d = c
            · subst z; exact bet.refl _ _
            · rw [e]; exact hm2 d (by omega)
        · by_cases z : d = i
          · subst z; exact hbi
          · exact hm2 d (by omega)
        · by_cases z : c = i
          · subst z
            have := q.2 c0 (by omega)
            rw [e0] at this
            exact absurd (this.anti hbi) ne
          · exact ⟨by have := q.1; omega, fun d hd => q.2 d (by omega)⟩
        · refine ⟨by omega, fun d hd => ?_⟩
          by_cases z : d = i
          · subst z
            have := q.2 c0 hc0
            rw [e0] at this
            exact this.trans hbi
          · exact q.2 d (by omega)
        · by_cases z : d = i
          · subst z; exact hbi
          · exact hm2 d (by omega)
      refine ⟨fun ex => ?_, fun nx => ?_⟩
      · refine alone (Or.inl ?_)
        rcases Nat.eq_zero_or_pos i with z | z
        · exact z
        · obtain ⟨⟨c0, hc0, e0⟩, hm2⟩ := hm z
          exact absurd ⟨hc0, fun d hd => by rw [e0]; exact hm2 d hd⟩ ((hs.zero hn).mp ex c0 (by omega))
      · have hi0 : 0 < i := by
          rcases Nat.eq_zero_or_pos i with z | z
          · subst z
            exact absurd ((hs.zero hn).mpr (fun c _ q => absurd q.1 (by omega))) nx
          · exact z
        by_cases q : r = 1 ∨ r = 5
        · refine ⟨fun e => absurd (e ▸ g1 q) (by decide), fun _ => ?_⟩
          exact pkl_lt (P.sc r i) b (fun z => alone (Or.inr (fun y => by have := y.1 q; omega))) (fun z => others hi0 ⟨fun _ => z, fun n => absurd q n⟩)
        · refine ⟨fun _ => ?_, fun e => absurd (g0 q) e⟩
          exact pkl_lt b (P.sc r i) (fun z => alone (Or.inr (fun y => by have := y.2 q; omega))) (fun z => others hi0 ⟨fun n => absurd n q, fun _ => z⟩)
  refine pk_eq r 1 (fun e => key 1 (fun _ => rfl) (fun n => absurd (Or.inl e) n)) (fun n1 => pk_eq r 5 (fun e => key 1 (fun _ => rfl) (fun n => absurd (Or.inr e) n)) (fun n5 => key 0 (fun q => q.elim (fun q => absurd q n1) (fun q => absurd q n5)) (fun _ => rfl)))
theorem sp_extreme {F r : Nat} {x2 : Int32} {P : pv} {M : om_M} {Q : Int32 → om_M → Prop} (hL : RL M P) (hR : RT M P) (hg : gd P) (hr : r < 3 ∨ r = 5 ∨ r = 6) (g1 : (r = 1 ∨ r = 5) → x2 = 0) (g0 : ¬ (r = 1 ∨ r = 5) → x2 = 1) (hF : 100 ≤ F) (h : ∀ x, iS P.n x (Wsc P r) → Q x M) : wp_M_extreme F 71 (nI r) x2 M Q := by
  have hn := hg.2.1
  refine pu_loop P.n (fun i z => ∃ x, z = (M, x, nI i) ∧ iS P.n x (fun c => c < i ∧ Wsc P r c)) (fun a z K hi hJ hK => ?_) (i := 0) (by omega) (by omega) ⟨0, rfl, iS.no.congr (fun c _ => ⟨fun q => absurd q.1 (by omega), fun q => q.elim⟩)⟩
  obtain ⟨x, rfl, hs⟩ := hJ
  refine pk_le P.n a (fun hle => ?_) (fun ha => ?_) hL.1
  · have e : a = P.n := by omega
    subst e
    exact h x (hs.congr (fun c hc => ⟨fun q => ⟨hc, q⟩, fun q => q.2⟩))
  · refine pu_loop P.n (fun j z => ∃ y : Int32, z = (M, y, nI j) ∧ ((y = 1 ∧ ∀ d, d < j → bet r (P.sc r a) (P.sc r d)) ∨ (y = 0 ∧ ∃ d, d < j ∧ ¬ bet r (P.sc r a) (P.sc r d)))) (fun j z K2 hj hJ hK2 => ?_) (i := 0) (by omega) (by omega) ⟨1, rfl, Or.inl ⟨rfl, fun d hd => absurd hd (by omega)⟩⟩
    obtain ⟨y, rfl, hy⟩ := hJ
    refine pk_le P.n j (fun hle => ?_) (fun hlt => ?_) hL.1
    · have e : j = P.n := by omega
      subst e
      refine ⟨fun e => hK ha _ ⟨x, by rw [nI_1], hs.congr (fun c hc => ⟨fun q => ?_, fun q => ⟨by have := q.1; omega, q.2⟩⟩)⟩, fun ne => hK ha _ ⟨_, by rw [nI_1], (hs.ins hn ha).congr (fun c hc => ⟨fun q => ?_, fun q => ?_⟩)⟩⟩
      · refine ⟨?_, q.2⟩
        rcases Nat.lt_or_ge c a with z | z
        · exact z
        · have : c = a := by have := q.1; omega
          subst this
          rcases hy with hy | ⟨-, d, hd, hd2⟩
          · exact absurd (hy.1.symm.trans e) (by decide)
          · exact absurd (q.2 d hd) hd2
      · rcases Nat.lt_or_ge c a with z | z
        · exact Or.inl ⟨z, q.2⟩
        · exact Or.inr (by have := q.1; omega)
      · rcases q with q | q
        · exact ⟨by have := q.1; omega, q.2⟩
        · subst q
          rcases hy with hy | hy
          · exact ⟨by omega, hy.2⟩
          · exact absurd hy.1 ne
    · have yes : (y = 1 ∧ ∀ d, d < j → bet r (P.sc r a) (P.sc r d)) → bet r (P.sc r a) (P.sc r j) → wp_M_extreme_77 F 71 (nI r) x2 Q x (nI a) K K2 M (nI j) := fun hy hb => hK2 hlt _ ⟨1, by rw [nI_1], Or.inl ⟨rfl, fun d hd => by
        by_cases z : d = j
        · subst z; exact hb
        · exact hy.2 d (by omega)⟩⟩
      have nope : (∃ d, d < j + 1 ∧ ¬ bet r (P.sc r a) (P.sc r d)) → wp_M_extreme_81 F 71 (nI r) x2 Q x (nI a) K K2 M (nI j) := fun hb => hK2 hlt _ ⟨0, by rw [nI_1], Or.inr ⟨rfl, hb⟩⟩
      have b1 := sc_le hg r a
      have b2 := sc_le hg r j
      refine ⟨fun e => ?_, fun ne => ?_⟩
      · rcases hy with hy | ⟨-, d, hd, hd2⟩
        · exact absurd (hy.1.symm.trans e) (by decide)
        · exact nope ⟨d, by omega, hd2⟩
      · have hy1 := hy.resolve_right (fun q => ne q.1)
        by_cases q : r = 1 ∨ r = 5
        · refine ⟨fun _ => sp_scored hL hR hg hr hlt hF (sp_scored hL hR hg hr ha hF ?_), fun e => absurd (g1 q) e⟩
          exact pkl_lt (P.sc r j) (P.sc r a) (fun z => nope ⟨j, by omega, fun y => by have := y.1 q; omega⟩) (fun z => yes hy1 ⟨fun _ => z, fun n => absurd q n⟩)
        · refine ⟨fun e => absurd ((g0 q).symm.trans e) (by decide), fun _ => sp_scored hL hR hg hr hlt hF (sp_scored hL hR hg hr ha hF ?_)⟩
          exact pkl_lt (P.sc r a) (P.sc r j) (fun z => nope ⟨j, by omega, fun y => by have := y.2 q; omega⟩) (fun z => yes hy1 ⟨fun n => absurd n q, fun _ => z⟩)
