/-! runoff -/
def mee (P : pv) (a b : Nat) : Prop := ∀ e, e < P.n → e ≠ a → e ≠ b → P.pl e 0 ≤ P.pl a 0 ∧ P.pl e 0 ≤ P.pl b 0
def Rn (P : pv) (a b c : Nat) : Prop := ∃ i j, i < j ∧ j < P.n ∧ (i < a ∨ (i = a ∧ j < b)) ∧ mee P i j ∧ ((c = i ∧ ¬ P.bt j i) ∨ (c = j ∧ ¬ P.bt i j))
theorem Rn.step {P : pv} {a b c : Nat} (hab : a < b) (hb : b < P.n) : Rn P a (b + 1) c ↔ Rn P a b c ∨ (mee P a b ∧ ((c = a ∧ ¬ P.bt b a) ∨ (c = b ∧ ¬ P.bt a b))) := by
  constructor
  · rintro ⟨i, j, h1, h2, h3, h4, h5⟩
    by_cases e : i = a ∧ j = b
    · obtain ⟨rfl, rfl⟩ := e
      exact Or.inr ⟨h4, h5⟩
    · exact Or.inl ⟨i, j, h1, h2, by omega, h4, h5⟩
  · rintro (⟨i, j, h1, h2, h3, h4, h5⟩ | ⟨h4, h5⟩)
    · exact ⟨i, j, h1, h2, by omega, h4, h5⟩
    · exact ⟨a, b, hab, hb, by omega, h4, h5⟩
theorem Rn.skip {P : pv} {a c : Nat} : Rn P a (a + 1) c ↔ Rn P a 0 c := by
  constructor
  · rintro ⟨i, j, h1, h2, h3, h4, h5⟩
    exact ⟨i, j, h1, h2, by omega, h4, h5⟩
  · rintro ⟨i, j, h1, h2, h3, h4, h5⟩
    exact ⟨i, j, h1, h2, by omega, h4, h5⟩
theorem Rn.next {P : pv} {a c : Nat} : Rn P (a + 1) 0 c ↔ Rn P a P.n c := by
  constructor
  · rintro ⟨i, j, h1, h2, h3, h4, h5⟩
    exact ⟨i, j, h1, h2, by omega, h4, h5⟩
  · rintro ⟨i, j, h1, h2, h3, h4, h5⟩
    exact ⟨i, j, h1, h2, by omega, h4, h5⟩
theorem or0 (x : Int32) : x ||| 0 = x := Int32.or_zero
theorem sp_mayMeet {F o a b : Nat} {P : pv} {M : om_M} {Q : Int32 → om_M → Prop} (hP : RP o M P) (hg : gd P) (ha : a < P.n) (hb : b < P.n) (hF : 10 ≤ F) (h1 : mee P a b → Q 1 M) (h0 : ¬ mee P a b → Q 0 M) : wp_R_mayMeet F o (nI a) (nI b) M Q := by
  have hn := hg.2.1
  have b1 := pl_le hg a 0
  have b2 := pl_le hg b 0
  refine ⟨pk_in a 7 (by omega), pk_in 0 7 (by omega), pk_in b 7 (by omega), ?_⟩
  rw [nI_clamp (n := a) (by omega), nI_clamp (n := b) (by omega), show (0 : Int32).toNatClampNeg = 0 from rfl, hP.2.2.2.2.2.2.2.1 a 0 (by omega) (by omega), hP.2.2.2.2.2.2.2.1 b 0 (by omega) (by omega)]
  obtain ⟨m, em, hm1, hm2, hm3⟩ : ∃ m, (if nI (P.pl b 0) < nI (P.pl a 0) then nI (P.pl b 0) else nI (P.pl a 0)) = nI m ∧ m ≤ P.pl a 0 ∧ m ≤ P.pl b 0 ∧ (m = P.pl a 0 ∨ m = P.pl b 0) := by
    by_cases q : P.pl b 0 < P.pl a 0
    · exact ⟨P.pl b 0, by rw [if_pos (nI_lt q (by omega))], by omega, by omega, by omega⟩
    · exact ⟨P.pl a 0, by rw [if_neg (nI_nlt (by omega) (by omega))], by omega, by omega, by omega⟩
  rw [em]
  refine pu_loop P.n (fun i z => z = (M, nI i) ∧ ∀ e, e < i → e ≠ a → e ≠ b → P.pl e 0 ≤ m) (fun i z K hi hJ hK => ?_) (i := 0) (by omega) (by omega) ⟨rfl, fun e he => absurd he (by omega)⟩
  obtain ⟨rfl, hj⟩ := hJ
  have b3 := pl_le hg i 0
  have go : i < P.n → (i ≠ a → i ≠ b → P.pl i 0 ≤ m) → K (M, nI i + 1) := fun hlt hle => hK hlt _ ⟨by rw [nI_1], fun e he e1 e2 => by
    by_cases z : e = i
    · subst z; exact hle e1 e2
    · exact hj e (by omega) e1 e2⟩
  refine pk_le P.n i (fun hle => h1 (fun e he e1 e2 => ?_)) (fun hlt => pk_eq i a (fun e => go hlt (fun q => absurd e q)) (fun na => pk_eq i b (fun e => go hlt (fun _ q => absurd e q)) (fun nb => ⟨pk_in i 7 (by omega), pk_in 0 7 (by omega), ?_⟩))) hP.1
  · have := hj e (by omega) e1 e2
    omega
  · show (M.1 (o + 4 + 1 + (nI i).toNatClampNeg) (0 : Int32).toNatClampNeg ≤ nI m → _) ∧ _
    refine pk_le (P.pl i 0) m (fun q => go hlt (fun _ _ => q)) (fun q => h0 (fun z => ?_)) (by rw [nI_clamp (n := i) (by omega)]; exact hP.2.2.2.2.2.2.2.1 i 0 (by omega) (by omega))
    have := z i hlt na nb
    omega
theorem sp_Rrunoff {F o : Nat} {P : pv} {M : om_M} {Q : Int32 → om_M → Prop} (hP : RP o M P) (hg : gd P) (hF : 10 ≤ F) (h : ∀ x, iS P.n x (Rn P P.n 0) → Q x M) : wp_R_runoff F o M Q := by
  have hn := hg.2.1
  refine pu_loop P.n (fun i z => ∃ x, z = (M, x, nI i) ∧ iS P.n x (Rn P i 0)) (fun a z K hi hJ hK => ?_) (i := 0) (by omega) (by omega) ⟨0, rfl, iS.no.congr (fun c _ => ⟨fun ⟨i, j, q1, q2, q3, _⟩ => absurd q3 (by omega), fun q => q.elim⟩)⟩
  obtain ⟨x, rfl, hs⟩ := hJ
  refine pk_le P.n a (fun hle => ?_) (fun ha => ?_) hP.1
  · have e : a = P.n := by omega
    subst e
    exact h x hs
  · refine pu_loop P.n (fun j z => a < j ∧ ∃ x, z = (M, x, nI j) ∧ iS P.n x (Rn P a j)) (fun b z K2 hj hJ hK2 => ?_) (i := a + 1) (by omega) (by omega) ⟨by omega, x, by rw [nI_1], hs.congr (fun c _ => Rn.skip)⟩
    obtain ⟨hab, x, rfl, hs⟩ := hJ
    refine pk_le P.n b (fun hle => ?_) (fun hb => ?_) hP.1
    · have e : b = P.n := by omega
      subst e
      exact hK ha _ ⟨x, by rw [nI_1], hs.congr (fun c _ => Rn.next)⟩
    · refine sp_mayMeet hP hg ha hb hF (fun hm => ⟨fun e => absurd e (by decide), fun _ => ?_⟩) (fun hm => ⟨fun _ => hK2 hb _ ⟨by omega, x, by rw [nI_1], hs.congr (fun c _ => (Rn.step hab hb).trans ⟨fun q => q.elim id (fun q => absurd q.1 hm), Or.inl⟩)⟩, fun e => absurd rfl e⟩)
      have two : ∀ y, iS P.n y (fun c => Rn P a b c ∨ (c = a ∧ ¬ P.bt b a)) → wp_P_beats F o (nI a) (nI b) M (fun r2 M1 => ((r2 = 0 → wp_R_runoff_69 F o Q (nI a) K K2 M1 (nI b) y ((1 : Int32) <<< (nI b &&& 31))) ∧ (¬ r2 = 0 → wp_R_runoff_69 F o Q (nI a) K K2 M1 (nI b) y 0))) := by
        intro y hy
        refine sp_beats hP hg (by omega) (by omega) (fun hbt => ⟨fun e => absurd e (by decide), fun _ => hK2 hb _ ⟨by omega, _, by rw [nI_1], ?_⟩⟩) (fun hbt => ⟨fun _ => hK2 hb _ ⟨by omega, _, by rw [nI_1], (hy.ins hn hb).congr (fun c _ => (Rn.step hab hb).trans ?_)⟩, fun e => absurd rfl e⟩)
        · rw [or0]
          refine hy.congr (fun c _ => (Rn.step hab hb).trans ⟨fun q => ?_, fun q => ?_⟩)
          · rcases q with q | ⟨-, q | q⟩
            · exact Or.inl q
            · exact Or.inr q
            · exact absurd hbt q.2
          · rcases q with q | q
            · exact Or.inl q
            · exact Or.inr ⟨hm, Or.inl q⟩
        · constructor
          · rintro (q | ⟨-, q | q⟩)
            · exact Or.inl (Or.inl q)
            · exact Or.inl (Or.inr q)
            · exact Or.inr q.1
          · rintro ((q | q) | q)
            · exact Or.inl q
            · exact Or.inr ⟨hm, Or.inl q⟩
            · exact Or.inr ⟨hm, Or.inr ⟨q, hbt⟩⟩
      refine sp_beats hP hg (by omega) (by omega) (fun hbt => ⟨fun e => absurd e (by decide), fun _ => ?_⟩) (fun hbt => ⟨fun _ => ?_, fun e => absurd rfl e⟩)
      · unfold wp_R_runoff_50
        rw [or0]
        exact two x (hs.congr (fun c _ => ⟨fun q => q.elim id (fun q => absurd hbt q.2), Or.inl⟩))
      · exact two _ ((hs.ins hn ha).congr (fun c _ => ⟨fun q => q.elim Or.inl (fun q => Or.inr q.1), fun q => q.elim Or.inl (fun q => Or.inr ⟨q, hbt⟩)⟩))
theorem sp_Mrunoff {F : Nat} {P : pv} {M : om_M} {Q : Int32 → om_M → Prop} (hL : RL M P) (hR : RT M P) (hg : gd P) (hF : 100 ≤ F) (h : ∀ x, iS P.n x (Rn P P.n 0) → Q x M) : wp_M_runoff F 71 M Q := by
  have hn := hg.2.1
  refine pu_loop P.n (fun i z => ∃ x, z = (M, x, nI i) ∧ iS P.n x (Rn P i 0)) (fun a z K hi hJ hK => ?_) (i := 0) (by omega) (by omega) ⟨0, rfl, iS.no.congr (fun c _ => ⟨fun ⟨i, j, q1, q2, q3, _⟩ => absurd q3 (by omega), fun q => q.elim⟩)⟩
  obtain ⟨x, rfl, hs⟩ := hJ
  refine pk_le P.n a (fun hle => ?_) (fun ha => ?_) hL.1
  · have e : a = P.n := by omega
    subst e
    exact h x hs
  · refine pu_loop P.n (fun j z => a < j ∧ ∃ x, z = (M, x, nI j) ∧ iS P.n x (Rn P a j)) (fun b z K2 hj hJ hK2 => ?_) (i := a + 1) (by omega) (by omega) ⟨by omega, x, by rw [nI_1], hs.congr (fun c _ => Rn.skip)⟩
    obtain ⟨hab, x, rfl, hs⟩ := hJ
    refine pk_le P.n b (fun hle => ?_) (fun hb => ?_) hL.1
    · have e : b = P.n := by omega
      subst e
      exact hK ha _ ⟨x, by rw [nI_1], hs.congr (fun c _ => Rn.next)⟩
    · have two : mee P a b → ∀ y, iS P.n y (fun c => Rn P a b c ∨ (c = a ∧ ¬ P.bt b a)) → wp_M_runoff_125 F 71 Q (nI a) K K2 M (nI b) y := by
        intro hm y hy
        refine sp_mbeats hR hg (by omega) (by omega) (fun hbt => ⟨fun e => absurd e (by decide), fun _ => hK2 hb _ ⟨by omega, _, by rw [nI_1], ?_⟩⟩) (fun hbt => ⟨fun _ => hK2 hb _ ⟨by omega, _, by rw [nI_1], (hy.ins hn hb).congr (fun c _ => (Rn.step hab hb).trans ?_)⟩, fun e => absurd rfl e⟩)
        · refine hy.congr (fun c _ => (Rn.step hab hb).trans ⟨fun q => ?_, fun q => ?_⟩)
          · rcases q with q | ⟨-, q | q⟩
            · exact Or.inl q
            · exact Or.inr q
            · exact absurd hbt q.2
          · rcases q with q | q
            · exact Or.inl q
            · exact Or.inr ⟨hm, Or.inl q⟩
        · constructor
          · rintro (q | ⟨-, q | q⟩)
            · exact Or.inl (Or.inl q)
            · exact Or.inl (Or.inr q)
            · exact Or.inr q.1
          · rintro ((q | q) | q)
            · exact Or.inl q
            · exact Or.inr ⟨hm, Or.inl q⟩
            · exact Or.inr ⟨hm, Or.inr ⟨q, hbt⟩⟩
      have s0 : ∀ e, e < P.n → ∀ Q2 : Int64 → om_M → Prop, Q2 (lN (P.pl e 0)) M → wp_M_scored F 71 0 (nI e) M Q2 := fun e he Q2 hq => sp_scored (r := 0) hL hR hg (by omega) he hF hq
      have b1 := pl_le hg a 0
      have b2 := pl_le hg b 0
      refine pu_loop P.n (fun j z => ∃ y : Int32, z = (M, y, nI j) ∧ ((y = 1 ∧ ∀ e, e < j → e ≠ a → e ≠ b → P.pl e 0 ≤ P.pl a 0 ∧ P.pl e 0 ≤ P.pl b 0) ∨ (y = 0 ∧ ¬ mee P a b))) (fun j z K3 hj hJ hK3 => ?_) (i := 0) (by omega) (by omega) ⟨1, rfl, Or.inl ⟨rfl, fun e he => absurd he (by omega)⟩⟩
      obtain ⟨y, rfl, hy⟩ := hJ
      refine pk_le P.n j (fun hle => ?_) (fun hlt => ?_) hL.1
      · have e : j = P.n := by omega
        subst e
        refine ⟨fun e => ?_, fun ne => ?_⟩
        · have hm := (hy.resolve_left (fun q => absurd (q.1.symm.trans e) (by decide))).2
          exact hK2 hb _ ⟨by omega, x, by rw [nI_1], hs.congr (fun c _ => (Rn.step hab hb).trans ⟨fun q => q.elim id (fun q => absurd q.1 hm), Or.inl⟩)⟩
        · have hm : mee P a b := (hy.resolve_right (fun q => ne q.1)).2
          refine sp_mbeats hR hg (by omega) (by omega) (fun hbt => ⟨fun e => absurd e (by decide), fun _ => ?_⟩) (fun hbt => ⟨fun _ => ?_, fun e => absurd rfl e⟩)
          · exact two hm x (hs.congr (fun c _ => ⟨fun q => q.elim id (fun q => absurd hbt q.2), Or.inl⟩))
          · exact two hm _ ((hs.ins hn ha).congr (fun c _ => ⟨fun q => q.elim Or.inl (fun q => Or.inr q.1), fun q => q.elim Or.inl (fun q => Or.inr ⟨q, hbt⟩)⟩))
      · have b3 := pl_le hg j 0
        refine s0 j hlt _ ?_
        have no : ¬ mee P a b → wp_M_runoff_93 F 71 Q (nI a) x (nI b) K K2 K3 M (nI j) := fun hm => hK3 hlt _ ⟨0, by rw [nI_1], Or.inr ⟨rfl, hm⟩⟩
        refine ⟨fun e => no (hy.resolve_left (fun q => absurd (q.1.symm.trans e) (by decide))).2, fun ne => ?_⟩
        have hy1 := hy.resolve_right (fun q => ne q.1)
        have yes : (j ≠ a → j ≠ b → P.pl j 0 ≤ P.pl a 0 ∧ P.pl j 0 ≤ P.pl b 0) → wp_M_runoff_89 F 71 Q (nI a) x (nI b) K K2 K3 M (nI j) := fun hh => hK3 hlt _ ⟨1, by rw [nI_1], Or.inl ⟨rfl, fun e he e1 e2 => by
          by_cases z : e = j
          · subst z; exact hh e1 e2
          · exact hy1.2 e (by omega) e1 e2⟩⟩
        refine pk_eq j a (fun e => yes (fun q => absurd e q)) (fun na => pk_eq j b (fun e => yes (fun _ q => absurd e q)) (fun nb => s0 a ha _ ?_))
        refine pkl_lt (P.pl a 0) (P.pl j 0) (fun q => no (fun z => by have := z j hlt na nb; omega)) (fun q => s0 b hb _ ?_)
        exact pkl_lt (P.pl b 0) (P.pl j 0) (fun q => no (fun z => by have := z j hlt na nb; omega)) (fun q2 => yes (fun _ _ => ⟨q, q2⟩))
