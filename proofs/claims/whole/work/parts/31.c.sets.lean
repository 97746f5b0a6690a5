/-! sets of candidates as numbers -/
def iS (n : Nat) (x : Int32) (p : Nat → Prop) : Prop := ∃ s, s < 2 ^ n ∧ x = nI s ∧ ∀ c, c < n → (s.testBit c = true ↔ p c)
theorem iS.congr {n : Nat} {x : Int32} {p q : Nat → Prop} (h : iS n x p) (e : ∀ c, c < n → (q c ↔ p c)) : iS n x q := by
  obtain ⟨s, h1, h2, h3⟩ := h
  exact ⟨s, h1, h2, fun c hc => (h3 c hc).trans (e c hc).symm⟩
theorem p2b {n s : Nat} (hn : n ≤ 7) (hs : s < 2 ^ n) : s < 128 := by
  have := p2_lt (n := n) (by omega)
  omega
theorem iS.no {n : Nat} : iS n 0 (fun _ => False) := ⟨0, Nat.pow_pos (by decide), rfl, fun c _ => by simp⟩
theorem iS.every {n : Nat} (hn : n ≤ 7) : iS n (((1 : Int32) <<< (nI n &&& 31)) - 1) (fun _ => True) := by
  refine ⟨2 ^ n - 1, ?_, mb_all (by omega), fun c hc => ?_⟩
  · have := Nat.pow_pos (n := n) (show 0 < 2 by decide)
    omega
  · rw [Nat.testBit_two_pow_sub_one]
    simp [hc]
theorem iS.ins {n c : Nat} {x : Int32} {p : Nat → Prop} (h : iS n x p) (hn : n ≤ 7) (hc : c < n) : iS n (x ||| ((1 : Int32) <<< (nI c &&& 31))) (fun d => p d ∨ d = c) := by
  obtain ⟨s, h1, rfl, h3⟩ := h
  refine ⟨mi s c, mi_lt h1 hc, mb_ins (by omega), fun d hd => ?_⟩
  rw [mi_bit, Bool.or_eq_true, h3 d hd, decide_eq_true_eq]
theorem iS.one {n c : Nat} (hn : n ≤ 7) (hc : c < n) : iS n ((1 : Int32) <<< (nI c &&& 31)) (fun d => d = c) := by
  refine ⟨2 ^ c, Nat.pow_lt_pow_right (by decide) hc, mb_one (by omega), fun d hd => ?_⟩
  rw [Nat.testBit_two_pow, decide_eq_true_eq]
  exact eq_comm
theorem iS.del {n c : Nat} {x : Int32} {p : Nat → Prop} (h : iS n x p) (hn : n ≤ 7) (hc : c < n) : iS n (x &&& (((1 : Int32) <<< (nI c &&& 31)) ^^^ (-1))) (fun d => p d ∧ d ≠ c) := by
  obtain ⟨s, h1, rfl, h3⟩ := h
  have := p2b hn h1
  rw [mb_one (by omega), mb_del]
  refine ⟨md s c, Nat.lt_of_le_of_lt md_le h1, rfl, fun d hd => ?_⟩
  rw [md_bit (by omega), Bool.and_eq_true, h3 d hd, decide_eq_true_eq]
theorem iS.uniq {n : Nat} {x y : Int32} {p q : Nat → Prop} (h : iS n x p) (g : iS n y q) (e : ∀ c, c < n → (p c ↔ q c)) : x = y := by
  obtain ⟨s, h1, rfl, h3⟩ := h
  obtain ⟨t, g1, rfl, g3⟩ := g
  refine congrArg nI (m_ext h1 g1 (fun j hj => ?_))
  have : s.testBit j = true ↔ t.testBit j = true := ((h3 j hj).trans (e j hj)).trans (g3 j hj).symm
  exact Bool.eq_iff_iff.mpr this
theorem iS.same {n : Nat} {x : Int32} {p q : Nat → Prop} (hn : n ≤ 7) (h : iS n x p) (g : iS n x q) : ∀ c, c < n → (p c ↔ q c) := by
  obtain ⟨s, h1, rfl, h3⟩ := h
  obtain ⟨t, g1, g2, g3⟩ := g
  have := p2b hn h1
  have := p2b hn g1
  have e := (nI_eq (by omega) (by omega)).mp g2
  subst e
  exact fun c hc => (h3 c hc).symm.trans (g3 c hc)
theorem iS.zero {n : Nat} {x : Int32} {p : Nat → Prop} (hn : n ≤ 7) (h : iS n x p) : x = 0 ↔ ∀ c, c < n → ¬ p c := by
  constructor
  · intro e c hc hp
    subst e
    exact (h.same hn iS.no c hc).mp hp
  · intro hp
    exact h.uniq iS.no (fun c hc => ⟨fun q => hp c hc q, fun q => q.elim⟩)
theorem iS.bit {n c : Nat} {x : Int32} {p : Nat → Prop} (hn : n ≤ 7) (h : iS n x p) (hc : c < n) : (p c → (x >>> (nI c &&& 31)) &&& 1 = 1) ∧ (¬ p c → (x >>> (nI c &&& 31)) &&& 1 = 0) := by
  obtain ⟨s, h1, rfl, h3⟩ := h
  have := p2b hn h1
  rw [mb_get (by omega) (by omega)]
  refine ⟨fun hp => ?_, fun hp => ?_⟩
  · rw [(h3 c hc).mpr hp]; rfl
  · rw [show s.testBit c = false by
      rcases hb : s.testBit c with _ | _
      · rfl
      · exact absurd ((h3 c hc).mp hb) hp]
    rfl
theorem iS.br0 {n c : Nat} {x : Int32} {p : Nat → Prop} {A B : Prop} (hn : n ≤ 7) (h : iS n x p) (hc : c < n) (h0 : ¬ p c → A) (h1 : p c → B) : ((x >>> (nI c &&& 31)) &&& 1 = 0 → A) ∧ (¬ (x >>> (nI c &&& 31)) &&& 1 = 0 → B) := by
  by_cases hp : p c
  · rw [(h.bit hn hc).1 hp]
    exact ⟨fun e => absurd e (by decide), fun _ => h1 hp⟩
  · rw [(h.bit hn hc).2 hp]
    exact ⟨fun _ => h0 hp, fun e => absurd rfl e⟩
theorem iS.br1 {n c : Nat} {x : Int32} {p : Nat → Prop} {A B : Prop} (hn : n ≤ 7) (h : iS n x p) (hc : c < n) (h1 : p c → A) (h0 : ¬ p c → B) : ((x >>> (nI c &&& 31)) &&& 1 = 1 → A) ∧ (¬ (x >>> (nI c &&& 31)) &&& 1 = 1 → B) := by
  by_cases hp : p c
  · rw [(h.bit hn hc).1 hp]
    exact ⟨fun _ => h1 hp, fun e => absurd rfl e⟩
  · rw [(h.bit hn hc).2 hp]
    exact ⟨fun e => absurd e (by decide), fun _ => h0 hp⟩
/-- orders are onto -/
theorem isO.onto {n : Nat} {f : Nat → Nat} (h : isO n f) {c : Nat} (hc : c < n) : ∃ k, k < n ∧ f k = c := by
  apply Classical.byContradiction
  intro hne
  have := pg_inj (n - 1) n (fun k => if f k < c then f k else f k - 1) (fun k hk => by
    have h1 := h.1 k hk
    have h2 : f k ≠ c := fun e => hne ⟨k, hk, e⟩
    show (if f k < c then f k else f k - 1) < n - 1
    split <;> omega) (fun a b ha hb e => by
    have e : (if f a < c then f a else f a - 1) = (if f b < c then f b else f b - 1) := e
    have h1 : f a ≠ c := fun e => hne ⟨a, ha, e⟩
    have h2 : f b ≠ c := fun e => hne ⟨b, hb, e⟩
    refine h.2 a b ha hb ?_
    split at e <;> split at e <;> omega)
  omega
theorem sp_mplaceOf {F t c : Nat} {P : pv} {M : om_M} {Q : Int32 → om_M → Prop} (hL : RL M P) (hg : gd P) (ht : t < P.T) (hc : c < P.n) (hF : 10 ≤ F) (h : ∀ k, k < P.n → P.od t k = c → Q (nI k) M) : wp_M_placeOf F 71 (nI t) (nI c) M Q := by
  have hn := hg.2.1
  have hT := hg.2.2.1
  have ho := hg.2.2.2.2.1 t ht
  obtain ⟨k0, hk0, ek⟩ := ho.onto hc
  refine pu_loop k0 (fun i z => z = (M, nI i)) (fun i z K hi hJ hK => ?_) (i := 0) (by omega) (by omega) rfl
  subst hJ
  show vp_in ((7 : Int32) * nI t + nI i) 154 ∧ ((M.1 (71 + 6) ((7 : Int32) * nI t + nI i).toNatClampNeg = nI c → Q (nI i) M) ∧ (¬ M.1 (71 + 6) ((7 : Int32) * nI t + nI i).toNatClampNeg = nI c → K (M, nI i + 1)))
  rw [i7, nI_clamp (n := 7 * t + i) (by omega), hL.2.2.1 t i ht (by omega)]
  have h1 := ho.1 i (by omega)
  refine ⟨pk_in (7 * t + i) 154 (by omega), pk_eq (P.od t i) c (fun e => h i (by omega) e) (fun ne => hK ?_ _ (by rw [nI_1]))⟩
  rcases Nat.lt_or_ge i k0 with g | g
  · exact g
  · exact absurd (by rw [show i = k0 by omega]; exact ek) ne
theorem sp_tiePlace {F c : Nat} {P : pv} {M : om_M} {Q : Int32 → om_M → Prop} (hL : RL M P) (hg : gd P) (hc : c < P.n) (hF : 10 ≤ F) (h : ∀ k, k < P.n → P.ti k = c → Q (nI k) M) : wp_M_tiePlace F 71 (nI c) M Q := by
  have hn := hg.2.1
  have ho := hg.2.2.2.2.2.1
  obtain ⟨k0, hk0, ek⟩ := ho.onto hc
  refine pu_loop k0 (fun i z => z = (M, nI i)) (fun i z K hi hJ hK => ?_) (i := 0) (by omega) (by omega) rfl
  subst hJ
  show vp_in (nI i) 7 ∧ ((M.1 (71 + 8) (nI i).toNatClampNeg = nI c → Q (nI i) M) ∧ (¬ M.1 (71 + 8) (nI i).toNatClampNeg = nI c → K (M, nI i + 1)))
  rw [nI_clamp (n := i) (by omega), hL.2.2.2.2.1 i (by omega)]
  have h1 := ho.1 i (by omega)
  refine ⟨pk_in i 7 (by omega), pk_eq (P.ti i) c (fun e => h i (by omega) e) (fun ne => hK ?_ _ (by rw [nI_1]))⟩
  rcases Nat.lt_or_ge i k0 with g | g
  · exact g
  · exact absurd (by rw [show i = k0 by omega]; exact ek) ne
/-- k is the first place of the set p in the order f -/
def hd (n : Nat) (f : Nat → Nat) (p : Nat → Prop) (k : Nat) : Prop := k < n ∧ p (f k) ∧ ∀ j, j < k → ¬ p (f j)
theorem hd.uniq {n : Nat} {f : Nat → Nat} {p : Nat → Prop} {j k : Nat} (h : hd n f p j) (g : hd n f p k) : j = k := by
  rcases Nat.lt_trichotomy j k with q | q | q
  · exact absurd h.2.1 (g.2.2 j q)
  · exact q
  · exact absurd g.2.1 (h.2.2 k q)
theorem hd.ex {n : Nat} {f : Nat → Nat} {p : Nat → Prop} (ho : isO n f) {c : Nat} (hc : c < n) (hp : p c) : ∃ k, hd n f p k := by
  obtain ⟨k, hk, e⟩ := ho.onto hc
  obtain ⟨j, hj, hm⟩ := pk_least (fun k => k < n ∧ p (f k)) ⟨k, hk, by rw [e]; exact hp⟩
  exact ⟨j, hj.1, hj.2, fun i hi hp => hm i hi ⟨by omega, hp⟩⟩
theorem sp_firstInTie {F o : Nat} {x : Int32} {p : Nat → Prop} {P : pv} {M : om_M} {Q : Int32 → om_M → Prop} (hP : RP o M P) (hg : gd P) (hx : iS P.n x p) (hF : 10 ≤ F) (h1 : ∀ k, hd P.n P.ti p k → Q (nI (P.ti k)) M) (h0 : (∀ c, c < P.n → ¬ p c) → Q (-1) M) : wp_P_firstInTie F o x M Q := by
  have hn := hg.2.1
  have ho := hg.2.2.2.2.2.1
  refine pu_loop P.n (fun i z => z = (M, nI i) ∧ ∀ j, j < i → ¬ p (P.ti j)) (fun i z K hi hJ hK => ?_) (i := 0) (by omega) (by omega) ⟨rfl, fun j hj => absurd hj (by omega)⟩
  obtain ⟨rfl, hj⟩ := hJ
  refine pk_le P.n i (fun hle => h0 (fun c hc hp => ?_)) (fun hlt => ?_) hP.1
  · obtain ⟨k, hk, e⟩ := ho.onto hc
    exact hj k (by omega) (by rw [e]; exact hp)
  · show wp_O_at F (M.1 o 7) (nI i) M _
    rw [hP.2.2.1]
    refine sp_at ho.1 hn hlt ?_
    exact hx.br0 hn (ho.1 i hlt) (fun np => hK hlt _ ⟨by rw [nI_1], fun j hj2 => by
      by_cases e : j = i
      · subst e; exact np
      · exact hj j (by omega)⟩) (fun hp => h1 i ⟨hlt, hp, hj⟩)
theorem sp_firstOf {F : Nat} {x : Int32} {p : Nat → Prop} {P : pv} {M : om_M} {Q : Int32 → om_M → Prop} (hL : RL M P) (hg : gd P) (hx : iS P.n x p) (hne : ∃ c, c < P.n ∧ p c) (hF : 10 ≤ F) (h1 : ∀ k, hd P.n P.ti p k → Q (nI (P.ti k)) M) : wp_M_firstOf F 71 x M Q := by
  have hn := hg.2.1
  have ho := hg.2.2.2.2.2.1
  obtain ⟨c, hc, hp⟩ := hne
  obtain ⟨k0, hk0⟩ := hd.ex ho hc hp
  have := hk0.1
  refine pu_loop k0 (fun i z => z = (M, nI i) ∧ ∀ j, j < i → ¬ p (P.ti j)) (fun i z K hi hJ hK => ?_) (i := 0) (by omega) (by omega) ⟨rfl, fun j hj => absurd hj (by omega)⟩
  obtain ⟨rfl, hj⟩ := hJ
  show vp_in (nI i) 7 ∧ ((((x >>> ((M.1 (71 + 8) (nI i).toNatClampNeg) &&& 31)) &&& 1) = 0 → K (M, nI i + 1)) ∧ (¬ ((x >>> ((M.1 (71 + 8) (nI i).toNatClampNeg) &&& 31)) &&& 1) = 0 → wp_M_firstOf_21 F 71 x Q M (nI i)))
  rw [nI_clamp (n := i) (by omega), hL.2.2.2.2.1 i (by omega)]
  refine ⟨pk_in i 7 (by omega), hx.br0 hn (ho.1 i (by omega)) (fun np => hK ?_ _ ⟨by rw [nI_1], fun j hj2 => by
      by_cases e : j = i
      · subst e; exact np
      · exact hj j (by omega)⟩) (fun hp => ⟨pk_in i 7 (by omega), ?_⟩)⟩
  · rcases Nat.lt_or_ge i k0 with g | g
    · exact g
    · exact absurd (by rw [show i = k0 by omega]; exact hk0.2.1) np
  · rw [nI_clamp (n := i) (by omega), hL.2.2.2.2.1 i (by omega)]
    exact h1 i ⟨by omega, hp, hj⟩
/-- v where a proposition holds -/
noncomputable def ci (p : Prop) (v : Nat) : Nat := @ite Nat p (Classical.propDecidable p) v 0
theorem ci_pos {p : Prop} {v : Nat} (h : p) : ci p v = v := @if_pos _ (Classical.propDecidable p) h _ _ _
theorem ci_neg {p : Prop} {v : Nat} (h : ¬ p) : ci p v = 0 := @if_neg _ (Classical.propDecidable p) h _ _ _
