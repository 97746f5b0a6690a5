/-! what can be left -/
def bcx (x0 : Int32) : Int32 := ((((((((x0 - (((x0.toUInt32 >>> (Int32.toUInt32 1 &&& Int32.toUInt32 31)).toInt32) &&& 1431655765)) &&& 858993459) + ((((x0 - (((x0.toUInt32 >>> (Int32.toUInt32 1 &&& Int32.toUInt32 31)).toInt32) &&& 1431655765)).toUInt32 >>> (Int32.toUInt32 2 &&& Int32.toUInt32 31)).toInt32) &&& 858993459)) + (((((x0 - (((x0.toUInt32 >>> (Int32.toUInt32 1 &&& Int32.toUInt32 31)).toInt32) &&& 1431655765)) &&& 858993459) + ((((x0 - (((x0.toUInt32 >>> (Int32.toUInt32 1 &&& Int32.toUInt32 31)).toInt32) &&& 1431655765)).toUInt32 >>> (Int32.toUInt32 2 &&& Int32.toUInt32 31)).toInt32) &&& 858993459)).toUInt32 >>> (Int32.toUInt32 4 &&& Int32.toUInt32 31)).toInt32)) &&& 252645135) + (((((((x0 - (((x0.toUInt32 >>> (Int32.toUInt32 1 &&& Int32.toUInt32 31)).toInt32) &&& 1431655765)) &&& 858993459) + ((((x0 - (((x0.toUInt32 >>> (Int32.toUInt32 1 &&& Int32.toUInt32 31)).toInt32) &&& 1431655765)).toUInt32 >>> (Int32.toUInt32 2 &&& Int32.toUInt32 31)).toInt32) &&& 858993459)) + (((((x0 - (((x0.toUInt32 >>> (Int32.toUInt32 1 &&& Int32.toUInt32 31)).toInt32) &&& 1431655765)) &&& 858993459) + ((((x0 - (((x0.toUInt32 >>> (Int32.toUInt32 1 &&& Int32.toUInt32 31)).toInt32) &&& 1431655765)).toUInt32 >>> (Int32.toUInt32 2 &&& Int32.toUInt32 31)).toInt32) &&& 858993459)).toUInt32 >>> (Int32.toUInt32 4 &&& Int32.toUInt32 31)).toInt32)) &&& 252645135).toUInt32 >>> (Int32.toUInt32 8 &&& Int32.toUInt32 31)).toInt32)) + ((((((((x0 - (((x0.toUInt32 >>> (Int32.toUInt32 1 &&& Int32.toUInt32 31)).toInt32) &&& 1431655765)) &&& 858993459) + ((((x0 - (((x0.toUInt32 >>> (Int32.toUInt32 1 &&& Int32.toUInt32 31)).toInt32) &&& 1431655765)).toUInt32 >>> (Int32.toUInt32 2 &&& Int32.toUInt32 31)).toInt32) &&& 858993459)) + (((((x0 - (((x0.toUInt32 >>> (Int32.toUInt32 1 &&& Int32.toUInt32 31)).toInt32) &&& 1431655765)) &&& 858993459) + ((((x0 - (((x0.toUInt32 >>> (Int32.toUInt32 1 &&& Int32.toUInt32 31)).toInt32) &&& 1431655765)).toUInt32 >>> (Int32.toUInt32 2 &&& Int32.toUInt32 31)).toInt32) &&& 858993459)).toUInt32 >>> (Int32.toUInt32 4 &&& Int32.toUInt32 31)).toInt32)) &&& 252645135) + (((((((x0 - (((x0.toUInt32 >>> (Int32.toUInt32 1 &&& Int32.toUInt32 31)).toInt32) &&& 1431655765)) &&& 858993459) + ((((x0 - (((x0.toUInt32 >>> (Int32.toUInt32 1 &&& Int32.toUInt32 31)).toInt32) &&& 1431655765)).toUInt32 >>> (Int32.toUInt32 2 &&& Int32.toUInt32 31)).toInt32) &&& 858993459)) + (((((x0 - (((x0.toUInt32 >>> (Int32.toUInt32 1 &&& Int32.toUInt32 31)).toInt32) &&& 1431655765)) &&& 858993459) + ((((x0 - (((x0.toUInt32 >>> (Int32.toUInt32 1 &&& Int32.toUInt32 31)).toInt32) &&& 1431655765)).toUInt32 >>> (Int32.toUInt32 2 &&& Int32.toUInt32 31)).toInt32) &&& 858993459)).toUInt32 >>> (Int32.toUInt32 4 &&& Int32.toUInt32 31)).toInt32)) &&& 252645135).toUInt32 >>> (Int32.toUInt32 8 &&& Int32.toUInt32 31)).toInt32)).toUInt32 >>> (Int32.toUInt32 16 &&& Int32.toUInt32 31)).toInt32)) &&& 63)
def pc (s : Nat) : Nat := su (fun c => (s.testBit c).toNat) 7
theorem bc_all : ∀ s, s < 128 → bcx (nI s) = nI (pc s) := by decide +kernel
theorem two_pc : ∀ s, s < 128 → (pc s < 2 ↔ s &&& (s - 1) = 0) := by decide +kernel
theorem pc_le : ∀ s, s < 128 → pc s ≤ 7 := by decide +kernel
theorem tb7 : ∀ s, s < 128 → ∀ c, c < 7 → s.testBit c = true → 2 ^ c ≤ s ∧ md s c = s - 2 ^ c := by decide +kernel
theorem pw7 : ∀ c, c < 7 → 2 ^ c &&& (2 ^ c - 1) = 0 := by decide +kernel
theorem one7 : ∀ s, s < 128 → 0 < s → s &&& (s - 1) = 0 → ∃ c, c < 7 ∧ s = 2 ^ c := by decide +kernel
theorem sp_bitCount {F s : Nat} {M : om_M} {Q : Int32 → om_M → Prop} (hs : s < 128) (h : Q (nI (pc s)) M) : wp_JI_bitCount F (nI s) M Q := by
  show Q (bcx (nI s)) M
  rw [bc_all s hs]
  exact h
def bs (s : Nat) : Nat → Prop := fun c => s.testBit c = true
theorem iS.num {n s : Nat} (hs : s < 2 ^ n) : iS n (nI s) (bs s) := ⟨s, hs, rfl, fun _ _ => Iff.rfl⟩
def Lr (P : pv) (k u : Nat) : Prop := ∀ R : Nat → Prop, R (2 ^ P.n - 1) → (∀ s c, k < s → s < 2 ^ P.n → R s → s &&& (s - 1) ≠ 0 → c < P.n → Wk P (bs s) c → R (s - 2 ^ c)) → R u
theorem Lr.top {P : pv} {k : Nat} : Lr P k (2 ^ P.n - 1) := fun _ h _ => h
theorem Lr.rule {P : pv} {k s c : Nat} (h : Lr P k s) (hk : k < s) (hs : s < 2 ^ P.n) (h2 : s &&& (s - 1) ≠ 0) (hc : c < P.n) (hw : Wk P (bs s) c) : Lr P k (s - 2 ^ c) := fun R r1 r2 => r2 s c hk hs (h R r1 r2) h2 hc hw
theorem Lr.mono {P : pv} {k k' u : Nat} (h : Lr P k u) (hk : k' ≤ k) : Lr P k' u := fun R r1 r2 => h R r1 (fun s c q1 => r2 s c (by omega))
theorem p2n {P : pv} (hg : gd P) : 4 ≤ 2 ^ P.n ∧ 2 ^ P.n ≤ 128 := by
  have h1 : 2 ^ 2 ≤ 2 ^ P.n := Nat.pow_le_pow_right (by decide) hg.1
  have h2 := p2_lt (n := P.n) (by have := hg.2.1; omega)
  omega
theorem Lr.init {P : pv} (hg : gd P) {u : Nat} : Lr P (2 ^ P.n - 1) u ↔ u = 2 ^ P.n - 1 := by
  constructor
  · intro h
    exact h (fun u => u = 2 ^ P.n - 1) rfl (fun s c h1 h2 => by omega)
  · intro h
    subst h
    exact Lr.top
theorem Lr.step {P : pv} (hg : gd P) {s u : Nat} (h0 : 0 < s) (hs : s < 2 ^ P.n) : Lr P (s - 1) u ↔ (Lr P s u ∨ (Lr P s s ∧ s &&& (s - 1) ≠ 0 ∧ ∃ c, c < P.n ∧ Wk P (bs s) c ∧ u = s - 2 ^ c)) := by
  have hb := p2n hg
  have hn := hg.2.1
  have lt : ∀ c, c < P.n → Wk P (bs s) c → s - 2 ^ c < s := fun c hc hw => by
    have := (tb7 s (by omega) c (by omega) hw.1).1
    have := Nat.pow_pos (n := c) (show 0 < 2 by decide)
    omega
  constructor
  · intro h
    refine h (fun u => Lr P s u ∨ (Lr P s s ∧ s &&& (s - 1) ≠ 0 ∧ ∃ c, c < P.n ∧ Wk P (bs s) c ∧ u = s - 2 ^ c)) (Or.inl Lr.top) (fun s' c h1 h2 hR h3 hc hw => ?_)
    by_cases e : s' = s
    · subst e
      refine Or.inr ⟨?_, h3, c, hc, hw, rfl⟩
      rcases hR with q | ⟨-, -, d, hd, hw2, q⟩
      · exact q
      · have := lt d hd hw2
        omega
    · refine Or.inl (Lr.rule ?_ (by omega) h2 h3 hc hw)
      rcases hR with q | ⟨-, -, d, hd, hw2, q⟩
      · exact q
      · have := lt d hd hw2
        omega
  · rintro (h | ⟨h, h3, c, hc, hw, rfl⟩)
    · exact h.mono (by omega)
    · exact (h.mono (by omega)).rule (by omega) hs h3 hc hw
theorem Lr.up {P : pv} {s u : Nat} (h : Lr P 0 u) (hu : s ≤ u) : Lr P s u := by
  refine h (fun u => s ≤ u → Lr P s u) (fun _ => Lr.top) (fun s' c h1 h2 hR h3 hc hw hle => ?_) hu
  have := Nat.pow_pos (n := c) (show 0 < 2 by decide)
  exact (hR (by omega)).rule (by omega) h2 h3 hc hw
def s24 (M M' : om_M) : Prop := (∀ q, q ≠ 24 → q ≠ 25 → M'.1 q = M.1 q) ∧ M'.2 = M.2
theorem s24.cr {M M' : om_M} (h : s24 M M') : cr M M' := ⟨fun q hq => h.1 q (by omega) (by omega), h.2, fun t => ⟨by rw [h.1 39 (by decide) (by decide)]; exact t.1, fun c hc => by rw [h.1 _ (by omega) (by omega)]; exact t.2 c hc⟩⟩
theorem s24.up {M M' : om_M} {k : Nat} {v : Int32} (h : s24 M M') : s24 M (om_up M' 24 k v) := ⟨fun q h1 h2 => by rw [om_up_n _ _ h1]; exact h.1 q h1 h2, h.2⟩
theorem sp_spread {F o : Nat} {P : pv} {M : om_M} {Q : om_M → Prop} (hP : RP o M P) (hg : gd P) (ho : o = 1 ∨ o = 49) (hF : 1000 ≤ F) (h : ∀ M', s24 M M' → (∀ u, 1 ≤ u → u < 2 ^ P.n → (M'.1 24 u ≠ 0 ↔ Lr P 0 u)) → Q M') : wp_E_spread F 23 o M Q := by
  have hn := hg.2.1
  have hb := p2n hg
  have hR : ∀ M', s24 M M' → RP o M' P := fun M' e => e.cr.RP ho hP
  show wp_E_spread_7 F 23 o Q (((1 : Int32) <<< ((M.1 o 5) &&& 31)) - 1) M 0
  rw [hP.1, mb_all (by omega)]
  refine pu_loop (2 ^ P.n - 1) (fun i z => z.2 = nI i ∧ s24 M z.1 ∧ ∀ u, u < i → z.1.1 24 u = 0) (fun i z K hi hJ hK => ?_) (i := 0) (by omega) (by omega) ⟨rfl, ⟨fun _ _ _ => rfl, rfl⟩, fun u hu => absurd hu (by omega)⟩
  obtain ⟨M1, y⟩ := z
  obtain ⟨rfl, j1, j2⟩ := hJ
  refine pk_le (2 ^ P.n - 1) i (fun hle => ⟨pk_in (2 ^ P.n - 1) 128 (by omega), ?_⟩) (fun hlt => ⟨pk_in i 128 (by omega), hK hlt _ ⟨by rw [nI_1], j1.up, fun u hu => ?_⟩⟩)
  · rw [nI_clamp (n := 2 ^ P.n - 1) (by omega)]
    refine pu_loop (2 ^ P.n - 1) (fun i z => z.2 = nI (2 ^ P.n - 1 - i) ∧ s24 M z.1 ∧ ∀ u, 1 ≤ u → u < 2 ^ P.n → (z.1.1 24 u ≠ 0 ↔ Lr P (2 ^ P.n - 1 - i) u)) (fun i z K hi hJ hK => ?_) (i := 0) (by omega) (by omega) ⟨rfl, j1.up, fun u h1 h2 => ?_⟩
    · obtain ⟨M2, y⟩ := z
      obtain ⟨rfl, k1, k2⟩ := hJ
      have hP2 := hR M2 k1
      obtain ⟨s, es⟩ : ∃ s, s = 2 ^ P.n - 1 - i := ⟨_, rfl⟩
      rw [← es] at k2 ⊢
      refine pk_le s 0 (fun hle => h M2 k1 (fun u h1 h2 => by rw [show (0 : Nat) = s by omega]; exact k2 u h1 h2)) (fun hgt => ⟨pk_in s 128 (by omega), ?_⟩)
      have em : nI s + (-1) = nI (2 ^ P.n - 1 - (i + 1)) := by
        rw [show s = 2 ^ P.n - 1 - (i + 1) + 1 by omega]
        exact pk_m1 _
      have next : ∀ M3, s24 M M3 → (∀ u, 1 ≤ u → u < 2 ^ P.n → (M3.1 24 u ≠ 0 ↔ Lr P (s - 1) u)) → K (M3, nI s + (-1)) := fun M3 l1 l2 => hK (by omega) _ ⟨em, l1, fun u h1 h2 => by rw [show 2 ^ P.n - 1 - (i + 1) = s - 1 by omega]; exact l2 u h1 h2⟩
      have kept : (Lr P s s → s &&& (s - 1) = 0) → wp_E_spread_103 F 23 o Q K M2 (nI s) := fun hs => next M2 k1 (fun u h1 h2 => (k2 u h1 h2).trans ⟨fun q => (Lr.step hg hgt (by omega)).mpr (Or.inl q), fun q => ((Lr.step hg hgt (by omega)).mp q).elim id (fun q => absurd (hs q.1) q.2.1)⟩)
      rw [nI_clamp (n := s) (by omega)]
      refine ⟨fun e => kept (fun q => absurd ((k2 s (by omega) (by omega)).mpr q) (fun z => z e)), fun ne => sp_bitCount (by omega) ?_⟩
      have hl : Lr P s s := (k2 s (by omega) (by omega)).mp ne
      have hp := pc_le s (by omega)
      refine pk_lt (pc s) 2 (fun q => kept (fun _ => (two_pc s (by omega)).mp q)) (fun q => ?_)
      have h2 : s &&& (s - 1) ≠ 0 := fun z => by have := (two_pc s (by omega)).mpr z; omega
      refine sp_goers hP2 hg ho (iS.num (by omega)) (by omega) (fun M3 g l1 l2 => ?_)
      have s3 : s24 M M3 := ⟨fun q h1 h2 => by rw [l1.1 q h2]; exact k1.1 q h1 h2, by rw [l1.2]; exact k1.2⟩
      refine pu_loop P.n (fun j z => z.2 = nI j ∧ s24 M z.1 ∧ ∀ u, 1 ≤ u → u < 2 ^ P.n → (z.1.1 24 u ≠ 0 ↔ (Lr P s u ∨ ∃ c, c < j ∧ Wk P (bs s) c ∧ u = s - 2 ^ c))) (fun j z K2 hj hJ hK2 => ?_) (i := 0) (by omega) (by omega) ⟨rfl, s3, fun u h1 h2 => ?_⟩
      · obtain ⟨M4, y⟩ := z
        obtain ⟨rfl, n1, n2⟩ := hJ
        refine pk_le P.n j (fun hle => next M4 n1 (fun u h1 h3 => (n2 u h1 h3).trans ?_)) (fun hlt => l2.br0 hn hlt (fun np => hK2 hlt _ ⟨by rw [nI_1], n1, fun u h1 h3 => (n2 u h1 h3).trans ?_⟩) (fun hp => ?_)) (hR M4 n1).1
        · rw [Lr.step hg hgt (by omega)]
          constructor
          · rintro (q | ⟨c, q1, q2, q3⟩)
            · exact Or.inl q
            · exact Or.inr ⟨hl, h2, c, by omega, q2, q3⟩
          · rintro (q | ⟨-, -, c, q1, q2, q3⟩)
            · exact Or.inl q
            · exact Or.inr ⟨c, by omega, q2, q3⟩
        · constructor
          · rintro (q | ⟨c, q1, q2, q3⟩)
            · exact Or.inl q
            · exact Or.inr ⟨c, by omega, q2, q3⟩
          · rintro (q | ⟨c, q1, q2, q3⟩)
            · exact Or.inl q
            · have : c ≠ j := fun e => np (e ▸ q2)
              exact Or.inr ⟨c, by omega, q2, q3⟩
        · have t7 := tb7 s (by omega) j (by omega) hp.1
          have hsl : s - 2 ^ j ≤ s := Nat.sub_le _ _
          rw [mb_one (by omega), pk_sub t7.1, nI_clamp (n := s - 2 ^ j) (by omega)]
          refine ⟨pk_in (s - 2 ^ j) 128 (by omega), hK2 hlt _ ⟨by rw [nI_1], n1.up, fun u h1 h3 => ?_⟩⟩
          by_cases e : u = s - 2 ^ j
          · subst e
            rw [pu_up1]
            exact ⟨fun _ => Or.inr ⟨j, by omega, hp, rfl⟩, fun _ => by decide⟩
          · rw [pu_up2 e]
            refine (n2 u h1 h3).trans ⟨?_, ?_⟩
            · rintro (q | ⟨c, q1, q2, q3⟩)
              · exact Or.inl q
              · exact Or.inr ⟨c, by omega, q2, q3⟩
            · rintro (q | ⟨c, q1, q2, q3⟩)
              · exact Or.inl q
              · have : c ≠ j := fun z => e (z ▸ q3)
                exact Or.inr ⟨c, by omega, q2, q3⟩
      · show M3.1 24 u ≠ 0 ↔ _
        rw [l1.1 24 (by decide)]
        exact (k2 u h1 h2).trans ⟨Or.inl, fun q => q.elim id (fun ⟨c, q1, _⟩ => absurd q1 (by omega))⟩
    · show (om_up M1 (23 + 1) (2 ^ P.n - 1) 1).1 24 u ≠ 0 ↔ _
      rw [Nat.sub_zero, Lr.init hg]
      by_cases e : u = 2 ^ P.n - 1
      · subst e
        rw [pu_up1]
        exact ⟨fun _ => rfl, fun _ => by decide⟩
      · rw [pu_up2 e]
        exact ⟨fun q => absurd (j2 u (by omega)) q, fun q => absurd q e⟩
  · rw [nI_clamp (n := i) (by omega)]
    by_cases e : u = i
    · subst e; exact pu_up1
    · exact (pu_up2 e).trans (j2 u (by omega))
theorem sp_eliminate {F : Nat} {P : pv} {M : om_M} {Q : Int32 → om_M → Prop} (hL : RL M P) (hg : gd P) (hF : 1000 ≤ F) (h : ∀ M' x, pu_off 85 M M' → (∀ u, 1 ≤ u → u < 2 ^ P.n → (M'.1 85 u ≠ 0 ↔ Lr P 0 u)) → iS P.n x (fun c => Lr P 0 (2 ^ c)) → Q x M') : wp_M_eliminate F 71 M Q := by
  have hn := hg.2.1
  have hb := p2n hg
  have hR : ∀ M', pu_off 85 M M' → RL M' P := fun M' e => e.RL (by decide) hL
  show wp_M_eliminate_7 F 71 Q 0 M (((1 : Int32) <<< ((M.1 71 8) &&& 31)) - 1)
  rw [hL.1, mb_all (by omega)]
  refine pu_loop (2 ^ P.n - 1) (fun i z => z.2 = nI (2 ^ P.n - 1 - i) ∧ pu_off 85 M z.1 ∧ ∀ u, 2 ^ P.n - 1 - i < u → u < 2 ^ P.n → (z.1.1 85 u ≠ 0 ↔ u = 2 ^ P.n - 1)) (fun i z K hi hJ hK => ?_) (i := 0) (by omega) (by omega) ⟨rfl, pu_off.refl, fun u h1 h2 => absurd h1 (by omega)⟩
  obtain ⟨M1, y⟩ := z
  obtain ⟨rfl, j1, j2⟩ := hJ
  obtain ⟨s, es⟩ : ∃ s, s = 2 ^ P.n - 1 - i := ⟨_, rfl⟩
  rw [← es] at j2 ⊢
  have hL1 := hR M1 j1
  refine pk_le s 0 (fun hle => ?_) (fun hgt => ?_)
  · show wp_M_eliminate_41 F 71 Q M1 0 (((1 : Int32) <<< ((M1.1 71 8) &&& 31)) - 1)
    rw [hL1.1, mb_all (by omega)]
    refine pu_loop (2 ^ P.n - 1) (fun i z => ∃ x, z.2 = (x, nI (2 ^ P.n - 1 - i)) ∧ pu_off 85 M z.1 ∧ (∀ u, 1 ≤ u → u < 2 ^ P.n → (z.1.1 85 u ≠ 0 ↔ Lr P (2 ^ P.n - 1 - i) u)) ∧ iS P.n x (fun c => 2 ^ P.n - 1 - i < 2 ^ c ∧ Lr P 0 (2 ^ c))) (fun i z K hi hJ hK => ?_) (i := 0) (by omega) (by omega) ⟨0, rfl, j1, fun u h1 h2 => ?_, iS.no.congr (fun c hc => ⟨fun q => ?_, fun q => q.elim⟩)⟩
    · obtain ⟨M2, y⟩ := z
      obtain ⟨x, rfl, k1, k2, k3⟩ := hJ
      have hL2 := hR M2 k1
      obtain ⟨s, es⟩ : ∃ s, s = 2 ^ P.n - 1 - i := ⟨_, rfl⟩
      rw [← es] at k2 k3 ⊢
      refine pk_le s 0 (fun hle => h M2 x k1 (fun u h1 h2 => by rw [show (0 : Nat) = s by omega]; exact k2 u h1 h2) (k3.congr (fun c hc => ⟨fun q => ⟨?_, q⟩, fun q => q.2⟩))) (fun hgt => ⟨pk_in s 128 (by omega), ?_⟩)
      · have := Nat.pow_pos (n := c) (show 0 < 2 by decide)
        omega
      have em : nI s + (-1) = nI (2 ^ P.n - 1 - (i + 1)) := by
        rw [show s = 2 ^ P.n - 1 - (i + 1) + 1 by omega]
        exact pk_m1 _
      have next : ∀ M3 x', pu_off 85 M M3 → (∀ u, 1 ≤ u → u < 2 ^ P.n → (M3.1 85 u ≠ 0 ↔ Lr P (s - 1) u)) → iS P.n x' (fun c => s - 1 < 2 ^ c ∧ Lr P 0 (2 ^ c)) → K (M3, x', nI s + (-1)) := fun M3 x' l1 l2 l3 => hK (by omega) _ ⟨x', by rw [em], l1, fun u h1 h2 => by rw [show 2 ^ P.n - 1 - (i + 1) = s - 1 by omega]; exact l2 u h1 h2, by rw [show 2 ^ P.n - 1 - (i + 1) = s - 1 by omega]; exact l3⟩
      have same : (s &&& (s - 1) = 0 → ¬ Lr P s s) → iS P.n x (fun c => s - 1 < 2 ^ c ∧ Lr P 0 (2 ^ c)) := fun hs => k3.congr (fun c hc => ⟨fun q => ⟨?_, q.2⟩, fun q => ⟨by omega, q.2⟩⟩)
      · rw [nI_clamp (n := s) (by omega)]
        have go : ¬ (s &&& (s - 1) = 0 ∧ Lr P s s) → wp_M_eliminate_68 F 71 Q K M2 x (nI s) := fun hns => by
          refine ⟨pk_in s 128 (by omega), ?_⟩
          rw [nI_clamp (n := s) (by omega)]
          refine ⟨fun e => next M2 x k1 (fun u h1 h2 => (k2 u h1 h2).trans ⟨fun q => (Lr.step hg hgt (by omega)).mpr (Or.inl q), fun q => ((Lr.step hg hgt (by omega)).mp q).elim id (fun q => absurd ((k2 s (by omega) (by omega)).mpr q.1) (fun z => z e))⟩) (same (fun z1 z2 => hns ⟨z1, z2⟩)), fun ne => ?_⟩
          have hl : Lr P s s := (k2 s (by omega) (by omega)).mp ne
          have h2 : s &&& (s - 1) ≠ 0 := fun z => hns ⟨z, hl⟩
          refine sp_weakest hL2 hg (iS.num (by omega)) (by omega) (fun g l2 => ?_)
          refine pu_loop P.n (fun j z => z.2 = nI j ∧ pu_off 85 M z.1 ∧ ∀ u, 1 ≤ u → u < 2 ^ P.n → (z.1.1 85 u ≠ 0 ↔ (Lr P s u ∨ ∃ c, c < j ∧ Wk P (bs s) c ∧ u = s - 2 ^ c))) (fun j z K2 hj hJ hK2 => ?_) (i := 0) (by omega) (by omega) ⟨rfl, k1, fun u h1 h2 => (k2 u h1 h2).trans ⟨Or.inl, fun q => q.elim id (fun ⟨c, q1, _⟩ => absurd q1 (by omega))⟩⟩
          obtain ⟨M4, y⟩ := z
          obtain ⟨rfl, n1, n2⟩ := hJ
          refine pk_le P.n j (fun hle => next M4 x n1 (fun u h1 h3 => (n2 u h1 h3).trans ?_) (same (fun z => absurd z h2))) (fun hlt => l2.br1 hn hlt (fun hp => ?_) (fun np => hK2 hlt _ ⟨by rw [nI_1], n1, fun u h1 h3 => (n2 u h1 h3).trans ?_⟩)) (hR M4 n1).1
          · rw [Lr.step hg hgt (by omega)]
            constructor
            · rintro (q | ⟨c, q1, q2, q3⟩)
              · exact Or.inl q
              · exact Or.inr ⟨hl, h2, c, by omega, q2, q3⟩
            · rintro (q | ⟨-, -, c, q1, q2, q3⟩)
              · exact Or.inl q
              · exact Or.inr ⟨c, by omega, q2, q3⟩
          · have t7 := tb7 s (by omega) j (by omega) hp.1
            have hsl : s - 2 ^ j ≤ s := Nat.sub_le _ _
            rw [mb_one (by omega), mb_del, t7.2, nI_clamp (n := s - 2 ^ j) (by omega)]
            refine ⟨pk_in (s - 2 ^ j) 128 (by omega), hK2 hlt _ ⟨by rw [nI_1], n1.up, fun u h1 h3 => ?_⟩⟩
            by_cases e : u = s - 2 ^ j
            · subst e
              rw [pu_up1]
              exact ⟨fun _ => Or.inr ⟨j, by omega, hp, rfl⟩, fun _ => by decide⟩
            · rw [pu_up2 e]
              refine (n2 u h1 h3).trans ⟨?_, ?_⟩
              · rintro (q | ⟨c, q1, q2, q3⟩)
                · exact Or.inl q
                · exact Or.inr ⟨c, by omega, q2, q3⟩
              · rintro (q | ⟨c, q1, q2, q3⟩)
                · exact Or.inl q
                · have : c ≠ j := fun z => e (z ▸ q3)
                  exact Or.inr ⟨c, by omega, q2, q3⟩
          · constructor
            · rintro (q | ⟨c, q1, q2, q3⟩)
              · exact Or.inl q
              · exact Or.inr ⟨c, by omega, q2, q3⟩
            · rintro (q | ⟨c, q1, q2, q3⟩)
              · exact Or.inl q
              · have : c ≠ j := fun e => np (e ▸ q2)
                exact Or.inr ⟨c, by omega, q2, q3⟩
        refine ⟨fun e => go (fun q => (k2 s (by omega) (by omega)).mpr q.2 e), fun ne => ?_⟩
        have hl : Lr P s s := (k2 s (by omega) (by omega)).mp ne
        unfold wp_M_single
        rw [show nI s - 1 = nI (s - 1) from pk_sub (a := s) (b := 1) (by omega), mb_and]
        have := Nat.and_le_left (n := s) (m := s - 1)
        refine pk_eq (s &&& (s - 1)) 0 (fun e => ⟨fun z => absurd z (by decide), fun _ => ?_⟩) (fun ne2 => ⟨fun _ => go (fun q => ne2 q.1), fun z => absurd rfl z⟩)
        obtain ⟨c, hc, rfl⟩ := one7 s (by omega) hgt e
        have hcn : c < P.n := (Nat.pow_lt_pow_iff_right (by decide)).mp (show 2 ^ c < 2 ^ P.n by omega)
        refine next M2 _ k1 (fun u h1 h2 => (k2 u h1 h2).trans ⟨fun q => (Lr.step hg hgt (by omega)).mpr (Or.inl q), fun q => ((Lr.step hg hgt (by omega)).mp q).elim id (fun q => absurd e q.2.1)⟩) ?_
        rw [← mb_one (c := c) (by omega)]
        refine (k3.ins hn hcn).congr (fun d hd => ⟨fun q => ?_, fun q => ?_⟩)
        · by_cases z : d = c
          · exact Or.inr z
          · refine Or.inl ⟨?_, q.2⟩
            have : 2 ^ d ≠ 2 ^ c := fun w => z ((Nat.pow_right_inj (by decide)).mp w)
            omega
        · rcases q with q | q
          · exact ⟨by omega, q.2⟩
          · subst q
            exact ⟨by omega, hl.mono (by omega)⟩
      · by_cases e : s = 2 ^ c
        · subst e
          have hcc : 2 ^ c &&& (2 ^ c - 1) = 0 := pw7 c (by omega)
          exact absurd (q.2.up (Nat.le_refl _)) (hs hcc)
        · omega
    · show M1.1 85 u ≠ 0 ↔ _
      rw [Nat.sub_zero, Lr.init hg]
      exact j2 u (by omega) h2
    · have := Nat.pow_lt_pow_right (a := 2) (by decide) hc
      omega
  · show ((nI s = (((1 : Int32) <<< ((M1.1 71 8) &&& 31)) - 1) → _) ∧ (¬ nI s = (((1 : Int32) <<< ((M1.1 71 8) &&& 31)) - 1) → _))
    rw [hL1.1, mb_all (by omega)]
    have em : nI s + (-1) = nI (2 ^ P.n - 1 - (i + 1)) := by
      rw [show s = 2 ^ P.n - 1 - (i + 1) + 1 by omega]
      exact pk_m1 _
    refine pk_eq s (2 ^ P.n - 1) (fun e => ⟨pk_in s 128 (by omega), nar1, hK (by omega) _ ⟨em, j1.up, fun u h1 h2 => ?_⟩⟩) (fun ne => ⟨pk_in s 128 (by omega), nar0, hK (by omega) _ ⟨em, j1.up, fun u h1 h2 => ?_⟩⟩)
    · rw [nI_clamp (n := s) (by omega)]
      have : u = s := by omega
      subst this
      rw [pu_up1]
      exact ⟨fun _ => e, fun _ => by decide⟩
    · rw [nI_clamp (n := s) (by omega)]
      by_cases z : u = s
      · subst z
        rw [pu_up1]
        exact ⟨fun q => absurd rfl q, fun q => absurd q ne⟩
      · rw [pu_up2 z]
        exact j2 u (by omega) h2
