/-! agreement: the least disagreement of each set -/
def ov (P : pv) (c s : Nat) : Nat := su (fun b => if s.testBit b = true then P.ah b c else 0) P.n
def tri (k : Nat) : Nat := k * (k - 1) / 2
theorem ad7 : ∀ i, i < 7 → ∀ s, s < 64 → s < 2 ^ i → ∀ b, b < 7 → (2 ^ i + s).testBit b = (s.testBit b || decide (b = i)) := by decide +kernel
theorem nb7 : ∀ s, s < 128 → ∀ c, c < 7 → s.testBit c = false → md s c = s := by decide +kernel
theorem pc7 : ∀ s, s < 128 → ∀ c, c < 7 → s.testBit c = true → pc (s - 2 ^ c) + 1 = pc s := by decide +kernel
theorem ex7 : ∀ s, s < 128 → 0 < s → ∃ c, c < 7 ∧ s.testBit c = true := by decide +kernel
theorem sm7 : ∀ i, i < 7 → ∀ s, s < 64 → s < 2 ^ i → s.testBit i = false := by decide +kernel
theorem tr7 : ∀ k, k < 7 → tri k + k = tri (k + 1) ∧ tri (k + 1) ≤ 21 := by decide +kernel
theorem bt_n : ∀ n, n < 8 → ∀ s, s < 128 → s < 2 ^ n → ∀ c, c < 7 → s.testBit c = true → c < n := by decide +kernel
theorem su_more {g : Nat → Nat} {n m : Nat} (h : n ≤ m) : su g n ≤ su g m := by
  induction m with
  | zero => rw [show n = 0 by omega]; exact Nat.le_refl _
  | succ m ih =>
    by_cases e : n = m + 1
    · subst e; exact Nat.le_refl _
    · show _ ≤ su g m + g m
      have := ih (by omega)
      omega
theorem ov_le {P : pv} (hg : gd P) (c s : Nat) : ov P c s ≤ pc s * 2000001 := by
  have h1 : ov P c s ≤ su (fun b => 2000001 * (s.testBit b).toNat) P.n := su_le (fun b _ => by
    have := ah_le hg b c
    by_cases e : s.testBit b = true
    · rw [if_pos e, e]; simpa using this
    · rw [if_neg e]; exact Nat.zero_le _)
  rw [su_mul] at h1
  have h2 := su_more (g := fun b => (s.testBit b).toNat) hg.2.1
  unfold pc
  have := Nat.mul_le_mul_left 2000001 h2
  omega
theorem ov_0 {P : pv} {c : Nat} : ov P c 0 = 0 := su_zero (fun b _ => by simp)
theorem ov_add {P : pv} (hg : gd P) {c i s : Nat} (hi : i < P.n) (hs : s < 2 ^ i) : ov P c (2 ^ i + s) = ov P c s + P.ah i c := by
  have hn := hg.2.1
  have h64 : 2 ^ i ≤ 2 ^ 6 := Nat.pow_le_pow_right (by decide) (by omega)
  have e : ov P c (2 ^ i + s) = su (fun b => (if s.testBit b = true then P.ah b c else 0) + (if b = i then P.ah b c else 0)) P.n := su_congr (fun b hb => by
    show (if (2 ^ i + s).testBit b = true then P.ah b c else 0) = _
    rw [ad7 i (by omega) s (by omega) hs b (by omega)]
    by_cases z : b = i
    · subst z
      rw [sm7 b (by omega) s (by omega) hs]
      simp
    · simp [z])
  rw [e, su_add, su_one (t := i) hi (fun s _ hne => if_neg hne), if_pos rfl]
  rfl
def LTp (P : pv) (L : Nat → Nat) (k : Nat) : Prop := L 0 = 0 ∧ ∀ s, 0 < s → s < k → (∃ c, c < P.n ∧ s.testBit c = true ∧ L s = L (s - 2 ^ c) + ov P c (s - 2 ^ c)) ∧ ∀ c, c < P.n → s.testBit c = true → L s ≤ L (s - 2 ^ c) + ov P c (s - 2 ^ c)
theorem lt_sub {s c : Nat} (hs : s < 128) (hc : c < 7) (h : s.testBit c = true) : s - 2 ^ c < s := by
  have := (tb7 s hs c hc h).1
  have := Nat.pow_pos (n := c) (show 0 < 2 by decide)
  omega
theorem LTp.uniq {P : pv} (hg : gd P) {L L' : Nat → Nat} {k : Nat} (h : LTp P L k) (g : LTp P L' k) (hk : k ≤ 2 ^ P.n) : ∀ s, s < k → L s = L' s := by
  intro s
  have hb := p2n hg
  have hn := hg.2.1
  induction s using Nat.strongRecOn with
  | _ s ih =>
    intro hs
    rcases Nat.eq_zero_or_pos s with z | z
    · subst z; rw [h.1, g.1]
    · obtain ⟨⟨c, q1, q2, q3⟩, q4⟩ := h.2 s z hs
      obtain ⟨⟨d, r1, r2, r3⟩, r4⟩ := g.2 s z hs
      have l1 := lt_sub (by omega) (by omega) q2
      have l2 := lt_sub (by omega) (by omega) r2
      have e1 := ih _ l1 (by omega)
      have e2 := ih _ l2 (by omega)
      have a1 := r4 c q1 q2
      have a2 := q4 d r1 r2
      omega
theorem LTp.le {P : pv} (hg : gd P) {L : Nat → Nat} {k : Nat} (h : LTp P L k) (hk : k ≤ 2 ^ P.n) : ∀ s, s < k → L s ≤ tri (pc s) * 2000001 := by
  intro s
  have hb := p2n hg
  have hn := hg.2.1
  induction s using Nat.strongRecOn with
  | _ s ih =>
    intro hs
    rcases Nat.eq_zero_or_pos s with z | z
    · subst z; rw [h.1]; exact Nat.zero_le _
    · obtain ⟨⟨c, q1, q2, q3⟩, -⟩ := h.2 s z hs
      have l1 := lt_sub (by omega) (by omega) q2
      have e1 := ih _ l1 (by omega)
      have e2 := ov_le hg c (s - 2 ^ c)
      have e3 := pc7 s (by omega) c (by omega) q2
      have e4 := pc_le s (by omega)
      have e5 := (tr7 (pc (s - 2 ^ c)) (by omega)).1
      rw [← e3, ← e5, Nat.add_mul]
      omega
theorem LTp.val {P : pv} (hg : gd P) {L : Nat → Nat} {k : Nat} (h : LTp P L k) (hk : k ≤ 2 ^ P.n) {s c : Nat} (hs : s < 2 ^ P.n) (hc : c < P.n) (hb : s.testBit c = true) (hr : s - 2 ^ c < k) : L (s - 2 ^ c) + ov P c (s - 2 ^ c) ≤ 42000021 := by
  have hb2 := p2n hg
  have hn := hg.2.1
  have e1 := h.le hg hk _ hr
  have e2 := ov_le hg c (s - 2 ^ c)
  have e3 := pc7 s (by omega) c (by omega) hb
  have e4 := pc_le s (by omega)
  have e5 := tr7 (pc (s - 2 ^ c)) (by omega)
  have : (tri (pc (s - 2 ^ c)) + pc (s - 2 ^ c)) * 2000001 ≤ 21 * 2000001 := Nat.mul_le_mul_right _ (by omega)
  rw [Nat.add_mul] at this
  omega
theorem LTp.ext {P : pv} {L : Nat → Nat} {k b : Nat} (hg : gd P) (h : LTp P L k) (hk0 : 0 < k) (hk : k < 2 ^ P.n) (h1 : ∃ c, c < P.n ∧ k.testBit c = true ∧ b = L (k - 2 ^ c) + ov P c (k - 2 ^ c)) (h2 : ∀ c, c < P.n → k.testBit c = true → b ≤ L (k - 2 ^ c) + ov P c (k - 2 ^ c)) : LTp P (uf L k b) (k + 1) := by
  have hb := p2n hg
  have hn := hg.2.1
  refine ⟨by rw [uf_n (by omega)]; exact h.1, fun s hs0 hs => ?_⟩
  have low : ∀ c, c < P.n → s.testBit c = true → uf L k b (s - 2 ^ c) = L (s - 2 ^ c) := fun c hc hbt => by
    have := lt_sub (by omega) (by omega) hbt
    exact uf_n (by omega)
  by_cases e : s = k
  · subst e
    rw [uf_s]
    obtain ⟨c, q1, q2, q3⟩ := h1
    exact ⟨⟨c, q1, q2, by rw [low c q1 q2]; exact q3⟩, fun c hc hbt => by rw [low c hc hbt]; exact h2 c hc hbt⟩
  · rw [uf_n e]
    obtain ⟨⟨c, q1, q2, q3⟩, q4⟩ := h.2 s hs0 (by omega)
    exact ⟨⟨c, q1, q2, by rw [low c q1 q2]; exact q3⟩, fun c hc hbt => by rw [low c hc hbt]; exact q4 c hc hbt⟩
/-- the class's tables -/
def cag (M : om_M) (P : pv) : Prop := ∀ c s, c < P.n → s < 2 ^ P.n → M.1 (41 + c) s = nI (ov P c s)
theorem sp_sumAgainst {F o c : Nat} {P : pv} {M M0 : om_M} {Q : om_M → Prop} (hP : RP o M0 P) (hg : gd P) (ho : o = 1 ∨ o = 49) (hc : c < P.n) (h0 : cr M0 M) (ht : ta M0) (hF : 1000 ≤ F) (h : ∀ M', cr M0 M' → (∀ q, q ≠ 41 + c → M'.1 q = M.1 q) → (∀ s, s < 2 ^ P.n → M'.1 (41 + c) s = nI (ov P c s)) → Q M') : wp_A_sumAgainst F 38 o (nI c) M Q := by
  have hn := hg.2.1
  have hb := p2n hg
  refine ⟨pk_in c 7 (by omega), ?_⟩
  rw [nI_clamp (n := c) (by omega), show 38 + 2 + 1 + c = 41 + c by omega]
  refine pu_loop P.n (fun i z => z.2 = nI i ∧ cr M0 z.1 ∧ (∀ q, q ≠ 41 + c → z.1.1 q = M.1 q) ∧ ∀ s, s < 2 ^ i → z.1.1 (41 + c) s = nI (ov P c s)) (fun i z K hi hJ hK => ?_) (i := 0) (by omega) (by omega) ⟨rfl, h0, fun _ _ => rfl, fun s hs => ?_⟩
  · obtain ⟨M1, y⟩ := z
    obtain ⟨rfl, j1, j2, j3⟩ := hJ
    have hP1 := j1.RP ho hP
    refine pk_le P.n i (fun hle => ?_) (fun hlt => ⟨pk_in i 7 (by omega), pk_in c 7 (by omega), ?_⟩) hP1.1
    · rw [show i = P.n by omega] at j3
      exact h M1 j1 j2 j3
    · have hp : 2 ^ i < 2 ^ P.n := Nat.pow_lt_pow_right (by decide) hlt
      have hp2 : 2 ^ (i + 1) ≤ 2 ^ P.n := Nat.pow_le_pow_right (by decide) hlt
      have hp3 : 2 ^ (i + 1) = 2 ^ i + 2 ^ i := by rw [Nat.pow_succ]; omega
      have hp0 := Nat.pow_pos (n := i) (show 0 < 2 by decide)
      rw [nI_clamp (n := c) (by omega), nI_clamp (n := i) (by omega), show (M1, nI i).1.1 (o + 12 + 1 + i) c = _ from hP1.2.2.2.2.2.2.2.2 i c (by omega) (by omega), mb_one (by omega)]
      refine pu_loop (2 ^ i) (fun j z => z.2 = nI j ∧ cr M0 z.1 ∧ (∀ q, q ≠ 41 + c → z.1.1 q = M.1 q) ∧ ∀ s, s < 2 ^ i + j → z.1.1 (41 + c) s = nI (ov P c s)) (fun j z K2 hj hJ hK2 => ?_) (i := 0) (by omega) (by omega) ⟨rfl, j1, j2, fun s hs => j3 s (by omega)⟩
      obtain ⟨M2, y⟩ := z
      obtain ⟨rfl, k1, k2, k3⟩ := hJ
      refine pk_le (2 ^ i) j (fun hle => hK hlt _ ⟨by rw [nI_1], k1, k2, fun s hs => k3 s (by omega)⟩) (fun hj2 => ?_)
      rw [nI_add]
      refine ⟨pk_in j 128 (by omega), pk_in (2 ^ i + j) 128 (by omega), hK2 hj2 _ ?_⟩
      rw [nI_clamp (n := 2 ^ i + j) (by omega), nI_clamp (n := j) (by omega)]
      refine ⟨by rw [nI_1], k1.up (by omega) (by omega), fun q hq => by rw [om_up_n _ _ hq]; exact k2 q hq, fun s hs => ?_⟩
      by_cases e : s = 2 ^ i + j
      · subst e
        rw [pu_up1, show (M2, nI j).1.1 (41 + c) j = _ from k3 j (by omega), nI_add, ov_add hg hlt hj2]
      · rw [pu_up2 e]; exact k3 s (by omega)
  · have : s = 0 := by
      have : s < 1 := hs
      omega
    subst this
    show M.1 (41 + c) 0 = _
    rw [ov_0]
    exact (h0.2.2 ht).2 c (by omega)
theorem sp_weigh {F o : Nat} {P : pv} {M : om_M} {Q : om_M → Prop} (hP : RP o M P) (hg : gd P) (ho : o = 1 ∨ o = 49) (ht : ta M) (hF : 1000 ≤ F) (h : ∀ M' L, cr M M' → cag M' P → (∀ s, s < 2 ^ P.n → M'.1 39 s = nI (L s)) → LTp P L (2 ^ P.n) → Q M') : wp_A_weigh F 38 o M Q := by
  have hn := hg.2.1
  have hb := p2n hg
  refine pu_loop P.n (fun i z => z.2 = nI i ∧ cr M z.1 ∧ ∀ c s, c < i → s < 2 ^ P.n → z.1.1 (41 + c) s = nI (ov P c s)) (fun i z K hi hJ hK => ?_) (i := 0) (by omega) (by omega) ⟨rfl, cr.refl, fun c s hc => absurd hc (by omega)⟩
  obtain ⟨M1, y⟩ := z
  obtain ⟨rfl, j1, j2⟩ := hJ
  have hP1 := j1.RP ho hP
  refine pk_le P.n i (fun hle => ?_) (fun hlt => ?_) hP1.1
  · have hca : cag M1 P := fun c s hc hs => j2 c s (by omega) hs
    show wp_A_weigh_29 F 38 o Q (((1 : Int32) <<< ((M1.1 o 5) &&& 31)) - 1) M1 1
    rw [hP1.1, mb_all (by omega)]
    refine pu_loop (2 ^ P.n) (fun k z => ∃ L, z.2 = nI k ∧ 1 ≤ k ∧ cr M z.1 ∧ cag z.1 P ∧ (∀ s, s < k → z.1.1 39 s = nI (L s)) ∧ LTp P L k) (fun k z K hi hJ hK => ?_) (i := 1) (by omega) (by omega) ⟨fun _ => 0, rfl, by omega, j1, hca, fun s hs => ?_, rfl, fun s h1 h2 => absurd h1 (by omega)⟩
    · obtain ⟨M2, y⟩ := z
      obtain ⟨L, rfl, hk1, k1, k2, k3, k4⟩ := hJ
      refine pk_lt (2 ^ P.n - 1) k (fun hgt => ?_) (fun hle2 => ?_)
      · have e : k = 2 ^ P.n := by omega
        subst e
        exact h M2 L k1 k2 k3 k4
      · refine pu_loop P.n (fun j z => ∃ b, z = (M2, nI b, nI j) ∧ b ≤ 42000021 ∧ (∀ c, c < j → k.testBit c = true → b ≤ L (k - 2 ^ c) + ov P c (k - 2 ^ c)) ∧ (b = 42000021 ∨ ∃ c, c < j ∧ k.testBit c = true ∧ b = L (k - 2 ^ c) + ov P c (k - 2 ^ c))) (fun c z K2 hj hJ hK2 => ?_) (i := 0) (by omega) (by omega) ⟨42000021, rfl, by omega, fun c hc => absurd hc (by omega), Or.inl rfl⟩
        obtain ⟨b, rfl, l1, l2, l3⟩ := hJ
        refine pk_le P.n c (fun hle3 => ⟨pk_in k 128 (by omega), hK (by omega) _ ?_⟩) (fun hc => ?_) (k1.RP ho hP).1
        · rw [nI_clamp (n := k) (by omega)]
          have hex : ∃ c, c < P.n ∧ k.testBit c = true ∧ b = L (k - 2 ^ c) + ov P c (k - 2 ^ c) := by
            rcases l3 with l3 | ⟨d, q1, q2, q3⟩
            · obtain ⟨d, q1, q2⟩ := ex7 k (by omega) hk1
              have hd : d < P.n := bt_n P.n (by omega) k (by omega) (by omega) d q1 q2
              have lt := lt_sub (by omega) (by omega) q2
              have v := k4.val hg (by omega) (by omega) hd q2 lt
              have := l2 d (by omega) q2
              exact ⟨d, hd, q2, by omega⟩
            · exact ⟨d, by omega, q2, q3⟩
          refine ⟨uf L k b, by rw [nI_1], by omega, k1.up (by omega) (by omega), fun d s hd hs => by rw [om_up_n _ _ (by omega)]; exact k2 d s hd hs, fun s hs => ?_, k4.ext hg hk1 (by omega) hex (fun d hd => l2 d (by omega))⟩
          by_cases e : s = k
          · subst e; rw [uf_s]; exact pu_up1
          · rw [uf_n e]; exact (pu_up2 e).trans (k3 s (by omega))
        · rw [mb_one (by omega), mb_del]
          rcases hbt : k.testBit c with _ | _
          · rw [nb7 k (by omega) c (by omega) hbt]
            refine ⟨fun _ => hK2 hc _ ⟨b, by rw [nI_1], l1, fun d hd hdb => ?_, ?_⟩, fun e => absurd rfl e⟩
            · by_cases e : d = c
              · subst e; rw [hbt] at hdb; cases hdb
              · exact l2 d (by omega) hdb
            · exact l3.elim Or.inl (fun ⟨d, q1, q2, q3⟩ => Or.inr ⟨d, by omega, q2, q3⟩)
          · have t7 := tb7 k (by omega) c (by omega) hbt
            have lt := lt_sub (by omega) (by omega) hbt
            have v := k4.val hg (by omega) (by omega) hc hbt lt
            rw [t7.2, nI_clamp (n := k - 2 ^ c) (by omega), nI_clamp (n := c) (by omega), show (M2, nI b, nI c).1.1 (38 + 1) (k - 2 ^ c) = _ from k3 _ lt, show (M2, nI b, nI c).1.1 (38 + 2 + 1 + c) (k - 2 ^ c) = nI (ov P c (k - 2 ^ c)) by
              rw [show 38 + 2 + 1 + c = 41 + c by omega]
              exact k2 c _ hc (by omega), nI_add]
            refine pk_eq (k - 2 ^ c) k (fun e => absurd e (by omega)) (fun _ => ⟨pk_in (k - 2 ^ c) 128 (by omega), pk_in c 7 (by omega), hK2 hc _ ?_⟩)
            by_cases q : L (k - 2 ^ c) + ov P c (k - 2 ^ c) < b
            · refine ⟨L (k - 2 ^ c) + ov P c (k - 2 ^ c), by rw [if_pos (nI_lt q (by omega)), nI_1], v, fun d hd hdb => ?_, Or.inr ⟨c, by omega, hbt, rfl⟩⟩
              by_cases e : d = c
              · subst e; exact Nat.le_refl _
              · have := l2 d (by omega) hdb
                omega
            · refine ⟨b, by rw [if_neg (nI_nlt (by omega) (by omega)), nI_1], l1, fun d hd hdb => ?_, l3.elim Or.inl (fun ⟨d, q1, q2, q3⟩ => Or.inr ⟨d, by omega, q2, q3⟩)⟩
              by_cases e : d = c
              · subst e; omega
              · exact l2 d (by omega) hdb
    · have : s = 0 := by omega
      subst this
      exact (j1.2.2 ht).1
  · refine sp_sumAgainst hP hg ho hlt j1 ht hF (fun M2 l1 l2 l3 => hK hlt _ ⟨by rw [nI_1], l1, fun c s hc hs => ?_⟩)
    by_cases e : c = i
    · subst e; exact l3 s hs
    · show M2.1 (41 + c) s = _
      rw [l2 _ (by omega)]; exact j2 c s (by omega) hs
/-- who leads a best order of the set s -/
def ldr (P : pv) (L : Nat → Nat) (s c : Nat) : Prop := s.testBit c = true ∧ L (s - 2 ^ c) + ov P c (s - 2 ^ c) = L s
theorem sp_bestLeaders {F s : Nat} {P : pv} {L : Nat → Nat} {M : om_M} {Q : Int32 → om_M → Prop} (hg : gd P) (ha : cag M P) (hl : ∀ s, s < 2 ^ P.n → M.1 39 s = nI (L s)) (hL : LTp P L (2 ^ P.n)) (hs : s < 2 ^ P.n) (hF : 10 ≤ F) (h : ∀ x, iS P.n x (ldr P L s) → Q x M) : wp_A_bestLeaders F 38 (nI s) (nI P.n) M Q := by
  have hn := hg.2.1
  have hb := p2n hg
  refine pu_loop P.n (fun i z => ∃ x, z = (M, x, nI i) ∧ iS P.n x (fun c => c < i ∧ ldr P L s c)) (fun c z K hi hJ hK => ?_) (i := 0) (by omega) (by omega) ⟨0, rfl, iS.no.congr (fun c _ => ⟨fun q => absurd q.1 (by omega), fun q => q.elim⟩)⟩
  obtain ⟨x, rfl, hx⟩ := hJ
  refine pk_le P.n c (fun hle => h x (hx.congr (fun d hd => ⟨fun q => ⟨by omega, q⟩, fun q => q.2⟩))) (fun hc => ?_)
  have out : ¬ ldr P L s c → wp_A_bestLeaders_61 F 38 (nI s) (nI P.n) Q K M x (nI c) := fun hne => hK hc _ ⟨x, by rw [nI_1], hx.congr (fun d hd => ⟨fun q => ⟨by
    have : d ≠ c := fun e => hne (e ▸ q.2)
    have := q.1
    omega, q.2⟩, fun q => ⟨by have := q.1; omega, q.2⟩⟩)⟩
  rw [mb_one (by omega), mb_del]
  rcases hbt : s.testBit c with _ | _
  · rw [nb7 s (by omega) c (by omega) hbt]
    exact ⟨fun _ => out (fun q => by rw [q.1] at hbt; cases hbt), fun e => absurd rfl e⟩
  · have t7 := tb7 s (by omega) c (by omega) hbt
    have lt := lt_sub (by omega) (by omega) hbt
    have v := hL.val hg (Nat.le_refl _) hs hc hbt (by omega)
    have v2 := (hL.2 s (by omega) hs).2 c hc hbt
    rw [t7.2, nI_clamp (n := s - 2 ^ c) (by omega), nI_clamp (n := c) (by omega), nI_clamp (n := s) (by omega), show (M, x, nI c).1.1 (38 + 1) (s - 2 ^ c) = _ from hl _ (by omega), show (M, x, nI c).1.1 (38 + 1) s = _ from hl s hs, show (M, x, nI c).1.1 (38 + 2 + 1 + c) (s - 2 ^ c) = nI (ov P c (s - 2 ^ c)) by
      rw [show 38 + 2 + 1 + c = 41 + c by omega]
      exact ha c _ hc (by omega), nI_add]
    refine pk_eq (s - 2 ^ c) s (fun e => absurd e (by omega)) (fun _ => ⟨pk_in (s - 2 ^ c) 128 (by omega), pk_in c 7 (by omega), pk_in s 128 (by omega), pk_eq (L (s - 2 ^ c) + ov P c (s - 2 ^ c)) (L s) (fun e => hK hc _ ⟨x ||| nI (2 ^ c), by rw [nI_1], ?_⟩) (fun ne => out (fun q => ne q.2))⟩)
    · rw [← mb_one (c := c) (by omega)]
      refine (hx.ins hn hc).congr (fun d hd => ⟨fun q => ?_, fun q => ?_⟩)
      · by_cases z : d = c
        · exact Or.inr z
        · exact Or.inl ⟨by have := q.1; omega, q.2⟩
      · rcases q with q | q
        · exact ⟨by have := q.1; omega, q.2⟩
        · subst q; exact ⟨by omega, hbt, e⟩
def Wag (P : pv) (c : Nat) : Prop := ∀ L, LTp P L (2 ^ P.n) → ldr P L (2 ^ P.n - 1) c
theorem Wag.iff {P : pv} (hg : gd P) {L : Nat → Nat} (h : LTp P L (2 ^ P.n)) (c : Nat) : Wag P c ↔ ldr P L (2 ^ P.n - 1) c := by
  have hb := p2n hg
  refine ⟨fun w => w L h, fun w L' g => ?_⟩
  have u := h.uniq hg g (Nat.le_refl _)
  refine ⟨w.1, ?_⟩
  rw [← u (2 ^ P.n - 1 - 2 ^ c) (Nat.lt_of_le_of_lt (Nat.sub_le _ _) (by omega)), ← u (2 ^ P.n - 1) (by omega)]
  exact w.2
theorem sp_Awinners {F o : Nat} {P : pv} {M : om_M} {Q : Int32 → om_M → Prop} (hP : RP o M P) (hg : gd P) (ho : o = 1 ∨ o = 49) (ht : ta M) (hF : 1000 ≤ F) (h : ∀ M' x, cr M M' → iS P.n x (Wag P) → Q x M') : wp_A_winnerSet F 38 o M Q := by
  have hn := hg.2.1
  have hb := p2n hg
  refine sp_weigh hP hg ho ht hF (fun M1 L j1 j2 j3 j4 => ?_)
  have hP1 := j1.RP ho hP
  show wp_A_bestLeaders F 38 (((1 : Int32) <<< ((M1.1 o 5) &&& 31)) - 1) (M1.1 o 5) M1 _
  rw [hP1.1, mb_all (by omega)]
  exact sp_bestLeaders hg j2 j3 j4 (by omega) (by omega) (fun x hx => h M1 x j1 (hx.congr (fun c _ => Wag.iff hg j4 c)))
