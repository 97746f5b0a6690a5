/-! locks: the model -/
theorem lb_sh : ∀ c, c < 62 → ((lN c &&& 63).toBitVec.smod 64).toNat = c := by decide +kernel
theorem lb_shr {d c : Nat} (hd : d < 2 ^ 63) (hc : c < 62) : lN d >>> (lN c &&& 63) = lN (d / 2 ^ c) := by
  apply Int64.toInt_inj.mp
  have h2 : d / 2 ^ c ≤ d := Nat.div_le_self _ _
  rw [pk_lT (n := d / 2 ^ c) (by omega)]
  show ((lN d).toBitVec.sshiftRight ((lN c &&& 63).toBitVec.smod 64).toNat).toInt = _
  rw [lb_sh c hc, BitVec.toInt_sshiftRight]
  show (lN d).toInt >>> c = _
  rw [pk_lT hd, Int.shiftRight_eq_div_pow]
  rfl
theorem lb_and (a b : Nat) : lN a &&& lN b = lN (a &&& b) := by
  apply Int64.toBitVec_inj.mp
  rw [Int64.toBitVec_and]
  show BitVec.ofNat 64 a &&& BitVec.ofNat 64 b = BitVec.ofNat 64 (a &&& b)
  apply BitVec.eq_of_toNat_eq
  simp [Nat.and_mod_two_pow]
theorem lb_or (a b : Nat) : lN a ||| lN b = lN (a ||| b) := by
  apply Int64.toBitVec_inj.mp
  rw [Int64.toBitVec_or]
  show BitVec.ofNat 64 a ||| BitVec.ofNat 64 b = BitVec.ofNat 64 (a ||| b)
  apply BitVec.eq_of_toNat_eq
  simp [Nat.or_mod_two_pow]
theorem lb_get {d c : Nat} (hd : d < 2 ^ 63) (hc : c < 62) : (lN d >>> (lN c &&& 63)) &&& 1 = lN (d.testBit c).toNat := by
  rw [lb_shr hd hc, show (1 : Int64) = lN 1 from rfl, lb_and, Nat.and_one_is_mod, Nat.testBit_eq_decide_div_mod_eq]
  have h : d / 2 ^ c % 2 = 0 ∨ d / 2 ^ c % 2 = 1 := by omega
  rcases h with h | h <;> rw [h] <;> rfl
theorem lb_one : ∀ c, c < 62 → (1 : Int64) <<< (lN c &&& 63) = lN (2 ^ c) := by decide +kernel
theorem lb_ins {d c : Nat} (hc : c < 62) : lN d ||| ((1 : Int64) <<< (lN c &&& 63)) = lN (mi d c) := by
  rw [lb_one c hc, lb_or]
  rfl
theorem sp_sooner {F a b c d : Nat} {P : pv} {M : om_M} {Q : Int32 → om_M → Prop} (hL : RL M P) (hR : RT M P) (hg : gd P) (h : pr P a b) (g : pr P c d) (hne : ¬ (a = c ∧ b = d)) (hF : 10 ≤ F) (h1 : key P c d < key P a b → Q 1 M) (h0 : ¬ key P c d < key P a b → Q 0 M) : wp_M_sooner F 71 (nI a) (nI b) (nI c) (nI d) M Q := by
  have hn := hg.2.1
  have a1 := h.1
  have a2 := h.2.1
  have a3 := g.1
  have a4 := g.2.1
  have b1 := ah_le hg a b
  have b2 := ah_le hg c d
  unfold wp_M_sooner
  rw [i7, i7, nI_clamp (n := 7 * a + b) (by omega), nI_clamp (n := 7 * c + d) (by omega), hR a b (by omega) (by omega), hR c d (by omega) (by omega)]
  obtain ⟨l1, e1⟩ := tpl_lt hg h.1
  obtain ⟨l2, e2⟩ := tpl_lt hg h.2.1
  obtain ⟨l3, e3⟩ := tpl_lt hg g.1
  obtain ⟨l4, e4⟩ := tpl_lt hg g.2.1
  have tq : ∀ k, k < P.n → ∀ x, P.ti k = x → tpl P x = k := fun k hk x e => by rw [← e]; exact tpl_eq hg hk
  refine ⟨pk_in (7 * a + b) 49 (by omega), pk_in (7 * c + d) 49 (by omega), pk_eq (P.ah a b) (P.ah c d) (fun e => pk_eq a c (fun eac => ?_) (fun nac => ?_)) (fun ne => pk_le (P.ah a b) (P.ah c d) (fun q => h0 ?_) (fun q => h1 ?_))⟩
  · refine sp_tiePlace hL hg a2 hF (fun k hk ek => sp_tiePlace hL hg a4 hF (fun k' hk' ek' => ?_))
    have t1 := tq k hk b ek
    have t2 := tq k' hk' d ek'
    have hbd : tpl P b ≠ tpl P d := fun z => hne ⟨eac, by rw [← e2, z, e4]⟩
    refine pk_le k' k (fun q => h0 ?_) (fun q => h1 ?_)
    · unfold key; rw [eac] at e ⊢; omega
    · unfold key; rw [eac] at e ⊢; omega
  · refine sp_tiePlace hL hg a1 hF (fun k hk ek => sp_tiePlace hL hg a3 hF (fun k' hk' ek' => ?_))
    have t1 := tq k hk a ek
    have t2 := tq k' hk' c ek'
    have hac : tpl P a ≠ tpl P c := fun z => nac (by rw [← e1, z, e3])
    refine pk_le k' k (fun q => h0 ?_) (fun q => h1 ?_)
    · unfold key; omega
    · unfold key; omega
  · unfold key; omega
  · unfold key; omega
def lkt (M : om_M) (E : Nat → Nat → Prop) : Prop := ∀ p, p < 49 → (M.1 (71 + 13) p ≠ 0 ↔ E (p / 7) (p % 7))
noncomputable def sz (n : Nat) (p : Nat → Prop) : Nat := su (fun c => ci (p c) 1) n
theorem sz_le {n : Nat} {p : Nat → Prop} : sz n p ≤ n := by
  have := su_max (n := n) (g := fun c => ci (p c) 1) (m := 1) (fun t _ => ci_le)
  unfold sz
  omega
theorem sz_lt {n c : Nat} {p q : Nat → Prop} (h : ∀ c, c < n → p c → q c) (hc : c < n) (h1 : q c) (h2 : ¬ p c) : sz n p < sz n q := by
  refine su_lt (t := c) (fun s hs => ?_) hc ?_
  · by_cases e : p s
    · rw [ci_pos e, ci_pos (h s hs e)]; exact Nat.le_refl _
    · rw [ci_neg e]; exact Nat.zero_le _
  · rw [ci_neg h2, ci_pos h1]; exact Nat.zero_lt_one
theorem sz_congr {n : Nat} {p q : Nat → Prop} (h : ∀ c, c < n → (p c ↔ q c)) : sz n p = sz n q := su_congr (fun c hc => by
  by_cases e : p c
  · rw [ci_pos e, ci_pos ((h c hc).mp e)]
  · rw [ci_neg e, ci_neg (fun z => e ((h c hc).mpr z))])
theorem sz_1 {n c : Nat} {p : Nat → Prop} (hc : c < n) (h : p c) : 1 ≤ sz n p := by
  have := sz_lt (n := n) (p := fun _ => False) (q := p) (fun _ _ q => q.elim) hc h id
  omega
/-- found so far in a round: q comes of p, found from x0 -/
def fnd (P : pv) (E : Nat → Nat → Prop) (x0 : Nat) (p q : Nat → Prop) (a b : Nat) : Prop := (∀ c, c < P.n → p c → q c) ∧ (∀ c, c < P.n → q c → Rc E x0 c) ∧ (((∀ c, c < P.n → (q c ↔ p c)) ∧ ∀ x y, x < P.n → y < P.n → (x < a ∨ (x = a ∧ y < b)) → p x → E x y → p y) ∨ sz P.n p < sz P.n q)
theorem sp_leads {F a b : Nat} {P : pv} {E : Nat → Nat → Prop} {M : om_M} {Q : Int32 → om_M → Prop} (hL : M.1 71 8 = nI P.n) (hg : gd P) (ht : lkt M E) (hE : ∀ x y, E x y → pr P x y) (ha : a < P.n) (hb : b < P.n) (hF : 10 ≤ F) (h1 : Rc E a b → Q 1 M) (h0 : ¬ Rc E a b → Q 0 M) : wp_M_leads F 71 (nI a) (nI b) M Q := by
  have hn := hg.2.1
  refine pu_loop P.n (fun k z => ∃ x p, z = (M, x, nI k) ∧ iS P.n x p ∧ p a ∧ (∀ c, c < P.n → p c → Rc E a c) ∧ ((∀ x y, x < P.n → y < P.n → p x → E x y → p y) ∨ k + 1 ≤ sz P.n p)) (fun k z K hi hJ hK => ?_) (i := 0) (by omega) (by omega) ⟨_, _, rfl, iS.one hn ha, rfl, fun c _ e => by subst e; exact Rc.refl, Or.inr (sz_1 ha rfl)⟩
  obtain ⟨x, p, rfl, hx, hpa, hR, hc⟩ := hJ
  refine pk_le P.n k (fun hle => ?_) (fun hlt => ?_) hL
  · have hcl := hc.resolve_right (fun q => by have := sz_le (n := P.n) (p := p); omega)
    have hrc : ∀ c, Rc E a c → (c < P.n ∧ p c) := fun c r => r (fun c => c < P.n ∧ p c) ⟨ha, hpa⟩ (fun u w q e => ⟨(hE u w e).2.1, hcl u w q.1 (hE u w e).2.1 q.2 e⟩)
    exact hx.br1 hn hb (fun hp => h1 (hR b hb hp)) (fun np => h0 (fun r => np (hrc b r).2))
  · refine pu_loop P.n (fun u z => ∃ x q, z = (M, x, nI u) ∧ iS P.n x q ∧ fnd P E a p q u 0) (fun u z K2 hi2 hJ hK2 => ?_) (i := 0) (by omega) (by omega) ⟨x, p, rfl, hx, fun _ _ q => q, hR, Or.inl ⟨fun _ _ => Iff.rfl, fun x y _ _ q => absurd q (by omega)⟩⟩
    obtain ⟨x, q, rfl, hx, f1, f2, f3⟩ := hJ
    refine pk_le P.n u (fun hle => ?_) (fun hu => ?_) hL
    · refine hK hlt _ ⟨x, q, by rw [nI_1], hx, f1 a ha hpa, f2, ?_⟩
      rcases f3 with ⟨g1, g2⟩ | f3
      · exact Or.inl (fun x y hx hy qx e => (g1 y hy).mpr (g2 x y hx hy (by omega) ((g1 x hx).mp qx) e))
      · rcases hc with hc | hc
        · exfalso
          have hcl : ∀ c, Rc E a c → (c < P.n ∧ p c) := fun c r => r (fun c => c < P.n ∧ p c) ⟨ha, hpa⟩ (fun u w z e => ⟨(hE u w e).2.1, hc u w z.1 (hE u w e).2.1 z.2 e⟩)
          have := sz_congr (n := P.n) (p := p) (q := q) (fun c hc => ⟨f1 c hc, fun z => (hcl c (f2 c hc z)).2⟩)
          omega
        · exact Or.inr (by omega)
    · refine pu_loop P.n (fun v z => ∃ x q, z = (M, x, nI v) ∧ iS P.n x q ∧ fnd P E a p q u v) (fun v z K3 hi3 hJ hK3 => ?_) (i := 0) (by omega) (by omega) ⟨x, q, rfl, hx, f1, f2, f3⟩
      obtain ⟨x, q, rfl, hx, f1, f2, f3⟩ := hJ
      refine pk_le P.n v (fun hle => hK2 hu _ ⟨x, q, by rw [nI_1], hx, f1, f2, ?_⟩) (fun hv => ?_) hL
      · exact f3.elim (fun g => Or.inl ⟨g.1, fun x y hx hy w => g.2 x y hx hy (by omega)⟩) Or.inr
      · have keep : (q u → ¬ E u v ∨ q v) → wp_M_leads_75 F 71 (nI a) (nI b) Q (nI k) (nI u) K K2 K3 M x (nI v) := fun hh => hK3 hv _ ⟨x, q, by rw [nI_1], hx, f1, f2, f3.elim (fun g => Or.inl ⟨g.1, fun x' y' hx' hy' w px e => by
          by_cases z : x' = u ∧ y' = v
          · obtain ⟨rfl, rfl⟩ := z
            exact (hh ((g.1 x' hx').mpr px)).elim (fun n => absurd e n) (fun n => (g.1 y' hy').mp n)
          · exact g.2 x' y' hx' hy' (by omega) px e⟩) Or.inr⟩
        refine hx.br1 hn hu (fun hq => ?_) (fun nq => keep (fun z => absurd z nq))
        show vp_in ((7 : Int32) * nI u + nI v) 49 ∧ ((M.1 (71 + 13) ((7 : Int32) * nI u + nI v).toNatClampNeg = 0 → _) ∧ (¬ M.1 (71 + 13) ((7 : Int32) * nI u + nI v).toNatClampNeg = 0 → _))
        rw [i7, nI_clamp (n := 7 * u + v) (by omega)]
        have hw := ht (7 * u + v) (by omega)
        rw [show (7 * u + v) / 7 = u by omega, show (7 * u + v) % 7 = v by omega] at hw
        refine ⟨pk_in (7 * u + v) 49 (by omega), fun e => keep (fun _ => Or.inl (fun z => hw.mpr z e)), fun ne => ?_⟩
        have he := hw.mp ne
        by_cases qv : q v
        · refine hK3 hv _ ⟨_, q, by rw [nI_1], (hx.ins hn hv).congr (fun c _ => ⟨Or.inl, fun z => z.elim id (fun z => z ▸ qv)⟩), f1, f2, f3.elim (fun g => Or.inl ⟨g.1, fun x' y' hx' hy' w px e => by
            by_cases z : x' = u ∧ y' = v
            · obtain ⟨rfl, rfl⟩ := z
              exact (g.1 y' hy').mp qv
            · exact g.2 x' y' hx' hy' (by omega) px e⟩) Or.inr⟩
        · refine hK3 hv _ ⟨_, fun c => q c ∨ c = v, by rw [nI_1], hx.ins hn hv, fun c hc z => Or.inl (f1 c hc z), fun c hc z => z.elim (f2 c hc) (fun z => by subst z; exact (f2 u hu hq).tail he), Or.inr ?_⟩
          have s1 := sz_lt (n := P.n) (p := q) (q := fun c => q c ∨ c = v) (fun _ _ z => Or.inl z) hv (Or.inr rfl) qv
          rcases f3 with g | g
          · have := sz_congr (n := P.n) (p := q) (q := p) g.1
            omega
          · omega
def cnd (P : pv) (d p : Nat) : Prop := pr P (p / 7) (p % 7) ∧ ¬ d.testBit p = true
def ky (P : pv) (p : Nat) : Nat := key P (p / 7) (p % 7)
theorem ky_inj {P : pv} (hg : gd P) {p q : Nat} (h : pr P (p / 7) (p % 7)) (g : pr P (q / 7) (q % 7)) (e : ky P p = ky P q) : p = q := by
  have := key_inj hg h g e
  omega
theorem dv7 (p : Nat) (hp : p < 49) : nI p / 7 = nI (p / 7) ∧ nI p - nI p / 7 * 7 = nI (p % 7) := ⟨pk_div (a := p) (d := 7) (by omega) (by omega) (by omega), pk_rem (a := p) (d := 7) (by omega) (by omega) (by omega)⟩
theorem sp_lockWinners {F : Nat} {P : pv} {M : om_M} {Q : Int32 → om_M → Prop} (hL : RL M P) (hR : RT M P) (hg : gd P) (hF : 100 ≤ F) (h : ∀ M' x, pu_off 84 M M' → iS P.n x (Wlk P) → Q x M') : wp_M_lockWinners F 71 M Q := by
  have hn := hg.2.1
  have hLo : ∀ M', pu_off 84 M M' → RL M' P := fun M' e => e.RL (by decide) hL
  have hRo : ∀ M', pu_off 84 M M' → RT M' P := fun M' e a b ha hb => by rw [e.1 _ (by decide)]; exact hR a b ha hb
  refine pu_loop 49 (fun i z => z.2 = nI i ∧ pu_off 84 M z.1 ∧ ∀ p, p < i → z.1.1 84 p = 0) (fun i z K hi hJ hK => ?_) (i := 0) (by omega) (by omega) ⟨rfl, pu_off.refl, fun p hp => absurd hp (by omega)⟩
  obtain ⟨M1, y⟩ := z
  obtain ⟨rfl, j1, j2⟩ := hJ
  refine pk_le 49 i (fun hle => ?_) (fun hlt => ⟨pk_in i 49 (by omega), hK hlt _ ⟨by rw [nI_1], j1.up, fun p hp => ?_⟩⟩)
  · refine pu_loop 49 (fun k z => ∃ d, ∃ E : Nat → Nat → Prop, z.2 = (lN d, nI k) ∧ d < 2 ^ 49 ∧ pu_off 84 M z.1 ∧ lkt z.1 E ∧ (∀ x y, E x y → pr P x y) ∧ okL P (fun a b => pr P a b ∧ d.testBit (7 * a + b) = true) E ∧ (∀ p q, p < 49 → q < 49 → pr P (p / 7) (p % 7) → d.testBit p = true → cnd P d q → ky P q < ky P p) ∧ ((∀ p, p < 49 → ¬ cnd P d p) ∨ k ≤ su (fun p => (d.testBit p).toNat) 49)) (fun k z K hi hJ hK => ?_) (i := 0) (by omega) (by omega) ⟨0, fun _ _ => False, rfl, by decide, j1, fun p hp => ⟨fun q => absurd (j2 p (by omega)) q, fun q => q.elim⟩, fun _ _ q => q.elim, fun a b => ⟨fun q => q.elim, fun q => absurd q.1.2 (by simp)⟩, fun p q _ _ _ z => absurd z (by simp), Or.inr (Nat.zero_le _)⟩
    obtain ⟨M2, y⟩ := z
    obtain ⟨d, E, rfl, hd, k1, k2, k3, k4, k5, k6⟩ := hJ
    have hL2 := hLo M2 k1
    have hd63 : d < 2 ^ 63 := Nat.lt_trans hd (by decide)
    refine pk_le 49 k (fun hle => ?_) (fun hlt => ?_)
    · have nall : ∀ p, p < 49 → ¬ cnd P d p := by
        rcases k6 with k6 | k6
        · exact k6
        · intro p hp hc
          have h1 := su_lt (t := p) (g := fun p => (d.testBit p).toNat) (h := fun _ => 1) (n := 49) (fun s _ => Bool.toNat_le _) hp (by
            rw [show d.testBit p = false by
              rcases hb : d.testBit p with _ | _
              · rfl
              · exact absurd hb hc.2]
            decide)
          rw [su_c] at h1
          omega
      have ok : okL P (pr P) E := fun a b => by
        rw [k4 a b]
        constructor
        · rintro ⟨q1, q2⟩
          exact ⟨q1.1, q2⟩
        · rintro ⟨q1, q2⟩
          refine ⟨⟨q1, ?_⟩, q2⟩
          have l1 := q1.1
          have l2 := q1.2.1
          apply Classical.byContradiction
          intro z
          refine nall (7 * a + b) (by omega) ⟨?_, z⟩
          rw [show (7 * a + b) / 7 = a by omega, show (7 * a + b) % 7 = b by omega]
          exact q1
      show wp_M_lockWinners_223 F 71 Q M2 (((1 : Int32) <<< ((M2.1 71 8) &&& 31)) - 1) 0
      rw [hL2.1]
      refine pu_loop 49 (fun p z => ∃ x, z = (M2, x, nI p) ∧ iS P.n x (fun c => ∀ q, q < p → E (q / 7) (q % 7) → q % 7 ≠ c)) (fun p z K hi hJ hK => ?_) (i := 0) (by omega) (by omega) ⟨_, rfl, (iS.every hn).congr (fun c _ => ⟨fun _ => trivial, fun _ q hq => absurd hq (by omega)⟩)⟩
      obtain ⟨x, rfl, hx⟩ := hJ
      refine pk_le 49 p (fun hle => h M2 x k1 (hx.congr (fun c hc => (Wlk.iff hg ok c).trans ⟨fun w q hq e z => w _ (z ▸ e), fun w a e => ?_⟩))) (fun hp => ⟨pk_in p 49 (by omega), ?_⟩)
      · have l1 := (k3 a c e).1
        refine w (7 * a + c) (by omega) ?_ (by omega)
        rw [show (7 * a + c) / 7 = a by omega, show (7 * a + c) % 7 = c by omega]
        exact e
      · rw [nI_clamp (n := p) (by omega), (dv7 p hp).2]
        refine ⟨fun e => hK hp _ ⟨x, by rw [nI_1], hx.congr (fun c _ => ⟨fun w q hq => w q (by omega), fun w q hq e2 => ?_⟩)⟩, fun ne => ?_⟩
        · by_cases z : q = p
          · subst z; exact absurd e ((k2 q hp).mpr e2)
          · exact w q (by omega) e2
        · have he := (k2 p hp).mp ne
          have hm := (k3 _ _ he).2.1
          refine hK hp _ ⟨_, by rw [nI_1], (hx.del hn hm).congr (fun c _ => ⟨fun w => ⟨fun q hq => w q (by omega), fun z => w p (by omega) he z.symm⟩, fun w q hq e2 => ?_⟩)⟩
          by_cases z : q = p
          · subst z; exact fun z => w.2 z.symm
          · exact w.1 q (by omega) e2
    · refine pu_loop 49 (fun p z => ∃ f : Int32, z = (M2, f, nI p) ∧ ((f = -1 ∧ ∀ q, q < p → ¬ cnd P d q) ∨ ∃ g, g < p ∧ f = nI g ∧ cnd P d g ∧ ∀ q, q < p → cnd P d q → q ≠ g → ky P q < ky P g)) (fun p z K2 hi2 hJ hK2 => ?_) (i := 0) (by omega) (by omega) ⟨-1, rfl, Or.inl ⟨rfl, fun q hq => absurd hq (by omega)⟩⟩
      obtain ⟨f, rfl, hf⟩ := hJ
      refine pk_le 49 p (fun hle => ?_) (fun hp => ?_)
      · rcases hf with ⟨rfl, hf⟩ | ⟨g, hg1, rfl, hg2, hg3⟩
        · refine ⟨fun _ => hK hlt _ ⟨d, E, by rw [nI_1], hd, k1, k2, k3, k4, k5, Or.inl (fun q hq => hf q (by omega))⟩, fun e => absurd (show (-1 : Int32) < 0 by decide) e⟩
        · have hg49 : g < 49 := by omega
          refine ⟨fun e => absurd e (nI_pos (by omega)), fun _ => ?_⟩
          dsimp only
          rw [(dv7 g hg49).2, (dv7 g hg49).1]
          have l1 := hg2.1.1
          have l2 := hg2.1.2.1
          have eb : 7 * (g / 7) + g % 7 = g := by omega
          have fin : ∀ (w : Int32) (E' : Nat → Nat → Prop), vp_nar .boolean w = w → (∀ c e, E' c e ↔ (E c e ∨ (c = g / 7 ∧ e = g % 7 ∧ ¬ Rc E (g % 7) (g / 7)))) → (w ≠ 0 ↔ ¬ Rc E (g % 7) (g / 7)) → wp_M_lockWinners_208 F 71 Q K M2 (lN d ||| (1 <<< ((nI g).toInt64 &&& 63))) (nI k) (71 + 13) (nI g) w := by
            intro w E' hw hE' hw2
            refine ⟨pk_in g 49 hg49, hw, ?_⟩
            rw [nI_clamp (n := g) (by omega), nI_l (by omega), lb_ins (by omega)]
            have hbit : ∀ q, (mi d g).testBit q = true ↔ (d.testBit q = true ∨ q = g) := fun q => by
              rw [mi_bit, Bool.or_eq_true, decide_eq_true_eq]
            have hnD : d.testBit g ≠ true := hg2.2
            have hcn : ∀ q, cnd P (mi d g) q ↔ (cnd P d q ∧ q ≠ g) := fun q => ⟨fun z => ⟨⟨z.1, fun y => z.2 ((hbit q).mpr (Or.inl y))⟩, fun y => z.2 ((hbit q).mpr (Or.inr y))⟩, fun z => ⟨z.1.1, fun y => ((hbit q).mp y).elim z.1.2 z.2⟩⟩
            refine hK hlt _ ⟨mi d g, E', by rw [nI_1], mi_lt hd hg49, k1.up, fun q hq => ?_, fun x y z => ((hE' x y).mp z).elim (k3 x y) (fun z => by rw [z.1, z.2.1]; exact hg2.1), ?_, fun q r hq hr z1 z2 z3 => ?_, ?_⟩
            · by_cases e : q = g
              · subst e
                rw [pu_up1, hw2, hE']
                refine ⟨fun z => Or.inr ⟨rfl, rfl, z⟩, fun z => z.elim (fun z => ?_) (fun z => z.2.2)⟩
                have := ((k4 _ _).mp z).1.2
                rw [eb] at this
                exact absurd this hnD
              · rw [pu_up2 e, hE']
                refine (k2 q hq).trans ⟨Or.inl, fun z => z.elim id (fun z => absurd (by omega) e)⟩
            · refine k4.step hg (fun c e z => z.1) hg2.1 (fun c e z => ?_) (fun c e => ?_) hE'
              · have m1 := z.1.1
                have m2 := z.1.2.1
                have := k5 (7 * c + e) g (by omega) hg49 (by rw [show (7 * c + e) / 7 = c by omega, show (7 * c + e) % 7 = e by omega]; exact z.1) z.2 hg2
                unfold ky at this
                rw [show (7 * c + e) / 7 = c by omega, show (7 * c + e) % 7 = e by omega] at this
                exact this
              · constructor
                · rintro ⟨z1, z2⟩
                  have m2 := z1.2.1
                  exact ((hbit _).mp z2).elim (fun z => Or.inl ⟨z1, z⟩) (fun z => Or.inr ⟨by omega, by omega⟩)
                · rintro (⟨z1, z2⟩ | ⟨rfl, rfl⟩)
                  · exact ⟨z1, (hbit _).mpr (Or.inl z2)⟩
                  · exact ⟨hg2.1, (hbit _).mpr (Or.inr eb)⟩
            · have z3' := (hcn r).mp z3
              rcases (hbit q).mp z2 with z | z
              · exact k5 q r hq hr z1 z z3'.1
              · subst z
                exact hg3 r (by omega) z3'.1 z3'.2
            · rcases k6 with k6 | k6
              · exact absurd hg2 (k6 g hg49)
              · refine Or.inr ?_
                have := su_lt (t := g) (g := fun p => (d.testBit p).toNat) (h := fun p => ((mi d g).testBit p).toNat) (n := 49) (fun s _ => by
                  show (d.testBit s).toNat ≤ ((mi d g).testBit s).toNat
                  rw [mi_bit]
                  rcases d.testBit s with _ | _ <;> simp) hg49 (by
                  show (d.testBit g).toNat < ((mi d g).testBit g).toNat
                  rw [mi_bit, show d.testBit g = false by
                    rcases hb : d.testBit g with _ | _
                    · rfl
                    · exact absurd hb hnD]
                  simp)
                omega
          refine sp_leads hL2.1 hg k2 k3 l2 l1 (by omega) (fun r => ⟨fun e => absurd e (by decide), fun _ => fin 0 E nar0 (fun c e => ⟨Or.inl, fun z => z.elim id (fun z => absurd r z.2.2)⟩) ⟨fun z => absurd rfl z, fun z => absurd r z⟩⟩) (fun r => ⟨fun _ => fin 1 (fun c e => E c e ∨ (c = g / 7 ∧ e = g % 7 ∧ ¬ Rc E (g % 7) (g / 7))) nar1 (fun c e => Iff.rfl) ⟨fun _ => r, fun _ => by decide⟩, fun e => absurd rfl e⟩)
      · have noc : ¬ cnd P d p → wp_M_lockWinners_113 F 71 Q (lN d) (nI k) K K2 M2 f (nI p) := fun hc => ⟨fun _ => hK2 hp _ ⟨f, by rw [nI_1], hf.elim (fun z => Or.inl ⟨z.1, fun q hq => by
            by_cases e : q = p
            · subst e; exact hc
            · exact z.2 q (by omega)⟩) (fun ⟨g, z1, z2, z3, z4⟩ => Or.inr ⟨g, by omega, z2, z3, fun q hq hcq hqg => z4 q (by
              have : q ≠ p := fun e => hc (e ▸ hcq)
              omega) hcq hqg⟩)⟩, fun e => absurd rfl e⟩
        dsimp only
        rw [(dv7 p hp).2, (dv7 p hp).1]
        refine pk_le P.n (p / 7) (fun q => noc (fun z => by have := z.1.1; omega)) (fun ha => pk_le P.n (p % 7) (fun q => noc (fun z => by have := z.1.2.1; omega)) (fun hb => pk_eq (p / 7) (p % 7) (fun e => noc (fun z => by
          have := z.1.2.2
          rw [e] at this
          exact bt_irr this)) (fun ne => sp_mbeats (hRo M2 k1) hg (by omega) (by omega) (fun hbt => ⟨fun e => absurd e (by decide), fun _ => ?_⟩) (fun hbt => ⟨fun _ => noc (fun z => hbt z.1.2.2), fun e => absurd rfl e⟩))) hL2.1) hL2.1
        rw [nI_l (by omega), lb_get hd63 (by omega)]
        rcases hb2 : d.testBit p with _ | _
        · have hcp : cnd P d p := ⟨⟨ha, hb, hbt⟩, fun z => by rw [hb2] at z; cases z⟩
          refine ⟨fun _ => ⟨fun e => absurd e (by decide), fun _ => ?_⟩, fun e => absurd rfl e⟩
          have take : (∀ q, q < p → cnd P d q → ky P q < ky P p) → wp_M_lockWinners_153 F 71 Q (lN d) (nI k) K K2 M2 (nI p) := fun hh => hK2 hp _ ⟨nI p, by rw [nI_1], Or.inr ⟨p, by omega, rfl, hcp, fun q hq hcq hqp => hh q (by omega) hcq⟩⟩
          rcases hf with ⟨rfl, hf⟩ | ⟨g, hg1, rfl, hg2, hg3⟩
          · exact ⟨fun _ => take (fun q hq hcq => absurd hcq (hf q hq)), fun e => absurd (show (-1 : Int32) < 0 by decide) e⟩
          · refine ⟨fun e => absurd e (nI_pos (by omega)), fun _ => ?_⟩
            rw [(dv7 p hp).2, (dv7 p hp).1, (dv7 g (by omega)).2, (dv7 g (by omega)).1]
            have hgp : ¬ (p / 7 = g / 7 ∧ p % 7 = g % 7) := by omega
            refine sp_sooner hL2 (hRo M2 k1) hg hcp.1 hg2.1 hgp (by omega) (fun q => ⟨fun e => absurd e (by decide), fun _ => take (fun r hr hcr => ?_)⟩) (fun q => ⟨fun _ => hK2 hp _ ⟨nI g, by rw [nI_1], Or.inr ⟨g, by omega, rfl, hg2, fun r hr hcr hrg => ?_⟩⟩, fun e => absurd rfl e⟩)
            · by_cases e : r = g
              · subst e; exact q
              · exact Nat.lt_trans (hg3 r hr hcr e) q
            · by_cases e : r = p
              · subst e
                have : ky P r ≠ ky P g := fun z => hrg (ky_inj hg hcp.1 hg2.1 z)
                have q : ¬ ky P g < ky P r := q
                omega
              · exact hg3 r (by omega) hcr hrg
        · exact ⟨fun e => absurd e (by decide), fun _ => noc (fun z => z.2 hb2)⟩
  · rw [nI_clamp (n := i) (by omega)]
    by_cases e : p = i
    · subst e; exact pu_up1
    · exact (pu_up2 e).trans (j2 p (by omega))
