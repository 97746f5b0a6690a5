/-! the weakest of a set -/
def Wk (P : pv) (p : Nat → Prop) (c : Nat) : Prop := p c ∧ ∀ d, d < P.n → p d → P.ld p c ≤ P.ld p d
theorem pz_sh {a i : Nat} (ha : a < 2 ^ 31) : nI (a / 8 ^ i) >>> ((3 : Int32) &&& 31) = nI (a / 8 ^ (i + 1)) := by
  rw [pk_shrN (Nat.lt_of_le_of_lt (Nat.div_le_self _ _) ha) _ 3 (by decide), Nat.div_div_eq_div_mul, show 8 ^ i * 2 ^ 3 = 8 ^ (i + 1) from (Nat.pow_succ 8 i).symm]
theorem sp_countLeads {F o : Nat} {x : Int32} {p : Nat → Prop} {P : pv} {M : om_M} {Q : om_M → Prop} (hP : RP o M P) (hg : gd P) (ho : o = 1 ∨ o = 49) (hx : iS P.n x p) (hF : 100 ≤ F) (h : ∀ M', pu_off 25 M M' → (∀ c, c < P.n → M'.1 25 c = nI (P.ld p c)) → Q M') : wp_E_countLeads F 23 o x M Q := by
  have hn := hg.2.1
  have hT := hg.2.2.1
  have hR : ∀ M', pu_off 25 M M' → RP o M' P := fun M' e => hP.congr (fun q _ _ => e.1 q (by omega))
  refine pu_loop P.n (fun i z => z.2 = nI i ∧ pu_off 25 M z.1 ∧ ∀ c, c < i → z.1.1 25 c = 0) (fun i z K hi hJ hK => ?_) (i := 0) (by omega) (by omega) ⟨rfl, pu_off.refl, fun c hc => absurd hc (by omega)⟩
  obtain ⟨M1, y⟩ := z
  obtain ⟨rfl, j1, j2⟩ := hJ
  refine pk_le P.n i (fun hle => ?_) (fun hlt => ⟨pk_in i 7 (by omega), hK hlt _ ⟨by rw [nI_1], j1.up, fun c hc => ?_⟩⟩) (hR M1 j1).1
  · refine pu_loop P.T (fun t z => z.2 = nI t ∧ pu_off 25 M z.1 ∧ ∀ c, c < P.n → z.1.1 25 c = nI (su (fun t => ci (∃ k, hd P.n (P.od t) p k ∧ P.od t k = c) (P.am t)) t)) (fun t z K hi hJ hK => ?_) (i := 0) (by omega) (by omega) ⟨rfl, j1, fun c hc => j2 c (by omega)⟩
    obtain ⟨M2, y⟩ := z
    obtain ⟨rfl, k1, k2⟩ := hJ
    have hP2 := hR M2 k1
    refine pk_le P.T t (fun hle => ?_) (fun ht => ⟨pk_in t 21 (by omega), ?_⟩) hP2.2.1
    · have e : t = P.T := by omega
      subst e
      exact h M2 k1 k2
    · have hot := hg.2.2.2.2.1 t ht
      have h8 : ∀ j, j < P.n → P.od t j < 8 := fun j hj => by have := hot.1 j hj; omega
      have hz := pz_8 (f := P.od t) (n := P.n) (by omega) h8
      rw [nI_clamp (n := t) (by omega), show (M2, nI t).1.1 (o + 1) t = _ from hP2.2.2.2.2.1 t ht]
      refine pu_loop P.n (fun i z => z = (M2, nI (pz (P.od t) P.n / 8 ^ i), nI i) ∧ ∀ j, j < i → ¬ p (P.od t j)) (fun i z K2 hi2 hJ hK2 => ?_) (i := 0) (by omega) (by omega) ⟨by simp [nI_0], fun j hj => absurd hj (by omega)⟩
      obtain ⟨rfl, hj⟩ := hJ
      refine pk_le P.n i (fun hle => hK ht _ ⟨by rw [nI_1], k1, fun c hc => ?_⟩) (fun hlt => ?_) hP2.1
      · show M2.1 25 c = nI (su _ t + ci _ _)
        rw [ci_neg (fun ⟨k, q, _⟩ => hj k (by have := q.1; omega) q.2.1), Nat.add_zero]
        exact k2 c hc
      · have e7 : nI (pz (P.od t) P.n / 8 ^ i) &&& 7 = nI (P.od t i) := by
          rw [pa_and7 (Nat.lt_of_le_of_lt (Nat.div_le_self _ _) (by omega)), pz_at h8 hlt]
        show ((((x >>> ((nI (pz (P.od t) P.n / 8 ^ i) &&& 7) &&& 31)) &&& 1) = 0 → K2 (M2, nI (pz (P.od t) P.n / 8 ^ i) >>> ((3 : Int32) &&& 31), nI i + 1)) ∧ (¬ ((x >>> ((nI (pz (P.od t) P.n / 8 ^ i) &&& 7) &&& 31)) &&& 1) = 0 → vp_in (nI (pz (P.od t) P.n / 8 ^ i) &&& 7) 7 ∧ vp_in (nI t) 21 ∧ wp_E_countLeads_100 F 23 o x Q K (om_up M2 (23 + 2) (nI (pz (P.od t) P.n / 8 ^ i) &&& 7).toNatClampNeg (M2.1 (23 + 2) (nI (pz (P.od t) P.n / 8 ^ i) &&& 7).toNatClampNeg + M2.1 (o + 2) (nI t).toNatClampNeg)) (nI t)))
        have hi7 := hot.1 i hlt
        rw [e7, pz_sh hz, nI_clamp (n := P.od t i) (by omega), nI_clamp (n := t) (by omega)]
        refine hx.br0 hn hi7 (fun np => hK2 hlt _ ⟨by rw [nI_1], fun j hj2 => ?_⟩) (fun hp => ⟨pk_in (P.od t i) 7 (by omega), pk_in t 21 (by omega), hK ht _ ⟨by rw [nI_1], k1.up, fun c hc => ?_⟩⟩)
        · by_cases e : j = i
          · subst e; exact np
          · exact hj j (by omega)
        · have hdi : hd P.n (P.od t) p i := ⟨hlt, hp, hj⟩
          show _ = nI (su _ t + ci _ _)
          by_cases e : c = P.od t i
          · subst e
            rw [pu_up1, ci_pos ⟨i, hdi, rfl⟩, show M2.1 (23 + 2) (P.od t i) = _ from k2 (P.od t i) hc, show M2.1 (o + 2) t = _ from hP2.2.2.2.2.2.1 t ht, nI_add]
          · rw [pu_up2 e, ci_neg (fun ⟨k, q1, q2⟩ => e (by rw [hdi.uniq q1]; exact q2.symm)), Nat.add_zero]
            exact k2 c hc
  · rw [nI_clamp (n := i) (by omega)]
    by_cases e : c = i
    · subst e; exact pu_up1
    · exact (pu_up2 e).trans (j2 c (by omega))
theorem sp_goers {F o : Nat} {x : Int32} {p : Nat → Prop} {P : pv} {M : om_M} {Q : Int32 → om_M → Prop} (hP : RP o M P) (hg : gd P) (ho : o = 1 ∨ o = 49) (hx : iS P.n x p) (hF : 100 ≤ F) (h : ∀ M' y, pu_off 25 M M' → iS P.n y (Wk P p) → Q y M') : wp_E_goers F 23 o x M Q := by
  have hn := hg.2.1
  refine sp_countLeads hP hg ho hx hF (fun M1 j1 j2 => ?_)
  have hP1 : RP o M1 P := hP.congr (fun q _ _ => j1.1 q (by omega))
  refine pu_loop P.n (fun i z => ∃ y b, z = (M1, y, nI b, nI i) ∧ b ≤ 2000001 ∧ iS P.n y (fun c => c < i ∧ p c ∧ ∀ d, d < i → p d → P.ld p c ≤ P.ld p d) ∧ ((∃ c, c < i ∧ p c) → (∃ c, c < i ∧ p c ∧ P.ld p c = b) ∧ ∀ d, d < i → p d → b ≤ P.ld p d)) (fun i z K hi hJ hK => ?_) (i := 0) (by omega) (by omega) ⟨0, 0, rfl, by decide, iS.no.congr (fun c _ => ⟨fun q => absurd q.1 (by omega), fun q => q.elim⟩), fun ⟨c, q, _⟩ => absurd q (by omega)⟩
  obtain ⟨y, b, rfl, hb, hs, hm⟩ := hJ
  refine pk_le P.n i (fun hle => ?_) (fun hlt => ?_) hP1.1
  · have e : i = P.n := by omega
    subst e
    exact h M1 y j1 (hs.congr (fun c hc => ⟨fun q => ⟨hc, q⟩, fun q => q.2⟩))
  · have hl := ld_le hg p i
    have el : M1.1 (23 + 2) i = nI (P.ld p i) := j2 i hlt
    refine hx.br0 hn hlt (fun np => hK hlt _ ⟨y, b, by rw [nI_1], hb, hs.congr (fun c hc => ⟨fun q => ?_, fun q => ?_⟩), fun ⟨c, hc, hp⟩ => ?_⟩) (fun hp => ?_)
    · have : c ≠ i := fun e => np (e ▸ q.2.1)
      exact ⟨by have := q.1; omega, q.2.1, fun d hd => q.2.2 d (by omega)⟩
    · refine ⟨by have := q.1; omega, q.2.1, fun d hd hpd => q.2.2 d ?_ hpd⟩
      have : d ≠ i := fun e => np (e ▸ hpd)
      omega
    · have hci : c ≠ i := fun e => np (e ▸ hp)
      obtain ⟨⟨c0, q1, q2, q3⟩, q4⟩ := hm ⟨c, by omega, hp⟩
      refine ⟨⟨c0, by omega, q2, q3⟩, fun d hd hpd => q4 d ?_ hpd⟩
      have : d ≠ i := fun e => np (e ▸ hpd)
      omega
    · have alone : (∀ d, d < i → p d → P.ld p i < P.ld p d) → wp_E_goers_48 F 23 o x Q K M1 (nI i) := fun up => by
        refine ⟨pk_in i 7 (by omega), ?_⟩
        rw [nI_clamp (n := i) (by omega), el]
        refine hK hlt _ ⟨_, P.ld p i, by rw [nI_1], hl, (iS.one hn hlt).congr (fun c hc => ⟨fun q => ?_, fun q => ?_⟩), fun _ => ⟨⟨i, by omega, hp, rfl⟩, fun d hd hpd => ?_⟩⟩
        · rcases Nat.lt_or_ge c i with z | z
          · have h1 := up c z q.2.1
            have h2 := q.2.2 i (by omega) hp
            omega
          · have := q.1; omega
        · subst q
          refine ⟨by omega, hp, fun d hd hpd => ?_⟩
          by_cases e : d = c
          · subst e; exact Nat.le_refl _
          · have := up d (by omega) hpd; omega
        · by_cases e : d = i
          · subst e; exact Nat.le_refl _
          · have := up d (by omega) hpd; omega
      refine ⟨fun e => alone (fun d hd hpd => ?_), fun ne => ⟨pk_in i 7 (by omega), ?_⟩⟩
      · exfalso
        obtain ⟨⟨c0, q1, q2, q3⟩, q4⟩ := hm ⟨d, hd, hpd⟩
        exact (hs.zero hn).mp e c0 (by omega) ⟨q1, q2, fun d hd hpd => by rw [q3]; exact q4 d hd hpd⟩
      · have hex : ∃ c, c < i ∧ p c := by
          apply Classical.byContradiction
          intro q
          exact ne ((hs.zero hn).mpr (fun c _ z => q ⟨c, z.1, z.2.1⟩))
        obtain ⟨⟨c0, q1, q2, q3⟩, q4⟩ := hm hex
        rw [nI_clamp (n := i) (by omega), el]
        refine pk_le b (P.ld p i) (fun hle => pk_eq (P.ld p i) b (fun e => hK hlt _ ⟨_, b, by rw [nI_1], hb, (hs.ins hn hlt).congr (fun c hc => ⟨fun q => ?_, fun q => ?_⟩), fun _ => ⟨⟨c0, by omega, q2, q3⟩, fun d hd hpd => ?_⟩⟩) (fun ne2 => hK hlt _ ⟨y, b, by rw [nI_1], hb, hs.congr (fun c hc => ⟨fun q => ?_, fun q => ?_⟩), fun _ => ⟨⟨c0, by omega, q2, q3⟩, fun d hd hpd => ?_⟩⟩)) (fun hgt => alone (fun d hd hpd => by have := q4 d hd hpd; omega))
        · by_cases z : c = i
          · exact Or.inr z
          · exact Or.inl ⟨by have := q.1; omega, q.2.1, fun d hd => q.2.2 d (by omega)⟩
        · rcases q with q | q
          · refine ⟨by omega, q.2.1, fun d hd hpd => ?_⟩
            by_cases z : d = i
            · subst z
              have := q.2.2 c0 q1 q2
              omega
            · exact q.2.2 d (by omega) hpd
          · subst q
            refine ⟨by omega, hp, fun d hd hpd => ?_⟩
            by_cases z : d = c
            · subst z; exact Nat.le_refl _
            · have := q4 d (by omega) hpd; omega
        · by_cases z : d = i
          · subst z; exact hle
          · exact q4 d (by omega) hpd
        · by_cases z : c = i
          · subst z
            have := q.2.2 c0 (by omega) q2
            omega
          · exact ⟨by have := q.1; omega, q.2.1, fun d hd => q.2.2 d (by omega)⟩
        · refine ⟨by omega, q.2.1, fun d hd hpd => ?_⟩
          by_cases z : d = i
          · subst z
            have := q.2.2 c0 q1 q2
            omega
          · exact q.2.2 d (by omega) hpd
        · by_cases z : d = i
          · subst z; exact hle
          · exact q4 d (by omega) hpd
theorem sp_weakest {F : Nat} {x : Int32} {p : Nat → Prop} {P : pv} {M : om_M} {Q : Int32 → om_M → Prop} (hL : RL M P) (hg : gd P) (hx : iS P.n x p) (hF : 100 ≤ F) (h : ∀ y, iS P.n y (Wk P p) → Q y M) : wp_M_weakest F 71 x M Q := by
  have hn := hg.2.1
  refine pu_loop P.n (fun i z => ∃ y, z = (M, y, nI i) ∧ iS P.n y (fun c => c < i ∧ Wk P p c)) (fun a z K hi hJ hK => ?_) (i := 0) (by omega) (by omega) ⟨0, rfl, iS.no.congr (fun c _ => ⟨fun q => absurd q.1 (by omega), fun q => q.elim⟩)⟩
  obtain ⟨y, rfl, hs⟩ := hJ
  refine pk_le P.n a (fun hle => ?_) (fun ha => ?_) hL.1
  · have e : a = P.n := by omega
    subst e
    exact h y (hs.congr (fun c hc => ⟨fun q => ⟨hc, q⟩, fun q => q.2⟩))
  · have fin : ∀ w : Int32, (w = 0 → ¬ Wk P p a) → (¬ w = 0 → Wk P p a) → wp_M_weakest_83 F 71 x Q K M y (nI a) w := fun w h0 h1 => ⟨fun e => hK ha _ ⟨y, by rw [nI_1], hs.congr (fun c hc => ⟨fun q => ⟨by
        have : c ≠ a := fun z => h0 e (z ▸ q.2)
        have := q.1
        omega, q.2⟩, fun q => ⟨by have := q.1; omega, q.2⟩⟩)⟩, fun ne => hK ha _ ⟨_, by rw [nI_1], (hs.ins hn ha).congr (fun c hc => ⟨fun q => by
        by_cases z : c = a
        · exact Or.inr z
        · exact Or.inl ⟨by have := q.1; omega, q.2⟩, fun q => q.elim (fun q => ⟨by have := q.1; omega, q.2⟩) (fun q => by subst q; exact ⟨by omega, h1 ne⟩)⟩)⟩⟩
    have run : ∀ w0 : Int32, ((w0 = 1 ∧ p a) ∨ (w0 = 0 ∧ ¬ p a)) → wp_M_weakest_26 F 71 x Q K M y (nI a) w0 := by
      intro w0 h0
      refine pu_loop P.n (fun j z => ∃ w : Int32, z = (M, w, nI j) ∧ ((w = 1 ∧ p a ∧ ∀ d, d < j → p d → P.ld p a ≤ P.ld p d) ∨ (w = 0 ∧ ¬ Wk P p a))) (fun j z K2 hj hJ hK2 => ?_) (i := 0) (by omega) (by omega) ⟨w0, rfl, h0.elim (fun q => Or.inl ⟨q.1, q.2, fun d hd => absurd hd (by omega)⟩) (fun q => Or.inr ⟨q.1, fun z => q.2 z.1⟩)⟩
      obtain ⟨w, rfl, hw⟩ := hJ
      refine pk_le P.n j (fun hle => fin w (fun e => (hw.resolve_left (fun q => absurd (q.1.symm.trans e) (by decide))).2) (fun ne => ?_)) (fun hlt => ⟨fun e => fin w (fun e => (hw.resolve_left (fun q => absurd (q.1.symm.trans e) (by decide))).2) (fun ne => absurd e ne), fun ne => ?_⟩) hL.1
      · have q := hw.resolve_right (fun q => ne q.1)
        exact ⟨q.2.1, fun d hd => q.2.2 d (by omega)⟩
      · have q := hw.resolve_right (fun q => ne q.1)
        have yes : (p j → P.ld p a ≤ P.ld p j) → wp_M_weakest_70 F 71 x Q y (nI a) K K2 M (nI j) := fun hh => hK2 hlt _ ⟨1, by rw [nI_1], Or.inl ⟨rfl, q.2.1, fun d hd hpd => by
          by_cases z : d = j
          · subst z; exact hh hpd
          · exact q.2.2 d (by omega) hpd⟩⟩
        refine hx.br0 hn hlt (fun np => yes (fun z => absurd z np)) (fun hp => ?_)
        refine sp_mahead hL hg hx ⟨a, ha, q.2.1⟩ hlt hF (sp_mahead hL hg hx ⟨a, ha, q.2.1⟩ ha hF ?_)
        have b1 := ld_le hg p a
        have b2 := ld_le hg p j
        exact pk_lt (P.ld p j) (P.ld p a) (fun z => hK2 hlt _ ⟨0, by rw [nI_1], Or.inr ⟨rfl, fun w => by have := w.2 j hlt hp; omega⟩⟩) (fun z => yes (fun _ => z))
    exact hx.br1 hn ha (fun hp => run 1 (Or.inl ⟨rfl, hp⟩)) (fun np => run 0 (Or.inr ⟨rfl, np⟩))
