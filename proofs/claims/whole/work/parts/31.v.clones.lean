/-! clones -/
def lt_b (I : om_M → Prop) (r2 r4 : Int32) (M5 : om_M) : Prop := ((M5.1 71 0 = r2 → ((r2 = 0 → vp_in 0 1 ∧ ((r4 = 0 → (((M5.2 89 (0 : Int32).toNatClampNeg) = 0 → I M5) ∧ (¬ (M5.2 89 (0 : Int32).toNatClampNeg) = 0 → False))) ∧ (¬ r4 = 0 → (((M5.2 89 (0 : Int32).toNatClampNeg) = 1 → I M5) ∧ (¬ (M5.2 89 (0 : Int32).toNatClampNeg) = 1 → False))))) ∧ (¬ r2 = 0 → I M5))) ∧ (¬ M5.1 71 0 = r2 → False))
theorem lbt_ok {I : om_M → Prop} {r : Int32} {M : om_M} (h0 : M.1 71 0 = 0) (h1 : r = 0 → M.2 89 0 = 0) (h2 : ¬ r = 0 → M.2 89 0 = 1) (hI : I M) : lt_b I 0 r M := ⟨fun _ => ⟨fun _ => ⟨pk_in 0 1 (by decide), fun e => ⟨fun _ => hI, fun z => z (h1 e)⟩, fun e => ⟨fun _ => hI, fun z => z (h2 e)⟩⟩, fun _ => hI⟩, fun e => e h0⟩
theorem lbt_bad {I : om_M → Prop} {c v : Int32} {M : om_M} (hc : ¬ c = 0) (h0 : M.1 71 0 = c) (hI : I M) : lt_b I c v M := ⟨fun _ => ⟨fun e => absurd e hc, fun _ => hI⟩, fun e => e h0⟩
/-- the places of a set in an order, as a number -/
def wm (q : Nat → Bool) : Nat → Nat
  | 0 => 0
  | k + 1 => if q k then mi (wm q k) k else wm q k
theorem wm_bit (q : Nat → Bool) (j : Nat) : ∀ k, (wm q k).testBit j = (decide (j < k) && q j)
  | 0 => by simp [wm]
  | k + 1 => by
    show (if q k then mi (wm q k) k else wm q k).testBit j = _
    by_cases e : j = k
    · subst e
      rcases hq : q j with _ | _
      · simp [wm_bit q j j]
      · simp [mi_bit]
    · rcases hq : q k with _ | _
      · simp only [Bool.false_eq_true, if_false, wm_bit q j k]
        by_cases z : j < k
        · simp [z, show j < k + 1 by omega]
        · simp [z, show ¬ j < k + 1 by omega]
      · simp only [if_true, mi_bit, wm_bit q j k]
        by_cases z : j < k
        · simp [z, show j < k + 1 by omega, e]
        · simp [z, show ¬ j < k + 1 by omega, e]
theorem wm_lt (q : Nat → Bool) (n : Nat) : ∀ k, k ≤ n → wm q k < 2 ^ n
  | 0, _ => Nat.pow_pos (by decide)
  | k + 1, h => by
    show (if q k then mi (wm q k) k else wm q k) < 2 ^ n
    split
    · exact mi_lt (wm_lt q n k (by omega)) (by omega)
    · exact wm_lt q n k (by omega)
def fw (n w : Nat) : Nat → Nat
  | 0 => n
  | i + 1 => if w.testBit i then min (fw n w i) i else fw n w i
def lw (w : Nat) : Nat → Nat
  | 0 => 0
  | i + 1 => if w.testBit i then i else lw w i
def rn (w : Nat) : Nat → Nat
  | 0 => 0
  | i + 1 => if w.testBit i && !(decide (0 < i) && w.testBit (i - 1)) then rn w i + 1 else rn w i
theorem cln0 : ∀ n, n < 8 → ∀ w, w < 128 → w < 2 ^ n → 0 < w → fw n w n ≤ lw w n ∧ lw w n < 7 := by decide +kernel
theorem cln1 : ∀ n, n < 8 → ∀ w, w < 128 → w < 2 ^ n → 0 < w → lw w n - fw n w n + 1 = pc w → rn w n = 1 := by decide +kernel
theorem cln2 : ∀ n, n < 8 → ∀ w, w < 128 → w < 2 ^ n → 0 < w → rn w n = 1 → lw w n - fw n w n + 1 = pc w := by decide +kernel
theorem cln (n : Nat) (hn : n < 8) (w : Nat) (h1 : w < 128) (h2 : w < 2 ^ n) (h3 : 0 < w) : fw n w n ≤ lw w n ∧ lw w n < 7 ∧ (lw w n - fw n w n + 1 = pc w ↔ rn w n = 1) := ⟨(cln0 n hn w h1 h2 h3).1, (cln0 n hn w h1 h2 h3).2, cln1 n hn w h1 h2 h3, cln2 n hn w h1 h2 h3⟩
theorem fw_le (n w : Nat) : ∀ i, fw n w i ≤ n
  | 0 => Nat.le_refl _
  | i + 1 => by
    show (if w.testBit i then min (fw n w i) i else fw n w i) ≤ n
    have := fw_le n w i
    split
    · exact Nat.le_trans (Nat.min_le_left _ _) this
    · exact this
theorem lw_lt (w : Nat) : ∀ i, lw w i ≤ i
  | 0 => Nat.le_refl _
  | i + 1 => by
    show (if w.testBit i then i else lw w i) ≤ i + 1
    have := lw_lt w i
    split <;> omega
theorem rn_le (w : Nat) : ∀ i, rn w i ≤ i
  | 0 => Nat.le_refl _
  | i + 1 => by
    show (if w.testBit i && !(decide (0 < i) && w.testBit (i - 1)) then rn w i + 1 else rn w i) ≤ i + 1
    have := rn_le w i
    split <;> omega
theorem su_perm {n : Nat} {f : Nat → Nat} (h : isO n f) (g : Nat → Nat) : su (fun k => g (f k)) n = su g n := by
  have e1 : su (fun k => g (f k)) n = su (fun k => su (fun c => if f k = c then g c else 0) n) n := su_congr (fun k hk => by
    rw [su_one (t := f k) (h.1 k hk) (fun s _ hne => if_neg (fun q => hne q.symm)), if_pos rfl])
  rw [e1, su_comm]
  refine su_congr (fun c hc => ?_)
  obtain ⟨k, hk, e⟩ := h.onto hc
  rw [su_one (t := k) hk (fun s hs hne => if_neg (fun q => hne (h.2 s k hs hk (q.trans e.symm)))), if_pos e]
theorem pc_n {n s : Nat} (hn : n ≤ 7) (hs : s < 2 ^ n) : pc s = su (fun c => (s.testBit c).toNat) n := by
  have key : ∀ m, n ≤ m → su (fun c => (s.testBit c).toNat) m = su (fun c => (s.testBit c).toNat) n := by
    intro m
    induction m with
    | zero => intro h; rw [show n = 0 by omega]
    | succ m ih =>
      intro h
      by_cases e : n = m + 1
      · rw [e]
      · show su _ m + (s.testBit m).toNat = _
        rw [ih (by omega), Nat.testBit_lt_two_pow (Nat.lt_of_lt_of_le hs (Nat.pow_le_pow_right (by decide) (by omega)))]
        rfl
  exact key 7 hn
def plw (n : Nat) (f : Nat → Nat) (s : Nat) : Nat := wm (fun k => s.testBit (f k)) n
theorem plw_bit {n : Nat} {f : Nat → Nat} {s k : Nat} (hk : k < n) : (plw n f s).testBit k = s.testBit (f k) := by
  unfold plw
  rw [wm_bit]
  simp [hk]
theorem plw_pc {n : Nat} {f : Nat → Nat} {s : Nat} (hn : n ≤ 7) (h : isO n f) (hs : s < 2 ^ n) : pc (plw n f s) = pc s := by
  rw [pc_n hn (show plw n f s < 2 ^ n from wm_lt _ n n (Nat.le_refl _)), pc_n hn hs, ← su_perm h (fun c => (s.testBit c).toNat)]
  exact su_congr (fun k hk => congrArg Bool.toNat (plw_bit hk))
theorem plw_pos {n : Nat} {f : Nat → Nat} {s : Nat} (hn : n ≤ 7) (h : isO n f) (hs : s < 2 ^ n) (h0 : 0 < s) : 0 < plw n f s ∧ plw n f s < 2 ^ n ∧ plw n f s < 128 := by
  have h2 := p2_lt (n := n) (by omega)
  have h3 : plw n f s < 2 ^ n := wm_lt _ n n (Nat.le_refl _)
  refine ⟨?_, h3, by omega⟩
  rcases Nat.eq_zero_or_pos (plw n f s) with z | z
  · obtain ⟨c, hc, hb⟩ := ex7 s (by omega) h0
    have hcn := bt_n n (by omega) s (by omega) hs c hc hb
    obtain ⟨k, hk, e⟩ := h.onto hcn
    have := plw_bit (f := f) (s := s) hk
    rw [z, e, hb] at this
    simp at this
  · exact z
theorem sp_stand {F n s : Nat} {f : Nat → Nat} {M : om_M} {Q : Int32 → om_M → Prop} (hn : n ≤ 7) (hf : isO n f) (hs : s < 2 ^ n) (h0 : 0 < s) (hF : 10 ≤ F) (h1 : rn (plw n f s) n = 1 → Q 1 M) (h2 : ¬ rn (plw n f s) n = 1 → Q 0 M) : wp_O_standTogether F (nI (pz f n)) (nI s) (nI n) M Q := by
  have p2 := p2_lt (n := n) (by omega)
  refine pu_loop n (fun i z => z = (M, nI (fw n (plw n f s) i), nI (lw (plw n f s) i), nI i)) (fun i z K hi hJ hK => ?_) (i := 0) (by omega) (by omega) rfl
  subst hJ
  refine pk_le n i (fun hle => ?_) (fun hlt => ?_)
  · have e : i = n := by omega
    subst e
    obtain ⟨g1, g2, g3⟩ := plw_pos hn hf hs h0
    obtain ⟨c1, c2, c3⟩ := cln i (by omega) _ g3 g2 g1
    refine sp_bitCount (by omega) ?_
    have hp := pc_le s (by omega)
    rw [plw_pc hn hf hs] at c3
    refine pk_eq (lw (plw i f s) i - fw i (plw i f s) i + 1) (pc s) (fun e => h1 (c3.mp e)) (fun ne => h2 (fun z => ne (c3.mpr z))) ?_
    show nI _ - nI _ + 1 = _
    rw [pk_sub c1, nI_1]
  · refine sp_at hf.1 hn hlt ?_
    have b1 := fw_le n (plw n f s) i
    refine (iS.num hs).br0 hn (hf.1 i hlt) (fun np => hK hlt _ ?_) (fun hp => hK hlt _ ?_)
    · show (M, nI _, nI _, nI i + 1) = (M, nI (if (plw n f s).testBit i then min (fw n (plw n f s) i) i else fw n (plw n f s) i), nI (if (plw n f s).testBit i then i else lw (plw n f s) i), nI (i + 1))
      rw [plw_bit hlt, if_neg (show ¬ s.testBit (f i) = true from np), if_neg (show ¬ s.testBit (f i) = true from np), nI_1]
    · show (M, (if nI i < nI _ then nI i else nI _), nI i, nI i + 1) = (M, nI (if (plw n f s).testBit i then min (fw n (plw n f s) i) i else fw n (plw n f s) i), nI (if (plw n f s).testBit i then i else lw (plw n f s) i), nI (i + 1))
      rw [plw_bit hlt, if_pos (show s.testBit (f i) = true from hp), if_pos (show s.testBit (f i) = true from hp), nI_1, i_min (by omega) (by omega)]
theorem wl_21_eq {F : Nat} {a1 a2 a3 : Int32} {M : om_M} {I : om_M → Prop} : wl_21 F 0 71 89 a1 a2 a3 M I = wp_L_clones F 0 a1 89 1 M (fun r2 M1 => wp_M_clones F 71 a1 M1 (fun r4 M3 => lt_b I r2 r4 M3)) := rfl
def cl1 (P : pv) (s t : Nat) : Prop := 0 < P.am t → rn (plw P.n (P.od t) s) P.n = 1
theorem sp_mclones {F s : Nat} {P : pv} {M : om_M} {Q : Int32 → om_M → Prop} (hM : RM M P) (hg : good 20 100000 P) (hs : s < 2 ^ P.n) (h0 : 0 < s) (hF : 100 ≤ F) (h1 : (∀ t, t < P.T → cl1 P s t) → Q 1 M) (h2 : ¬ (∀ t, t < P.T → cl1 P s t) → Q 0 M) : wp_M_clones_40 F 71 (nI s) Q M 1 0 := by
  have hn := hg.gn
  have hT := hg.gT
  refine pu_loop P.T (fun t z => ∃ x : Int32, z = (M, x, nI t) ∧ ((x = 1 ∧ ∀ t', t' < t → cl1 P s t') ∨ (x = 0 ∧ ¬ ∀ t', t' < P.T → cl1 P s t'))) (fun t z K hi hJ hK => ?_) (i := 0) (by omega) (by omega) ⟨1, rfl, Or.inl ⟨rfl, fun t ht => absurd ht (by omega)⟩⟩
  obtain ⟨x, rfl, hx⟩ := hJ
  refine pk_le P.T t (fun hle => ?_) (fun ht => ?_) hM.2.1
  · rcases hx with ⟨rfl, hx⟩ | ⟨rfl, hx⟩
    · exact ⟨nar1, h1 (fun t' ht' => hx t' (by omega))⟩
    · exact ⟨nar0, h2 hx⟩
  · have hot := hg.go t ht
    have om : ∀ k, k < P.n → M.1 (71 + 1) (7 * t + k) = nI (P.od t k) := fun k hk => hM.2.2.1 t k ht hk
    refine pu_loop P.n (fun i z => z = (M, nI (rn (plw P.n (P.od t) s) i), nI i)) (fun i z K2 hi2 hJ hK2 => ?_) (i := 0) (by omega) (by omega) rfl
    subst hJ
    have hrn := rn_le (plw P.n (P.od t) s) i
    refine pk_le P.n i (fun hle => ?_) (fun hlt => ?_) hM.1
    · have e : i = P.n := by omega
      subst e
      have no : ¬ (∀ t', t' < P.T → cl1 P s t') → wp_M_clones_174 F 71 (nI s) Q K M (nI t) := fun hh => hK ht _ ⟨0, by rw [nI_1], Or.inr ⟨rfl, hh⟩⟩
      refine ⟨fun e => no (hx.resolve_left (fun q => absurd (q.1.symm.trans e) (by decide))).2, fun ne => ⟨pk_in t 20 (by omega), ?_⟩⟩
      have hx1 := hx.resolve_right (fun q => ne q.1)
      have yes : cl1 P s t → wp_M_clones_170 F 71 (nI s) Q K M (nI t) := fun hh => hK ht _ ⟨1, by rw [nI_1], Or.inl ⟨rfl, fun t' ht' => by
        by_cases z : t' = t
        · subst z; exact hh
        · exact hx1.2 t' (by omega)⟩⟩
      rw [nI_clamp (n := t) (by omega)]
      have ham := hg.ga t ht
      refine pk_eq (P.am t) 0 (fun e => yes (fun q => absurd q (by omega))) (fun na => pk_eq (rn (plw P.n (P.od t) s) P.n) 1 (fun e => yes (fun _ => e)) (fun ne2 => no (fun z => ne2 (z t ht (by omega))))) (hM.2.2.2.1 t ht)
    · show vp_in ((7 : Int32) * nI t + nI i) 140 ∧ ((((nI s >>> ((M.1 (71 + 1) ((7 : Int32) * nI t + nI i).toNatClampNeg) &&& 31)) &&& 1) = 1 → wp_M_clones_88 F 71 (nI s) Q x (nI t) K K2 M (nI (rn (plw P.n (P.od t) s) i)) (nI i) 1) ∧ (¬ ((nI s >>> ((M.1 (71 + 1) ((7 : Int32) * nI t + nI i).toNatClampNeg) &&& 31)) &&& 1) = 1 → wp_M_clones_88 F 71 (nI s) Q x (nI t) K K2 M (nI (rn (plw P.n (P.od t) s) i)) (nI i) 0))
      rw [i7, nI_clamp (n := 7 * t + i) (by omega), om i hlt]
      have fin : ∀ (y w : Int32) (b1 b2 : Bool), b1 = s.testBit (P.od t i) → b2 = (decide (0 < i) && (plw P.n (P.od t) s).testBit (i - 1)) → (y = 0 ↔ b1 = false) → (w = 0 ↔ b2 = false) → wp_M_clones_122 F 71 (nI s) Q x (nI t) K K2 M (nI (rn (plw P.n (P.od t) s) i)) (nI i) y w := by
        intro y w b1 b2 e1 e2 hy hw
        have er : rn (plw P.n (P.od t) s) (i + 1) = if b1 && !b2 then rn (plw P.n (P.od t) s) i + 1 else rn (plw P.n (P.od t) s) i := by
          rw [e1, e2, ← plw_bit hlt]
          rfl
        refine ⟨fun e => hK2 hlt _ ?_, fun ne => ⟨fun e => hK2 hlt _ ?_, fun ne2 => hK2 hlt _ ?_⟩⟩
        · rw [er, hy.mp e, nI_1]; rfl
        · have hb1 : b1 = true := by
            rcases hb : b1 with _ | _
            · exact absurd (hy.mpr hb) ne
            · rfl
          rw [er, hb1, hw.mp e, nI_1, nI_1]; rfl
        · have hb2 : b2 = true := by
            rcases hb : b2 with _ | _
            · exact absurd (hw.mpr hb) ne2
            · rfl
          rw [er, hb2, nI_1, Bool.not_true, Bool.and_false]; rfl
      have mid : ∀ (y : Int32) (b1 : Bool), b1 = s.testBit (P.od t i) → (y = 0 ↔ b1 = false) → wp_M_clones_88 F 71 (nI s) Q x (nI t) K K2 M (nI (rn (plw P.n (P.od t) s) i)) (nI i) y := by
        intro y b1 e1 hy
        refine pk_le i 0 (fun q => fin y 0 b1 false e1 (by simp [show ¬ 0 < i by omega]) hy ⟨fun _ => rfl, fun _ => rfl⟩) (fun q => ?_)
        rw [i7, show nI (7 * t + i) - 1 = nI (7 * t + (i - 1)) by
          rw [show nI (7 * t + i) - 1 = nI (7 * t + i - 1) from pk_sub (a := 7 * t + i) (b := 1) (by omega)]
          congr 1
          omega, nI_clamp (n := 7 * t + (i - 1)) (by omega), om (i - 1) (by omega)]
        have pb : (plw P.n (P.od t) s).testBit (i - 1) = s.testBit (P.od t (i - 1)) := plw_bit (by omega)
        refine ⟨pk_in (7 * t + (i - 1)) 140 (by omega), (iS.num hs).br1 hn (hot.1 (i - 1) (by omega)) (fun hp => fin y 1 b1 true e1 (by rw [pb, show s.testBit (P.od t (i - 1)) = true from hp]; simp [q]) hy ⟨fun z => absurd z (by decide), fun z => by cases z⟩) (fun np => fin y 0 b1 false e1 (by
          rw [pb, show s.testBit (P.od t (i - 1)) = false by
            rcases hb : s.testBit (P.od t (i - 1)) with _ | _
            · rfl
            · exact absurd hb np]
          simp) hy ⟨fun _ => rfl, fun _ => rfl⟩)⟩
      refine ⟨pk_in (7 * t + i) 140 (by omega), (iS.num hs).br1 hn (hot.1 i hlt) (fun hp => mid 1 true (show s.testBit (P.od t i) = true from hp).symm ⟨fun z => absurd z (by decide), fun z => by cases z⟩) (fun np => mid 0 false (by
        rcases hb : s.testBit (P.od t i) with _ | _
        · rfl
        · exact absurd hb np) ⟨fun _ => rfl, fun _ => rfl⟩)⟩
theorem iv_21 {F : Nat} (hF : 10000 ≤ F) (M : om_M) (a1 a2 a3 : Int32) (h : II M) : wl_21 F 0 71 89 a1 a2 a3 M II := by
  rw [wl_21_eq]
  obtain ⟨⟨P, hg, hP, hM⟩, -⟩ := id h
  have hn := hg.gn
  have hT := hg.gT
  have hb := p2n hg.gd
  have fbad : wp_M_clones_26 F 71 a1 (fun r4 M3 => lt_b II 1 r4 M3) M 71 := sp_goes (fun _ => ⟨fun _ => lbt_bad (by decide) pu_up1 h.thrown, fun e => absurd rfl e⟩) (fun e => absurd rfl e) (fun e => absurd rfl e)
  have cbad : wp_M_clones F 71 a1 M (fun r4 M3 => lt_b II 1 r4 M3) → wp_D_clones_27 F 0 a1 (fun r4 M2 => ((r4 = 0 → wp_L_clones_15 F 0 a1 89 1 (fun r2 M1 => wp_M_clones F 71 a1 M1 (fun r4 M3 => lt_b II r2 r4 M3)) M2 89 0 0) ∧ (¬ r4 = 0 → wp_L_clones_15 F 0 a1 89 1 (fun r2 M1 => wp_M_clones F 71 a1 M1 (fun r4 M3 => lt_b II r2 r4 M3)) M2 89 0 1))) (fun k M3 => ((k = 1 → wp_M_clones F 71 a1 M3 (fun r4 M3 => lt_b II 1 r4 M3)) ∧ (¬ k = 1 → False))) M := fun hh => ⟨fun _ => ⟨fun _ => hh, fun e => absurd rfl e⟩, fun e => absurd rfl e⟩
  refine ⟨fun q => cbad ⟨fun _ => fbad, fun z => absurd (Int32.le_of_lt q) z⟩, fun q => ?_⟩
  obtain ⟨s, hs2, rfl⟩ := nI_of q
  show ((((1 : Int32) <<< ((M.1 (0 + 1) 5) &&& 31)) - 1) < nI s → _) ∧ (¬ (((1 : Int32) <<< ((M.1 (0 + 1) 5) &&& 31)) - 1) < nI s → _)
  rw [show M.1 (0 + 1) 5 = nI P.n from hP.1, mb_all (by omega)]
  have e1 : (1 : Int32) <<< ((M.1 71 1) &&& 31) = nI (2 ^ P.n) := by rw [hM.1, mb_one (by omega)]
  refine pk_lt (2 ^ P.n - 1) s (fun hgt => cbad ⟨fun _ => fbad, fun _ => pk_le (2 ^ P.n) s (fun _ => fbad) (fun z => absurd z (by omega)) e1⟩) (fun hle => sp_bitCount (by omega) ?_)
  have hp := pc_le s (by omega)
  have esg : nI s &&& (nI s - 1) = nI (s &&& (s - 1)) ∨ s = 0 := by
    rcases Nat.eq_zero_or_pos s with z | z
    · exact Or.inr z
    · exact Or.inl (by rw [show nI s - 1 = nI (s - 1) from pk_sub (a := s) (b := 1) (by omega), mb_and])
  have hand := Nat.and_le_left (n := s) (m := s - 1)
  refine pk_lt (pc s) 2 (fun hlt => cbad ?_) (fun hge => ?_)
  · refine pk_le s 0 (fun _ => fbad) (fun z => pk_le (2 ^ P.n) s (fun _ => fbad) (fun _ => ?_) e1)
    unfold wp_M_single
    rw [esg.resolve_right (by omega)]
    exact pk_eq (s &&& (s - 1)) 0 (fun _ => ⟨fun e => absurd e (by decide), fun _ => fbad⟩) (fun ne => absurd ((two_pc s (by omega)).mp hlt) ne)
  · have hs0 : 0 < s := by
      rcases Nat.eq_zero_or_pos s with z | z
      · subst z
        exact absurd hge (by decide)
      · exact z
    have hns : s &&& (s - 1) ≠ 0 := fun z => by have := (two_pc s (by omega)).mpr z; omega
    have hM0 : ∀ v : Int64, RM (om_ul M 89 0 v) P := fun v => hM
    have model : ∀ v : Int64, ((v = 1 ∧ ∀ t, t < P.T → cl1 P s t) ∨ (v = 0 ∧ ¬ ∀ t, t < P.T → cl1 P s t)) → wp_M_clones F 71 (nI s) (om_ul M 89 0 v) (fun r4 M3 => lt_b II 0 r4 M3) := by
      intro v hv
      refine pk_le s 0 (fun z => absurd z (by omega)) (fun _ => pk_le (2 ^ P.n) s (fun z => absurd z (by omega)) (fun _ => ?_) e1)
      unfold wp_M_single
      rw [esg.resolve_right (by omega)]
      refine pk_eq (s &&& (s - 1)) 0 (fun z => absurd z hns) (fun _ => ⟨fun _ => ?_, fun z => absurd rfl z⟩)
      refine sp_goes (fun e => absurd e (by decide)) (fun _ e => absurd e (by decide)) (fun _ _ => ⟨fun e => absurd e (by decide), fun _ => ?_⟩)
      have eI : II (om_up (om_ul M 89 0 v) 71 0 0) := (II.out h).thrown
      have e2 : (om_up (om_ul M 89 0 v) 71 0 0).2 89 0 = v := ul_out (M := M)
      refine sp_mclones (RM.up0 (hM0 v)) hg (by omega) hs0 (by omega) (fun hc => lbt_ok pu_up1 (fun z => absurd z (by decide)) (fun _ => ?_) eI) (fun hc => lbt_ok pu_up1 (fun _ => ?_) (fun z => absurd rfl z) eI)
      · rw [e2]; exact (hv.resolve_right (fun z => z.2 hc)).1
      · rw [e2]; exact (hv.resolve_left (fun z => hc z.2)).1
    refine ⟨fun e => absurd e (by decide), fun _ => ?_⟩
    refine pu_loop P.T (fun t z => z = (M, nI t) ∧ ∀ t', t' < t → cl1 P s t') (fun t z K hi hJ hK => ?_) (i := 0) (by omega) (by omega) ⟨rfl, fun t ht => absurd ht (by omega)⟩
    obtain ⟨rfl, hj⟩ := hJ
    refine pk_le P.T t (fun hle => ⟨fun e => absurd e (by decide), fun _ => ⟨pk_in 0 1 (by decide), model 1 (Or.inl ⟨rfl, fun t' ht' => hj t' (by omega)⟩)⟩⟩) (fun ht => ⟨pk_in t 21 (by omega), ?_⟩) hP.2.1
    have next : cl1 P s t → K (M, nI t + 1) := fun hh => hK ht _ ⟨by rw [nI_1], fun t' ht' => by
      by_cases z : t' = t
      · subst z; exact hh
      · exact hj t' (by omega)⟩
    have ham := hg.ga t ht
    dsimp only
    rw [nI_clamp (n := t) (by omega), show M.1 (0 + 1 + 1) t = nI (pz (P.od t) P.n) from hP.2.2.2.2.1 t ht, show M.1 (0 + 1) 5 = nI P.n from hP.1]
    refine pk_le (P.am t) 0 (fun z => next (fun y => absurd y (by omega))) (fun z => ?_) (show M.1 (0 + 1 + 2) t = nI (P.am t) from hP.2.2.2.2.2.1 t ht)
    refine sp_stand hn (hg.go t ht) (by omega) hs0 (by omega) (fun e => ⟨fun z => absurd z (by decide), fun _ => next (fun _ => e)⟩) (fun ne => ⟨fun _ => ⟨fun _ => ⟨pk_in 0 1 (by decide), model 0 (Or.inr ⟨rfl, fun w => ne (w t ht z)⟩)⟩, fun z => absurd rfl z⟩, fun z => absurd rfl z⟩)
