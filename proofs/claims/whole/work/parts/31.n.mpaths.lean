/-! the model's paths -/
def mtb (M : om_M) (n : Nat) (s : Nat → Nat → Nat) : Prop := ∀ a b, a < n → b < n → M.1 (71 + 12) (7 * a + b) = nI (s a b)
theorem mtb.up {M : om_M} {n a b w : Nat} {s : Nat → Nat → Nat} (h : mtb M n s) (hn : n ≤ 7) (hb : b < n) : mtb (om_up M (71 + 12) (7 * a + b) (nI w)) n (su2 s a b w) := fun x y hx hy => by
  by_cases e : x = a ∧ y = b
  · obtain ⟨rfl, rfl⟩ := e
    rw [pu_up1, su2_s]
  · rw [pu_up2 (by omega), su2_n e]; exact h x y hx hy
def Tot (n : Nat) (s : Nat → Nat → Nat) : Nat := su (fun a => su (s a) n) n
theorem su_lt {g h : Nat → Nat} {t : Nat} : ∀ {n : Nat}, (∀ s, s < n → g s ≤ h s) → t < n → g t < h t → su g n < su h n
  | 0, _, ht, _ => absurd ht (by omega)
  | n + 1, hle, ht, hlt => by
    show su g n + g n < su h n + h n
    by_cases e : t = n
    · subst e
      have := su_le (n := t) (fun s hs => hle s (by omega))
      omega
    · have := su_lt (n := n) (fun s hs => hle s (by omega)) (by omega) hlt
      have := hle n (by omega)
      omega
theorem Tot.up {n a b w : Nat} {s : Nat → Nat → Nat} (ha : a < n) (hb : b < n) (h : s a b < w) : Tot n s < Tot n (su2 s a b w) := by
  have le : ∀ x y, s x y ≤ su2 s a b w x y := fun x y => by
    by_cases e : x = a ∧ y = b
    · obtain ⟨rfl, rfl⟩ := e; rw [su2_s]; omega
    · rw [su2_n e]; exact Nat.le_refl _
  refine su_lt (t := a) (fun x _ => su_le (fun y _ => le x y)) ha (su_lt (t := b) (fun y _ => le a y) hb ?_)
  rw [su2_s]; exact h
theorem Tot.le {P : pv} (hg : gd P) {s : Nat → Nat → Nat} (h : gs P s) : Tot P.n s ≤ 98000049 := by
  have h1 := su_max (n := P.n) (g := fun a => su (s a) P.n) (m := P.n * 2000001) (fun a ha => su_max (fun b hb => h.1 a b ha hb))
  have hn := hg.2.1
  have h2 : P.n * (P.n * 2000001) ≤ 7 * (7 * 2000001) := Nat.mul_le_mul hn (Nat.mul_le_mul_right _ hn)
  show su (fun a => su (s a) P.n) P.n ≤ _
  omega
def cls (P : pv) (s : Nat → Nat → Nat) : Prop := ∀ a b c, a < P.n → b < P.n → c < P.n → a ≠ b → min (s a c) (s c b) ≤ s a b
theorem cls.cl {P : pv} {s : Nat → Nat → Nat} (h : cls P s) (h0 : cl P 0 s) : ∀ k, k ≤ P.n → cl P k s
  | 0, _ => h0
  | k + 1, hk => fun a b ha hb hne v hv w => by
    have ih := cls.cl h h0 k (by omega)
    rcases w with w | ⟨w1, w2⟩
    · exact ih a b ha hb hne v hv w
    · by_cases e1 : a = k
      · subst e1; exact ih a b ha hb hne v hv w2
      · by_cases e2 : b = k
        · subst e2; exact ih a b ha hb hne v hv w1
        · have h1 := ih a k ha (by omega) e1 v hv w1
          have h2 := ih k b (by omega) hb (fun z => e2 z.symm) v hv w2
          exact Nat.le_trans (Nat.le_min.mpr ⟨h1, h2⟩) (h a b k ha hb (by omega) hne)
/-- what has been looked at in a round -/
def prd (P : pv) (s : Nat → Nat → Nat) (a b c : Nat) : Prop := ∀ x y z, x < P.n → y < P.n → z < P.n → x ≠ y → (x < a ∨ (x = a ∧ (y < b ∨ (y = b ∧ z < c)))) → min (s x z) (s z y) ≤ s x y
def rnd (P : pv) (M0 : om_M) (s : Nat → Nat → Nat) (a b c : Nat) (M : om_M) (x : Int32) : Prop := ∃ t, pu_off 83 M0 M ∧ mtb M P.n t ∧ gs P t ∧ cl P 0 t ∧ ((x = 0 ∧ t = s ∧ prd P s a b c) ∨ (x = 1 ∧ Tot P.n s < Tot P.n t))
theorem rnd.to {P : pv} {M0 M : om_M} {s : Nat → Nat → Nat} {a b c a' b' c' : Nat} {x : Int32} (h : rnd P M0 s a b c M x) (e : prd P s a b c → prd P s a' b' c') : rnd P M0 s a' b' c' M x := by
  obtain ⟨t, h1, h2, h3, h4, h5⟩ := h
  exact ⟨t, h1, h2, h3, h4, h5.elim (fun q => Or.inl ⟨q.1, q.2.1, e q.2.2⟩) Or.inr⟩
theorem sp_findPaths {F : Nat} {P : pv} {M : om_M} {Q : om_M → Prop} (hL : RL M P) (hR : RT M P) (hg : gd P) (hF : 100000000 ≤ F) (h : ∀ M' s, pu_off 83 M M' → mtb M' P.n s → PT P s → Q M') : wp_M_findPaths F 71 M Q := by
  have hn := hg.2.1
  have hLo : ∀ M', pu_off 83 M M' → M'.1 71 8 = nI P.n := fun M' e => by rw [e.1 71 (by decide)]; exact hL.1
  have hRo : ∀ M', pu_off 83 M M' → RT M' P := fun M' e a b ha hb => by rw [e.1 _ (by decide)]; exact hR a b ha hb
  refine pu_loop P.n (fun i z => z.2 = nI i ∧ pu_off 83 M z.1 ∧ ∀ a b, a < i → b < P.n → z.1.1 (71 + 12) (7 * a + b) = nI (s0 P a b)) (fun a z K hi hJ hK => ?_) (i := 0) (by omega) (by omega) ⟨rfl, pu_off.refl, fun a b ha => absurd ha (by omega)⟩
  obtain ⟨M1, y⟩ := z
  obtain ⟨rfl, j1, j2⟩ := hJ
  refine pk_le P.n a (fun hle => ?_) (fun ha => ?_) (hLo M1 j1)
  · refine pu_loop 98000050 (fun i z => ∃ s, pu_off 83 M z.1 ∧ mtb z.1 P.n s ∧ gs P s ∧ cl P 0 s ∧ ((z.2 = 1 ∧ i ≤ Tot P.n s) ∨ (z.2 = 0 ∧ cls P s))) (fun i z K hi hJ hK => ?_) (i := 0) (by omega) (by omega) ⟨s0 P, j1, fun a b ha hb => j2 a b (by omega) hb, gs.init hg, cl.init, Or.inl ⟨rfl, Nat.zero_le _⟩⟩
    obtain ⟨M2, x⟩ := z
    obtain ⟨s, k1, k2, k3, k4, k5⟩ := hJ
    refine ⟨fun e => h M2 s k1 k2 ⟨k3, (k5.resolve_left (fun q => absurd (q.1.symm.trans e) (by decide))).2.cl k4 P.n (Nat.le_refl _)⟩, fun ne => ?_⟩
    have hi2 := (k5.resolve_right (fun q => ne q.1)).2
    have hT := Tot.le hg k3
    refine pu_loop P.n (fun a z => z.2.2 = nI a ∧ rnd P M s a 0 0 z.1 z.2.1) (fun a z K2 hi3 hJ hK2 => ?_) (i := 0) (by omega) (by omega) ⟨rfl, s, k1, k2, k3, k4, Or.inl ⟨rfl, rfl, fun x y z _ _ _ _ q => absurd q (by omega)⟩⟩
    obtain ⟨M3, x3, y3⟩ := z
    obtain ⟨e3, l1⟩ := hJ
    simp only at e3 l1
    subst e3
    have l1' := l1
    obtain ⟨t, q1, q2, q3, q4, q5⟩ := l1'
    refine pk_le P.n a (fun hle => ?_) (fun ha => ?_) (hLo M3 q1)
    · refine hK (by omega) _ ⟨t, q1, q2, q3, q4, ?_⟩
      rcases q5 with q5 | q5
      · obtain ⟨z1, z2, z3⟩ := q5
        subst z2
        exact Or.inr ⟨z1, fun a' b' c' ha' hb' hc' hne' => z3 a' b' c' ha' hb' hc' hne' (by omega)⟩
      · exact Or.inl ⟨q5.1, by omega⟩
    · refine pu_loop P.n (fun b z => z.2.2 = nI b ∧ rnd P M s a b 0 z.1 z.2.1) (fun b z K3 hi4 hJ hK3 => ?_) (i := 0) (by omega) (by omega) ⟨rfl, l1⟩
      obtain ⟨M4, x4, y4⟩ := z
      obtain ⟨e4, n1⟩ := hJ
      simp only at e4 n1
      subst e4
      have n1' := n1
      obtain ⟨t, q1, q2, q3, q4, q5⟩ := n1'
      refine pk_le P.n b (fun hle => hK2 ha _ ⟨by show nI a + 1 = _; rw [nI_1], n1.to (fun w x y z hx hy hz hne q => w x y z hx hy hz hne (by omega))⟩) (fun hb => ?_) (hLo M4 q1)
      refine pu_loop P.n (fun c z => z.2.2 = nI c ∧ rnd P M s a b c z.1 z.2.1) (fun c z K4 hi5 hJ hK4 => ?_) (i := 0) (by omega) (by omega) ⟨rfl, n1⟩
      obtain ⟨M5, x5, y5⟩ := z
      obtain ⟨e5, r1⟩ := hJ
      simp only at e5 r1
      subst e5
      have r1' := r1
      obtain ⟨t, q1, q2, q3, q4, q5⟩ := r1'
      have nxtb : (∀ z, z < P.n → a ≠ b → z < c) → wp_M_findPaths_210 F 71 Q (nI a) K K2 K3 M5 x5 (nI b) := fun hz => hK3 hb _ ⟨by show nI b + 1 = _; rw [nI_1], r1.to (fun w x y z hx hy hz2 hne q => w x y z hx hy hz2 hne (by
        rcases Nat.lt_trichotomy x a with q1 | q1 | q1
        · omega
        · subst q1
          rcases Nat.lt_trichotomy y b with q2 | q2 | q2
          · omega
          · subst q2
            have := hz z hz2 hne
            omega
          · omega
        · omega))⟩
      refine pk_le P.n c (fun hle => nxtb (fun z hz _ => by omega)) (fun hc => pk_eq a b (fun e => nxtb (fun z hz hne => absurd e hne)) (fun hne => ?_)) (hLo M5 q1)
      show vp_in ((7 : Int32) * nI a + nI c) 49 ∧ vp_in ((7 : Int32) * nI c + nI b) 49 ∧ ((M5.1 (71 + 12) ((7 : Int32) * nI c + nI b).toNatClampNeg ≤ M5.1 (71 + 12) ((7 : Int32) * nI a + nI c).toNatClampNeg → wp_M_findPaths_171 F 71 Q (nI a) (nI b) K K2 K3 K4 M5 x5 (nI c) (M5.1 (71 + 12) ((7 : Int32) * nI c + nI b).toNatClampNeg)) ∧ (¬ M5.1 (71 + 12) ((7 : Int32) * nI c + nI b).toNatClampNeg ≤ M5.1 (71 + 12) ((7 : Int32) * nI a + nI c).toNatClampNeg → wp_M_findPaths_171 F 71 Q (nI a) (nI b) K K2 K3 K4 M5 x5 (nI c) (M5.1 (71 + 12) ((7 : Int32) * nI a + nI c).toNatClampNeg)))
      rw [i7, i7, nI_clamp (n := 7 * a + c) (by omega), nI_clamp (n := 7 * c + b) (by omega), q2 a c ha hc, q2 c b hc hb]
      have b1 := q3.1 a c ha hc
      have b2 := q3.1 c b hc hb
      have b3 := q3.1 a b ha hb
      have step : ∀ w, w = min (t a c) (t c b) → wp_M_findPaths_171 F 71 Q (nI a) (nI b) K K2 K3 K4 M5 x5 (nI c) (nI w) := by
        intro w hw
        unfold wp_M_findPaths_171
        rw [i7, nI_clamp (n := 7 * a + b) (by omega), q2 a b ha hb]
        refine ⟨pk_in (7 * a + b) 49 (by omega), pk_le w (t a b) (fun hle => hK4 hc _ ⟨by show nI c + 1 = _; rw [nI_1], t, q1, q2, q3, q4, ?_⟩) (fun hgt => hK4 hc _ ⟨by show nI c + 1 = _; rw [nI_1], su2 t a b w, q1.up, q2.up hn hb, q3.up ha hb hc hne (by omega) (by omega), q4.up (fun x y _ _ => ?_), Or.inr ⟨rfl, ?_⟩⟩)⟩
        · rcases q5 with ⟨z1, z2, z3⟩ | q5
          · refine Or.inl ⟨z1, z2, fun x y z hx hy hz hne2 q => ?_⟩
            by_cases e : x = a ∧ y = b ∧ z = c
            · obtain ⟨rfl, rfl, rfl⟩ := e
              subst z2
              omega
            · exact z3 x y z hx hy hz hne2 (by omega)
          · exact Or.inr q5
        · by_cases e : x = a ∧ y = b
          · obtain ⟨rfl, rfl⟩ := e; rw [su2_s]; omega
          · rw [su2_n e]; exact Nat.le_refl _
        · have := Tot.up ha hb hgt
          rcases q5 with ⟨z1, z2, z3⟩ | q5
          · subst z2; exact this
          · omega
      refine ⟨pk_in (7 * a + c) 49 (by omega), pk_in (7 * c + b) 49 (by omega), pk_le (t c b) (t a c) (fun q => step _ ?_) (fun q => step _ ?_)⟩
      · rw [Nat.min_eq_right q]
      · rw [Nat.min_eq_left (by omega)]
  · refine pu_loop P.n (fun j z => z.2 = nI j ∧ pu_off 83 M z.1 ∧ (∀ a' b, a' < a → b < P.n → z.1.1 (71 + 12) (7 * a' + b) = nI (s0 P a' b)) ∧ ∀ b, b < j → z.1.1 (71 + 12) (7 * a + b) = nI (s0 P a b)) (fun b z K2 hj hJ hK2 => ?_) (i := 0) (by omega) (by omega) ⟨rfl, j1, j2, fun b hb => absurd hb (by omega)⟩
    obtain ⟨M2, y⟩ := z
    obtain ⟨rfl, k1, k2, k3⟩ := hJ
    refine pk_le P.n b (fun hle => hK ha _ ⟨by rw [nI_1], k1, fun x y hx hy => ?_⟩) (fun hb => ?_) (hLo M2 k1)
    · by_cases e : x = a
      · subst e; exact k3 y (by omega)
      · exact k2 x y (by omega) hy
    · have fin : ∀ w : Nat, w = s0 P a b → wp_M_findPaths_59 F 71 Q (nI a) K K2 M2 (nI b) (71 + 12) ((7 : Int32) * nI a + nI b) (nI w) := fun w hw => by
        unfold wp_M_findPaths_59
        rw [i7, nI_clamp (n := 7 * a + b) (by omega)]
        refine ⟨pk_in (7 * a + b) 49 (by omega), hK2 hb _ ⟨by rw [nI_1], k1.up, fun x y hx hy => ?_, fun y hy => ?_⟩⟩
        · rw [pu_up2 (by omega)]; exact k2 x y hx hy
        · by_cases e : y = b
          · subst e; rw [← hw]; exact pu_up1
          · exact (pu_up2 (by omega)).trans (k3 y (by omega))
      refine pk_eq a b (fun e => fin 0 (by subst e; exact (s0_n bt_irr).symm)) (fun ne => ?_)
      refine sp_mbeats (hRo M2 k1) hg (by omega) (by omega) (fun hbt => ⟨fun e => absurd e (by decide), fun _ => ?_⟩) (fun hbt => ⟨fun _ => fin 0 (s0_n hbt).symm, fun e => absurd rfl e⟩)
      rw [show M2.1 (71 + 11) ((7 : Int32) * nI a + nI b).toNatClampNeg = nI (P.ah a b) by
        rw [i7, nI_clamp (n := 7 * a + b) (by omega)]
        exact hRo M2 k1 a b (by omega) (by omega)]
      refine ⟨pk_in (7 * a + b) 49 (by omega) (i7 a b), fin _ (s0_p hbt).symm⟩
theorem sp_pathWinners {F : Nat} {P : pv} {M : om_M} {Q : Int32 → om_M → Prop} (hL : RL M P) (hR : RT M P) (hg : gd P) (hF : 100000000 ≤ F) (h : ∀ M' x, pu_off 83 M M' → iS P.n x (Wpa P) → Q x M') : wp_M_pathWinners F 71 M Q := by
  have hn := hg.2.1
  refine sp_findPaths hL hR hg hF (fun M1 s j1 j2 j3 => ?_)
  have e8 : M1.1 71 8 = nI P.n := by rw [j1.1 71 (by decide)]; exact hL.1
  refine pu_loop P.n (fun i z => ∃ x, z = (M1, x, nI i) ∧ iS P.n x (fun c => c < i ∧ Wpa P c)) (fun a z K hi hJ hK => ?_) (i := 0) (by omega) (by omega) ⟨0, rfl, iS.no.congr (fun c _ => ⟨fun q => absurd q.1 (by omega), fun q => q.elim⟩)⟩
  obtain ⟨x, rfl, hs⟩ := hJ
  refine pk_le P.n a (fun hle => ?_) (fun ha => ?_) e8
  · exact h M1 x j1 (hs.congr (fun c hc => ⟨fun q => ⟨by omega, q⟩, fun q => q.2⟩))
  · refine pu_loop P.n (fun j z => ∃ y : Int32, z = (M1, y, nI j) ∧ ((y = 1 ∧ ∀ b, b < j → s b a ≤ s a b) ∨ (y = 0 ∧ ¬ Wpa P a))) (fun b z K2 hj hJ hK2 => ?_) (i := 0) (by omega) (by omega) ⟨1, rfl, Or.inl ⟨rfl, fun d hd => absurd hd (by omega)⟩⟩
    obtain ⟨y, rfl, hy⟩ := hJ
    refine pk_le P.n b (fun hle => ?_) (fun hb => ?_) e8
    · refine ⟨fun e => hK ha _ ⟨x, by rw [nI_1], hs.congr (fun c hc => ⟨fun q => ⟨?_, q.2⟩, fun q => ⟨by have := q.1; omega, q.2⟩⟩)⟩, fun ne => hK ha _ ⟨_, by rw [nI_1], (hs.ins hn ha).congr (fun c hc => ⟨fun q => ?_, fun q => ?_⟩)⟩⟩
      · have : c ≠ a := fun z => by subst z; exact (hy.resolve_left (fun q => absurd (q.1.symm.trans e) (by decide))).2 q.2
        have := q.1
        omega
      · by_cases z : c = a
        · exact Or.inr z
        · exact Or.inl ⟨by have := q.1; omega, q.2⟩
      · rcases q with q | q
        · exact ⟨by have := q.1; omega, q.2⟩
        · subst q
          exact ⟨by omega, (Wpa.iff j3 ha).mpr (fun b' hb' => (hy.resolve_right (fun q => ne q.1)).2 b' (by omega))⟩
    · have no : ¬ Wpa P a → wp_M_pathWinners_71 F 71 Q x (nI a) K K2 M1 (nI b) := fun hm => hK2 hb _ ⟨0, by rw [nI_1], Or.inr ⟨rfl, hm⟩⟩
      refine ⟨fun e => no (hy.resolve_left (fun q => absurd (q.1.symm.trans e) (by decide))).2, fun ne => ?_⟩
      have hy1 := hy.resolve_right (fun q => ne q.1)
      have yes : s b a ≤ s a b → wp_M_pathWinners_67 F 71 Q x (nI a) K K2 M1 (nI b) := fun hh => hK2 hb _ ⟨1, by rw [nI_1], Or.inl ⟨rfl, fun d hd => by
        by_cases z : d = b
        · subst z; exact hh
        · exact hy1.2 d (by omega)⟩⟩
      refine pk_eq a b (fun e => yes (by subst e; exact Nat.le_refl _)) (fun hne => ?_)
      show vp_in ((7 : Int32) * nI a + nI b) 49 ∧ vp_in ((7 : Int32) * nI b + nI a) 49 ∧ ((M1.1 (71 + 12) ((7 : Int32) * nI a + nI b).toNatClampNeg < M1.1 (71 + 12) ((7 : Int32) * nI b + nI a).toNatClampNeg → _) ∧ (¬ M1.1 (71 + 12) ((7 : Int32) * nI a + nI b).toNatClampNeg < M1.1 (71 + 12) ((7 : Int32) * nI b + nI a).toNatClampNeg → _))
      rw [i7, i7, nI_clamp (n := 7 * a + b) (by omega), nI_clamp (n := 7 * b + a) (by omega), j2 a b ha hb, j2 b a hb ha]
      have b1 := j3.1.1 a b ha hb
      have b2 := j3.1.1 b a hb ha
      exact ⟨pk_in (7 * a + b) 49 (by omega), pk_in (7 * b + a) 49 (by omega), pk_lt (s a b) (s b a) (fun q => no (fun w => by have := (Wpa.iff j3 ha).mp w b hb; omega)) (fun q => yes q)⟩
theorem wl_11_eq {F : Nat} {a1 a2 a3 : Int32} {M : om_M} {I : om_M → Prop} : wl_11 F 0 71 89 a1 a2 a3 M I = wp_L_path F 0 a1 a2 89 1 M (fun r2 M1 => wp_M_path F 71 a1 a2 M1 (fun r4 M3 => lt_i I r2 r4 M3)) := rfl
theorem iv_11 {F : Nat} (hF : 100000000 ≤ F) (M : om_M) (a1 a2 a3 : Int32) (h : II M) : wl_11 F 0 71 89 a1 a2 a3 M II := by
  rw [wl_11_eq]
  obtain ⟨⟨P, hg, hP, hM⟩, -⟩ := id h
  have hn := hg.gn
  have hn2 : 2 ≤ P.n := hg.1
  have badm : ((∀ c, c < P.n → a1 ≠ nI c) ∨ (∀ c, c < P.n → a2 ≠ nI c)) → wp_M_path F 71 a1 a2 M (fun r4 M3 => lt_i II 1 r4 M3) := by
    intro hb
    have fin : wp_M_path_21 F 71 a1 a2 (fun r4 M3 => lt_i II 1 r4 M3) M 71 := sp_goes (fun _ => ⟨fun _ => lt_bad (by decide) pu_up1 h.thrown, fun e => absurd rfl e⟩) (fun e => absurd rfl e) (fun e => absurd rfl e)
    refine sp_misCand hM.1 hn2 hn (fun a ha e => ⟨fun e => absurd e (by decide), fun _ => ?_⟩) (fun _ => ⟨fun _ => fin, fun e => absurd rfl e⟩)
    exact sp_misCand hM.1 hn2 hn (fun b hb2 e2 => hb.elim (fun q => absurd e (q a ha)) (fun q => absurd e2 (q b hb2))) (fun _ => ⟨fun _ => fin, fun e => absurd rfl e⟩)
  refine sp_isCand hP.1 hn (fun a ha e => ⟨fun e => absurd e (by decide), fun _ => ?_⟩) (fun q => ⟨fun _ => ⟨fun _ => ⟨fun _ => badm (Or.inl q), fun e => absurd rfl e⟩, fun e => absurd rfl e⟩, fun e => absurd rfl e⟩)
  refine sp_isCand hP.1 hn (fun b hb e2 => ⟨fun e => absurd e (by decide), fun _ => ⟨fun e => absurd e (by decide), fun _ => ?_⟩⟩) (fun q => ⟨fun _ => ⟨fun _ => ⟨fun _ => badm (Or.inr q), fun e => absurd rfl e⟩, fun e => absurd rfl e⟩, fun e => absurd rfl e⟩)
  subst e e2
  refine sp_measure (o := 0 + 1) hP hg.gd (Or.inl rfl) (by omega) (fun M1 s c1 c2 c3 => ⟨pk_in a 7 (by omega), pk_in b 7 (by omega), pk_in 0 1 (by decide), ?_⟩)
  rw [nI_clamp (n := a) (by omega), nI_clamp (n := b) (by omega), show M1.1 (0 + 22 + 4 + 1 + 1 + a) b = nI (s a b) by
    rw [show 0 + 22 + 4 + 1 + 1 + a = 28 + a by omega]
    exact c2 a b ha hb]
  show wp_M_path F 71 (nI a) (nI b) (om_ul M1 89 0 (nI (s a b)).toInt64) _
  have e71 : (om_ul M1 89 0 (nI (s a b)).toInt64).1 71 = M.1 71 := c1.1 71 (by omega)
  have hM1 : RM (om_ul M1 89 0 (nI (s a b)).toInt64) P := hM.congr (fun q _ _ => c1.1 q (by omega)) (by rw [e71]) (by rw [e71])
  refine sp_misCand (n := P.n) hM1.1 hn2 hn (fun _ _ _ => ⟨fun e => absurd e (by decide), fun _ => ?_⟩) (fun q => absurd rfl (q a ha))
  refine sp_misCand (n := P.n) hM1.1 hn2 hn (fun _ _ _ => ⟨fun e => absurd e (by decide), fun _ => ?_⟩) (fun q => absurd rfl (q b hb))
  refine sp_goes (fun e => absurd e (by decide)) (fun _ e => absurd e (by decide)) (fun _ _ => ⟨fun e => absurd e (by decide), fun _ => ?_⟩)
  refine sp_load (P := P) (RM.up0 hM1) hn hg.gT (by omega) (fun M2 k1 k2 => ?_)
  refine sp_mtally k2 hn (by have := hg.gT; omega) (fun t ht => (hg.go t ht).1) (by omega) (fun M3 l1 l2 => ?_)
  refine sp_findPaths (l1.RL (by decide) k2) l2 hg.gd hF (fun M4 t n1 n2 n3 => ?_)
  have e0 : M4.1 71 0 = 0 := by rw [n1.1 71 (by decide), l1.1 71 (by decide), k1.2.1 0 (by decide) (by decide)]; exact pu_up1
  have e2 : M4.2 89 0 = (nI (s a b)).toInt64 := by rw [n1.2, l1.2, k1.2.2]; exact ul_out (M := M1)
  have eI : II M4 := II.asked (M1' := om_ul M1 89 0 (nI (s a b)).toInt64) h (c1.cq h.ta) rfl (((mq.th.trans k1.mq).trans (off_mq l1 (by decide))).trans (off_mq n1 (by decide)))
  refine pk_eq a b (fun e => lt_ok e0 ?_ eI) (fun ne => ?_)
  · rw [e2]
    subst e
    rw [c3.1.2.1 a ha]
    rfl
  · rw [i7, nI_clamp (n := 7 * a + b) (by omega), n2 a b ha hb, ← c3.uniq n3 ha hb]
    exact ⟨pk_in (7 * a + b) 49 (by omega), lt_ok e0 e2 eI⟩
