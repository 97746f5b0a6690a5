/-! paths -/
def Wp (P : pv) (v : Nat) : Nat → Nat → Nat → Prop
  | 0, a, b => P.bt a b ∧ v ≤ P.ah a b
  | k + 1, a, b => Wp P v k a b ∨ (Wp P v k a k ∧ Wp P v k k b)
theorem Wp.mono {P : pv} {v a b : Nat} {k : Nat} : ∀ {m : Nat}, k ≤ m → Wp P v k a b → Wp P v m a b
  | 0, h, w => by rw [show k = 0 by omega] at w; exact w
  | m + 1, h, w => by
    by_cases e : k = m + 1
    · subst e; exact w
    · exact Or.inl (Wp.mono (by omega) w)
theorem Wp.trans {P : pv} {v c : Nat} : ∀ {k a b : Nat}, c < k → Wp P v k a c → Wp P v k c b → Wp P v k a b
  | 0, _, _, h, _, _ => absurd h (by omega)
  | k + 1, a, b, h, w1, w2 => by
    by_cases e : c = k
    · subst e
      have h1 : Wp P v c a c := w1.elim id (fun q => q.1)
      have h2 : Wp P v c c b := w2.elim id (fun q => q.2)
      exact Or.inr ⟨h1, h2⟩
    · have hc : c < k := by omega
      rcases w1 with w1 | ⟨w1, w1'⟩
      · rcases w2 with w2 | ⟨w2, w2'⟩
        · exact Or.inl (Wp.trans hc w1 w2)
        · exact Or.inr ⟨Wp.trans hc w1 w2, w2'⟩
      · rcases w2 with w2 | ⟨w2, w2'⟩
        · exact Or.inr ⟨w1, Wp.trans hc w1' w2⟩
        · exact Or.inr ⟨w1, w2'⟩
def gs (P : pv) (s : Nat → Nat → Nat) : Prop := (∀ a b, a < P.n → b < P.n → s a b ≤ 2000001) ∧ (∀ a, a < P.n → s a a = 0) ∧ ∀ a b, a < P.n → b < P.n → ∀ v, 0 < v → v ≤ s a b → Wp P v P.n a b
def cl (P : pv) (k : Nat) (s : Nat → Nat → Nat) : Prop := ∀ a b, a < P.n → b < P.n → a ≠ b → ∀ v, 0 < v → Wp P v k a b → v ≤ s a b
def PT (P : pv) (s : Nat → Nat → Nat) : Prop := gs P s ∧ cl P P.n s
def su2 (s : Nat → Nat → Nat) (a b w : Nat) : Nat → Nat → Nat := fun x y => if x = a ∧ y = b then w else s x y
theorem su2_s {s : Nat → Nat → Nat} {a b w : Nat} : su2 s a b w a b = w := if_pos ⟨rfl, rfl⟩
theorem su2_n {s : Nat → Nat → Nat} {a b w x y : Nat} (h : ¬ (x = a ∧ y = b)) : su2 s a b w x y = s x y := if_neg h
theorem PT.uniq {P : pv} {s t : Nat → Nat → Nat} (h : PT P s) (g : PT P t) {a b : Nat} (ha : a < P.n) (hb : b < P.n) : s a b = t a b := by
  by_cases e : a = b
  · subst e
    rw [h.1.2.1 a ha, g.1.2.1 a ha]
  · refine Nat.le_antisymm ?_ ?_
    · rcases Nat.eq_zero_or_pos (s a b) with z | z
      · omega
      · exact g.2 a b ha hb e _ z (h.1.2.2 a b ha hb _ z (Nat.le_refl _))
    · rcases Nat.eq_zero_or_pos (t a b) with z | z
      · omega
      · exact h.2 a b ha hb e _ z (g.1.2.2 a b ha hb _ z (Nat.le_refl _))
theorem gs.up {P : pv} {s : Nat → Nat → Nat} (h : gs P s) {a b c : Nat} (ha : a < P.n) (hb : b < P.n) (hc : c < P.n) (hne : a ≠ b) {w : Nat} (h1 : w ≤ s a c) (h2 : w ≤ s c b) : gs P (su2 s a b w) := by
  refine ⟨fun x y hx hy => ?_, fun x hx => ?_, fun x y hx hy v hv hle => ?_⟩
  · by_cases e : x = a ∧ y = b
    · obtain ⟨rfl, rfl⟩ := e
      rw [su2_s]
      exact Nat.le_trans h1 (h.1 x c hx hc)
    · rw [su2_n e]; exact h.1 x y hx hy
  · rw [su2_n (by omega)]; exact h.2.1 x hx
  · by_cases e : x = a ∧ y = b
    · obtain ⟨rfl, rfl⟩ := e
      rw [su2_s] at hle
      exact Wp.trans hc (h.2.2 x c hx hc v hv (by omega)) (h.2.2 c y hc hy v hv (by omega))
    · rw [su2_n e] at hle; exact h.2.2 x y hx hy v hv hle
def s0 (P : pv) (a b : Nat) : Nat := if P.ah b a < P.ah a b then P.ah a b else 0
theorem s0_p {P : pv} {a b : Nat} (h : P.bt a b) : s0 P a b = P.ah a b := if_pos h
theorem s0_n {P : pv} {a b : Nat} (h : ¬ P.bt a b) : s0 P a b = 0 := if_neg h
theorem gs.init {P : pv} (hg : gd P) : gs P (s0 P) := by
  refine ⟨fun a b _ _ => ?_, fun a _ => s0_n bt_irr, fun a b _ _ v hv hle => ?_⟩
  · by_cases e : P.bt a b
    · rw [s0_p e]; exact ah_le hg a b
    · rw [s0_n e]; omega
  · by_cases e : P.bt a b
    · rw [s0_p e] at hle
      exact Wp.mono (Nat.zero_le _) (show Wp P v 0 a b from ⟨e, hle⟩)
    · rw [s0_n e] at hle; omega
theorem cl.init {P : pv} : cl P 0 (s0 P) := fun a b _ _ _ v _ w => by
  have w : P.bt a b ∧ v ≤ P.ah a b := w
  rw [s0_p w.1]; exact w.2
theorem cl.up {P : pv} {k : Nat} {s t : Nat → Nat → Nat} (h : cl P k s) (hle : ∀ x y, x < P.n → y < P.n → s x y ≤ t x y) : cl P k t := fun a b ha hb hne v hv w => Nat.le_trans (h a b ha hb hne v hv w) (hle a b ha hb)
theorem mn (x y : Nat) : ∃ m, (if nI y < nI x then nI y else nI x) = nI m → True := ⟨0, fun _ => trivial⟩
theorem i_min {x y : Nat} (hx : x < 2 ^ 31) (hy : y < 2 ^ 31) : (if nI y < nI x then nI y else nI x) = nI (min x y) := by
  by_cases h : y < x
  · rw [if_pos (nI_lt h hx), Nat.min_eq_right (by omega)]
  · rw [if_neg (nI_nlt (by omega) hy), Nat.min_eq_left (by omega)]
theorem i_max {x y : Nat} (hx : x < 2 ^ 31) (hy : y < 2 ^ 31) : (if nI x < nI y then nI y else nI x) = nI (max x y) := by
  by_cases h : x < y
  · rw [if_pos (nI_lt h hy), Nat.max_eq_right (by omega)]
  · rw [if_neg (nI_nlt (by omega) hx), Nat.max_eq_left (by omega)]
/-- the class's table -/
def ct (M : om_M) (n : Nat) (s : Nat → Nat → Nat) : Prop := ∀ a b, a < n → b < n → M.1 (28 + a) b = nI (s a b)
theorem ct.up {M : om_M} {n a b w : Nat} {s : Nat → Nat → Nat} (h : ct M n s) : ct (om_up M (28 + a) b (nI w)) n (su2 s a b w) := fun x y hx hy => by
  by_cases e : x = a
  · subst e
    by_cases e2 : y = b
    · subst e2; rw [pu_up1, su2_s]
    · rw [pu_up2 e2, su2_n (by omega)]; exact h x y hx hy
  · rw [om_up_n _ _ (by omega), su2_n (by omega)]; exact h x y hx hy
theorem sp_widen {F a k : Nat} {P : pv} {M M0 : om_M} {s : Nat → Nat → Nat} {Q : om_M → Prop} (hg : gd P) (hc : cr M0 M) (ht : ct M P.n s) (hs : gs P s) (hl : cl P k s) (ha : a < P.n) (hk : k < P.n) (hF : 10 ≤ F) (h : ∀ M' t, cr M0 M' → ct M' P.n t → gs P t → (∀ x y, x < P.n → y < P.n → s x y ≤ t x y) → (∀ b, b < P.n → a ≠ b → ∀ v, 0 < v → Wp P v (k + 1) a b → v ≤ t a b) → Q M') : wp_H_widen F 26 (nI a) (nI k) (nI P.n) M Q := by
  have hn := hg.2.1
  refine ⟨pk_in a 7 (by omega), ?_⟩
  rw [nI_clamp (n := a) (by omega)]
  refine pu_loop P.n (fun j z => ∃ t, z.2 = nI j ∧ cr M0 z.1 ∧ ct z.1 P.n t ∧ gs P t ∧ (∀ x y, x < P.n → y < P.n → s x y ≤ t x y) ∧ ∀ b, b < j → a ≠ b → ∀ v, 0 < v → Wp P v (k + 1) a b → v ≤ t a b) (fun b z K hj hJ hK => ?_) (i := 0) (by omega) (by omega) ⟨s, rfl, hc, ht, hs, fun _ _ _ _ => Nat.le_refl _, fun b hb => absurd hb (by omega)⟩
  obtain ⟨M1, y⟩ := z
  obtain ⟨t, rfl, j1, j2, j3, j4, j5⟩ := hJ
  refine pk_le P.n b (fun hle => h M1 t j1 j2 j3 j4 (fun b hb => j5 b (by omega))) (fun hb => pk_eq b a (fun e => hK hb _ ⟨t, by rw [nI_1], j1, j2, j3, j4, fun d hd => ?_⟩) (fun ne => ⟨pk_in b 7 (by omega), pk_in k 7 (by omega), ?_⟩))
  · by_cases z : d = b
    · intro q; exact absurd (e.symm.trans z.symm) q
    · exact j5 d (by omega)
  · have b1 := j3.1 a k ha hk
    have b2 := j3.1 k b hk hb
    have b3 := j3.1 a b ha hb
    rw [nI_clamp (n := k) (by omega), nI_clamp (n := b) (by omega), show (M1, nI b).1.1 (26 + 1 + 1 + k) b = _ from j2 k b hk hb, show (M1, nI b).1.1 (26 + 1 + 1 + a) k = _ from j2 a k ha hk, show (M1, nI b).1.1 (26 + 1 + 1 + a) b = _ from j2 a b ha hb, i_min (by omega) (by omega), i_max (by omega) (by omega)]
    have gs2 : gs P (su2 t a b (max (t a b) (min (t a k) (t k b)))) := by
      rcases Nat.le_total (min (t a k) (t k b)) (t a b) with q | q
      · rw [Nat.max_eq_left q, show su2 t a b (t a b) = t by
          funext x y
          by_cases e : x = a ∧ y = b
          · obtain ⟨rfl, rfl⟩ := e; exact su2_s
          · exact su2_n e]
        exact j3
      · rw [Nat.max_eq_right q]
        exact j3.up ha hb hk (Ne.symm ne) (Nat.min_le_left _ _) (Nat.min_le_right _ _)
    have up2 : ∀ x y, x < P.n → y < P.n → t x y ≤ su2 t a b (max (t a b) (min (t a k) (t k b))) x y := fun x y _ _ => by
      by_cases e : x = a ∧ y = b
      · obtain ⟨rfl, rfl⟩ := e; rw [su2_s]; exact Nat.le_max_left _ _
      · rw [su2_n e]; exact Nat.le_refl _
    refine hK hb _ ⟨_, by rw [nI_1], j1.up (by omega) (by omega), j2.up, gs2, fun x y hx hy => Nat.le_trans (j4 x y hx hy) (up2 x y hx hy), fun d hd hda v hv w => ?_⟩
    by_cases e : d = b
    · subst e
      rw [su2_s]
      have ln : cl P k t := hl.up j4
      rcases w with w | ⟨w1, w2⟩
      · exact Nat.le_trans (ln a d ha hb hda v hv w) (Nat.le_max_left _ _)
      · by_cases e1 : a = k
        · subst e1
          exact Nat.le_trans (ln a d ha hb hda v hv w2) (Nat.le_max_left _ _)
        · by_cases e2 : d = k
          · subst e2
            exact Nat.le_trans (ln a d ha hb hda v hv w1) (Nat.le_max_left _ _)
          · refine Nat.le_trans ?_ (Nat.le_max_right _ _)
            exact Nat.le_min.mpr ⟨ln a k ha hk e1 v hv w1, ln k d hk hb (fun z => e2 z.symm) v hv w2⟩
    · exact Nat.le_trans (j5 d (by omega) hda v hv w) (up2 a d ha (by omega))
theorem sp_measure {F o : Nat} {P : pv} {M : om_M} {Q : om_M → Prop} (hP : RP o M P) (hg : gd P) (ho : o = 1 ∨ o = 49) (hF : 10 ≤ F) (h : ∀ M' s, cr M M' → ct M' P.n s → PT P s → Q M') : wp_H_measure F 26 o M Q := by
  have hn := hg.2.1
  refine pu_loop P.n (fun i z => z.2 = nI i ∧ cr M z.1 ∧ ∀ a b, a < i → b < P.n → z.1.1 (28 + a) b = nI (s0 P a b)) (fun a z K hi hJ hK => ?_) (i := 0) (by omega) (by omega) ⟨rfl, cr.refl, fun a b ha => absurd ha (by omega)⟩
  obtain ⟨M1, y⟩ := z
  obtain ⟨rfl, j1, j2⟩ := hJ
  refine pk_le P.n a (fun hle => ?_) (fun ha => ?_) (j1.RP ho hP).1
  · refine pu_loop P.n (fun k z => ∃ s, z.2 = nI k ∧ cr M z.1 ∧ ct z.1 P.n s ∧ gs P s ∧ cl P k s) (fun k z K hi hJ hK => ?_) (i := 0) (by omega) (by omega) ⟨s0 P, rfl, j1, fun a b ha hb => j2 a b (by omega) hb, gs.init hg, cl.init⟩
    obtain ⟨M2, y⟩ := z
    obtain ⟨s, rfl, k1, k2, k3, k4⟩ := hJ
    refine pk_le P.n k (fun hle => ?_) (fun hk => ?_) (k1.RP ho hP).1
    · have e : k = P.n := by omega
      subst e
      exact h M2 s k1 k2 ⟨k3, k4⟩
    · refine pu_loop P.n (fun a z => ∃ t, z.2 = nI a ∧ cr M z.1 ∧ ct z.1 P.n t ∧ gs P t ∧ cl P k t ∧ ∀ a', a' < a → ∀ b, b < P.n → a' ≠ b → ∀ v, 0 < v → Wp P v (k + 1) a' b → v ≤ t a' b) (fun a z K2 hi2 hJ hK2 => ?_) (i := 0) (by omega) (by omega) ⟨s, rfl, k1, k2, k3, k4, fun a' q => absurd q (by omega)⟩
      obtain ⟨M3, y⟩ := z
      obtain ⟨t, rfl, l1, l2, l3, l4, l5⟩ := hJ
      refine pk_le P.n a (fun hle => hK hk _ ⟨t, by rw [nI_1], l1, l2, l3, fun x y hx hy => l5 x (by omega) y hy⟩) (fun ha => ?_) (l1.RP ho hP).1
      rw [show (M3, nI a).1.1 o 5 = nI P.n from (l1.RP ho hP).1]
      refine sp_widen hg l1 l2 l3 l4 ha hk hF (fun M4 t2 n1 n2 n3 n4 n5 => hK2 ha _ ⟨t2, by rw [nI_1], n1, n2, n3, l4.up n4, fun a' ha' b hb hne v hv w => ?_⟩)
      by_cases e : a' = a
      · subst e; exact n5 b hb hne v hv w
      · exact Nat.le_trans (l5 a' (by omega) b hb hne v hv w) (n4 a' b (by omega) hb)
  · refine pu_loop P.n (fun j z => z.2 = nI j ∧ cr M z.1 ∧ (∀ a' b, a' < a → b < P.n → z.1.1 (28 + a') b = nI (s0 P a' b)) ∧ ∀ b, b < j → z.1.1 (28 + a) b = nI (s0 P a b)) (fun b z K2 hj hJ hK2 => ?_) (i := 0) (by omega) (by omega) ⟨rfl, j1, j2, fun b hb => absurd hb (by omega)⟩
    obtain ⟨M2, y⟩ := z
    obtain ⟨rfl, k1, k2, k3⟩ := hJ
    have hP2 := k1.RP ho hP
    refine pk_le P.n b (fun hle => hK ha _ ⟨by rw [nI_1], k1, fun x y hx hy => ?_⟩) (fun hb => ⟨pk_in a 7 (by omega), ?_⟩) hP2.1
    · by_cases e : x = a
      · subst e; exact k3 y (by omega)
      · exact k2 x y (by omega) hy
    · have fin : ∀ w : Nat, w = s0 P a b → wp_H_measure_48 F 26 o Q (nI a) K K2 M2 (nI b) (26 + 1 + 1 + (nI a).toNatClampNeg) (nI b) (nI w) := fun w hw => by
        refine ⟨pk_in b 7 (by omega), hK2 hb _ ?_⟩
        rw [nI_clamp (n := a) (by omega), nI_clamp (n := b) (by omega)]
        refine ⟨by rw [nI_1], k1.up (by omega) (by omega), fun x y hx hy => ?_, fun y hy => ?_⟩
        · rw [om_up_n _ _ (by omega)]; exact k2 x y hx hy
        · by_cases e : y = b
          · subst e; rw [← hw]; exact pu_up1
          · exact (pu_up2 e).trans (k3 y (by omega))
      refine sp_beats hP2 hg (by omega) (by omega) (fun hbt => ⟨fun e => absurd e (by decide), fun _ => ⟨pk_in b 7 (by omega), ?_⟩⟩) (fun hbt => ⟨fun _ => fin 0 (s0_n hbt).symm, fun e => absurd rfl e⟩)
      rw [show M2.1 (o + 12 + 1 + (nI a).toNatClampNeg) (nI b).toNatClampNeg = nI (P.ah a b) by
        rw [nI_clamp (n := a) (by omega), nI_clamp (n := b) (by omega)]
        exact hP2.2.2.2.2.2.2.2.2 a b (by omega) (by omega)]
      exact fin _ (s0_p hbt).symm
def Wpa (P : pv) (a : Nat) : Prop := ∀ b, b < P.n → b ≠ a → ∀ v, 0 < v → Wp P v P.n b a → Wp P v P.n a b
theorem Wpa.iff {P : pv} {s : Nat → Nat → Nat} (h : PT P s) {a : Nat} (ha : a < P.n) : Wpa P a ↔ ∀ b, b < P.n → s b a ≤ s a b := by
  constructor
  · intro w b hb
    by_cases e : b = a
    · subst e; exact Nat.le_refl _
    · rcases Nat.eq_zero_or_pos (s b a) with z | z
      · omega
      · exact h.2 a b ha hb (Ne.symm e) _ z (w b hb e _ z (h.1.2.2 b a hb ha _ z (Nat.le_refl _)))
  · intro w b hb e v hv q
    have h1 := h.2 b a hb ha e v hv q
    have h2 := w b hb
    exact h.1.2.2 a b ha hb v hv (by omega)
theorem sp_Hwinners {F o : Nat} {P : pv} {M : om_M} {Q : Int32 → om_M → Prop} (hP : RP o M P) (hg : gd P) (ho : o = 1 ∨ o = 49) (hF : 10 ≤ F) (h : ∀ M' x, cr M M' → iS P.n x (Wpa P) → Q x M') : wp_H_winnerSet F 26 o M Q := by
  have hn := hg.2.1
  refine sp_measure hP hg ho hF (fun M1 s j1 j2 j3 => ?_)
  have hP1 := j1.RP ho hP
  show wp_H_winnerSet_12 F 26 o Q M1 (((1 : Int32) <<< ((M1.1 o 5) &&& 31)) - 1) 0
  rw [hP1.1]
  refine pu_loop P.n (fun i z => ∃ x, z = (M1, x, nI i) ∧ iS P.n x (fun c => c < i → ∀ b, b < P.n → s b c ≤ s c b)) (fun a z K hi hJ hK => ?_) (i := 0) (by omega) (by omega) ⟨_, rfl, (iS.every hn).congr (fun c _ => ⟨fun _ => trivial, fun _ q => absurd q (by omega)⟩)⟩
  obtain ⟨x, rfl, hs⟩ := hJ
  refine pk_le P.n a (fun hle => ?_) (fun ha => ?_) hP1.1
  · exact h M1 x j1 (hs.congr (fun c hc => ⟨fun q _ => (Wpa.iff j3 hc).mp q, fun q => (Wpa.iff j3 hc).mpr (q (by omega))⟩))
  · refine pu_loop P.n (fun j z => ∃ x, z = (M1, x, nI j) ∧ iS P.n x (fun c => (c < a → ∀ b, b < P.n → s b c ≤ s c b) ∧ (c = a → ∀ b, b < j → s b c ≤ s c b))) (fun b z K2 hj hJ hK2 => ?_) (i := 0) (by omega) (by omega) ⟨x, rfl, hs.congr (fun c _ => ⟨fun q => q.1, fun q => ⟨q, fun _ b hb => absurd hb (by omega)⟩⟩)⟩
    obtain ⟨x, rfl, hs⟩ := hJ
    refine pk_le P.n b (fun hle => hK ha _ ⟨x, by rw [nI_1], hs.congr (fun c hc => ⟨fun q => ⟨fun z => q (by omega), fun z b' hb' => q (by omega) b' (by omega)⟩, fun q z => ?_⟩)⟩) (fun hb => ⟨pk_in a 7 (by omega), pk_in b 7 (by omega), ?_⟩) hP1.1
    · by_cases e : c = a
      · exact fun b' hb' => q.2 e b' (by omega)
      · exact q.1 (by omega)
    · rw [nI_clamp (n := a) (by omega), nI_clamp (n := b) (by omega)]
      have b1 := j3.1.1 a b ha hb
      have b2 := j3.1.1 b a hb ha
      refine pk_le (s b a) (s a b) (fun q => hK2 hb _ ⟨x, by rw [nI_1], hs.congr (fun c hc => ⟨fun w => ⟨w.1, fun z b' hb' => w.2 z b' (by omega)⟩, fun w => ⟨w.1, fun z b' hb' => ?_⟩⟩)⟩) (fun q => hK2 hb _ ⟨_, by rw [nI_1], (hs.del hn ha).congr (fun c hc => ⟨fun w => ⟨⟨w.1, fun z b' hb' => w.2 z b' (by omega)⟩, fun z => ?_⟩, fun w => ⟨w.1.1, fun z => absurd z w.2⟩⟩)⟩) (j2 b a hb ha) (j2 a b ha hb)
      · by_cases e : b' = b
        · subst e; subst z; exact q
        · exact w.2 z b' (by omega)
      · have := w.2 z b (by omega)
        subst z
        omega
