/-! locks: the theory -/
def key (P : pv) (a b : Nat) : Nat := P.ah a b * 64 + (7 - tpl P a) * 8 + (7 - tpl P b)
def pr (P : pv) (a b : Nat) : Prop := a < P.n ∧ b < P.n ∧ P.bt a b
theorem tpl_lt {P : pv} (hg : gd P) {a : Nat} (ha : a < P.n) : tpl P a < P.n ∧ P.ti (tpl P a) = a := by
  obtain ⟨k, hk, e⟩ := hg.2.2.2.2.2.1.onto ha
  have := tpl_eq hg hk
  rw [e] at this
  rw [this]
  exact ⟨hk, e⟩
theorem key_inj {P : pv} (hg : gd P) {a b c d : Nat} (h : pr P a b) (g : pr P c d) (e : key P a b = key P c d) : a = c ∧ b = d := by
  have hn := hg.2.1
  obtain ⟨l1, e1⟩ := tpl_lt hg h.1
  obtain ⟨l2, e2⟩ := tpl_lt hg h.2.1
  obtain ⟨l3, e3⟩ := tpl_lt hg g.1
  obtain ⟨l4, e4⟩ := tpl_lt hg g.2.1
  unfold key at e
  have t1 : tpl P a = tpl P c := by omega
  have t2 : tpl P b = tpl P d := by omega
  exact ⟨by rw [← e1, t1, e3], by rw [← e2, t2, e4]⟩
theorem key_lt {P : pv} (hg : gd P) (a b : Nat) : key P a b < 128000128 := by
  have := ah_le hg a b
  unfold key
  omega
def Rc (E : Nat → Nat → Prop) (x y : Nat) : Prop := ∀ R : Nat → Prop, R x → (∀ u w, R u → E u w → R w) → R y
theorem Rc.refl {E : Nat → Nat → Prop} {x : Nat} : Rc E x x := fun _ h _ => h
theorem Rc.tail {E : Nat → Nat → Prop} {x y z : Nat} (h : Rc E x y) (g : E y z) : Rc E x z := fun R h1 h2 => h2 y z (h R h1 h2) g
theorem Rc.mono {E E' : Nat → Nat → Prop} {x y : Nat} (h : Rc E x y) (g : ∀ u w, E u w → E' u w) : Rc E' x y := fun R h1 h2 => h R h1 (fun u w q e => h2 u w q (g u w e))
theorem Rc.trans {E : Nat → Nat → Prop} {x y z : Nat} (h : Rc E x y) (g : Rc E y z) : Rc E x z := fun R h1 h2 => g R (h R h1 h2) h2
/-- E is what is locked of the pairs D that have been looked at, the greater keys first -/
def okL (P : pv) (D E : Nat → Nat → Prop) : Prop := ∀ a b, E a b ↔ (D a b ∧ ¬ Rc (fun x y => E x y ∧ key P a b < key P x y) b a)
theorem okL.step {P : pv} (hg : gd P) {D E D' E' : Nat → Nat → Prop} {a b : Nat} (h : okL P D E) (hD : ∀ c d, D c d → pr P c d) (hp : pr P a b) (hgt : ∀ c d, D c d → key P a b < key P c d) (hD' : ∀ c d, D' c d ↔ (D c d ∨ (c = a ∧ d = b))) (hE' : ∀ c d, E' c d ↔ (E c d ∨ (c = a ∧ d = b ∧ ¬ Rc E b a))) : okL P D' E' := by
  have hED : ∀ c d, E c d → D c d := fun c d q => ((h c d).mp q).1
  have hnD : ¬ D a b := fun q => Nat.lt_irrefl _ (hgt a b q)
  have same : ∀ c d x y, D c d → ((E' x y ∧ key P c d < key P x y) ↔ (E x y ∧ key P c d < key P x y)) := fun c d x y hc => by
    have hk := hgt c d hc
    constructor
    · rintro ⟨q1, q2⟩
      rcases (hE' x y).mp q1 with q | ⟨rfl, rfl, -⟩
      · exact ⟨q, q2⟩
      · omega
    · rintro ⟨q1, q2⟩
      exact ⟨(hE' x y).mpr (Or.inl q1), q2⟩
  have cg : ∀ (A B : Nat → Nat → Prop) (x y : Nat), (∀ u w, A u w ↔ B u w) → (Rc A x y ↔ Rc B x y) := fun A B x y e => ⟨fun q => q.mono (fun u w => (e u w).mp), fun q => q.mono (fun u w => (e u w).mpr)⟩
  intro c d
  rw [hE' c d, hD' c d]
  constructor
  · rintro (q | ⟨rfl, rfl, q⟩)
    · have hc := (h c d).mp q
      exact ⟨Or.inl hc.1, fun r => hc.2 ((cg _ _ _ _ (fun u w => same c d u w hc.1)).mp r)⟩
    · refine ⟨Or.inr ⟨rfl, rfl⟩, fun r => q (r.mono (fun u w e => ?_))⟩
      rcases (hE' u w).mp e.1 with z | ⟨rfl, rfl, -⟩
      · exact z
      · exact absurd e.2 (Nat.lt_irrefl _)
  · rintro ⟨q | ⟨rfl, rfl⟩, r⟩
    · exact Or.inl ((h c d).mpr ⟨q, fun w => r ((cg _ _ _ _ (fun u w => same c d u w q)).mpr w)⟩)
    · refine Or.inr ⟨rfl, rfl, fun w => r (w.mono (fun u v e => ⟨(hE' u v).mpr (Or.inl e), hgt u v (hED u v e)⟩))⟩
theorem okL.uniq {P : pv} (hg : gd P) {E E' : Nat → Nat → Prop} (h : okL P (pr P) E) (g : okL P (pr P) E') : ∀ a b, E a b ↔ E' a b := by
  have key' : ∀ m a b, 128000128 - key P a b ≤ m → (E a b ↔ E' a b) := by
    intro m
    induction m with
    | zero => intro a b q; have := key_lt hg a b; omega
    | succ m ih =>
      intro a b q
      rw [h a b, g a b]
      have : ∀ x y, (E x y ∧ key P a b < key P x y) ↔ (E' x y ∧ key P a b < key P x y) := fun x y => by
        constructor
        · rintro ⟨q1, q2⟩
          exact ⟨(ih x y (by omega)).mp q1, q2⟩
        · rintro ⟨q1, q2⟩
          exact ⟨(ih x y (by omega)).mpr q1, q2⟩
      constructor
      · rintro ⟨q1, q2⟩
        exact ⟨q1, fun r => q2 (r.mono (fun u w => (this u w).mpr))⟩
      · rintro ⟨q1, q2⟩
        exact ⟨q1, fun r => q2 (r.mono (fun u w => (this u w).mp))⟩
  exact fun a b => key' _ a b (Nat.le_refl _)
def Wlk (P : pv) (c : Nat) : Prop := ∀ E, okL P (pr P) E → ∀ a, ¬ E a c
theorem Wlk.iff {P : pv} (hg : gd P) {E : Nat → Nat → Prop} (h : okL P (pr P) E) (c : Nat) : Wlk P c ↔ ∀ a, ¬ E a c := ⟨fun w => w E h, fun w E' g a q => w a ((h.uniq hg g a c).mpr q)⟩
/-- one step or more -/
def Tc (E : Nat → Nat → Prop) (x y : Nat) : Prop := ∃ z, E x z ∧ Rc E z y
theorem Tc.rc {E : Nat → Nat → Prop} {x y : Nat} (h : Tc E x y) : Rc E x y := by
  obtain ⟨z, h1, h2⟩ := h
  exact (Rc.refl.tail h1).trans h2
theorem Rc.tc {E : Nat → Nat → Prop} {x y : Nat} (h : Rc E x y) : x = y ∨ Tc E x y := by
  refine h (fun y => x = y ∨ Tc E x y) (Or.inl rfl) (fun u w q e => Or.inr ?_)
  rcases q with q | ⟨z, h1, h2⟩
  · subst q; exact ⟨w, e, Rc.refl⟩
  · exact ⟨z, h1, h2.tail e⟩
theorem Tc.add {E E' : Nat → Nat → Prop} {a b : Nat} (hE : ∀ c d, E' c d ↔ (E c d ∨ (c = a ∧ d = b))) (x y : Nat) : Tc E' x y ↔ (Tc E x y ∨ ((x = a ∨ Tc E x a) ∧ (y = b ∨ Tc E b y))) := by
  have mono : ∀ u w, E u w → E' u w := fun u w q => (hE u w).mpr (Or.inl q)
  have tcm : ∀ u w, Tc E u w → Tc E' u w := fun u w ⟨z, h1, h2⟩ => ⟨z, mono _ _ h1, h2.mono mono⟩
  constructor
  · rintro ⟨z, h1, h2⟩
    refine h2 (fun y => Tc E x y ∨ ((x = a ∨ Tc E x a) ∧ (y = b ∨ Tc E b y))) ?_ (fun u w q e => ?_)
    · rcases (hE x z).mp h1 with q | ⟨rfl, rfl⟩
      · exact Or.inl ⟨z, q, Rc.refl⟩
      · exact Or.inr ⟨Or.inl rfl, Or.inl rfl⟩
    · rcases (hE u w).mp e with e | ⟨rfl, rfl⟩
      · rcases q with ⟨v, q1, q2⟩ | ⟨q1, q2⟩
        · exact Or.inl ⟨v, q1, q2.tail e⟩
        · refine Or.inr ⟨q1, Or.inr ?_⟩
          rcases q2 with rfl | ⟨v, q3, q4⟩
          · exact ⟨w, e, Rc.refl⟩
          · exact ⟨v, q3, q4.tail e⟩
      · rcases q with q | ⟨q1, q2⟩
        · exact Or.inr ⟨Or.inr q, Or.inl rfl⟩
        · exact Or.inr ⟨q1, Or.inl rfl⟩
  · have eab : E' a b := (hE a b).mpr (Or.inr ⟨rfl, rfl⟩)
    rintro (q | ⟨q1, q2⟩)
    · exact tcm _ _ q
    · have t1 : Rc E' b y := by
        rcases q2 with rfl | q2
        · exact Rc.refl
        · exact (tcm _ _ q2).rc
      rcases q1 with rfl | q1
      · exact ⟨b, eab, t1⟩
      · obtain ⟨z, h1, h2⟩ := tcm _ _ q1
        exact ⟨z, h1, (h2.tail eab).trans t1⟩
/-- how many pairs there are -/
def p01 (P : pv) (a b : Nat) : Nat := if P.ah b a < P.ah a b then 1 else 0
theorem p01_p {P : pv} {a b : Nat} (h : P.bt a b) : p01 P a b = 1 := if_pos h
theorem p01_n {P : pv} {a b : Nat} (h : ¬ P.bt a b) : p01 P a b = 0 := if_neg h
theorem p01_2 (P : pv) (a b : Nat) : p01 P a b + p01 P b a ≤ 1 := by
  by_cases h : P.bt a b
  · rw [p01_p h, p01_n (bt_asym h)]; omega
  · by_cases g : P.bt b a
    · rw [p01_n h, p01_p g]; omega
    · rw [p01_n h, p01_n g]; omega
theorem su_c (m : Nat) : ∀ n, su (fun _ => m) n = n * m
  | 0 => by simp [su]
  | n + 1 => by
    show su (fun _ => m) n + m = (n + 1) * m
    rw [su_c m n, Nat.add_mul]
    omega
theorem tot_pairs {P : pv} (hg : gd P) : su (fun i => su (fun j => p01 P (P.ti i) (P.ti j)) P.n) P.n ≤ 21 := by
  have hn := hg.2.1
  have e1 : su (fun i => su (fun j => p01 P (P.ti i) (P.ti j)) P.n) P.n = su (fun i => su (fun j => p01 P (P.ti j) (P.ti i)) P.n) P.n := su_comm
  have e2 : su (fun i => su (fun j => p01 P (P.ti i) (P.ti j) + p01 P (P.ti j) (P.ti i)) P.n) P.n = su (fun i => su (fun j => p01 P (P.ti i) (P.ti j)) P.n) P.n + su (fun i => su (fun j => p01 P (P.ti j) (P.ti i)) P.n) P.n := by
    rw [← su_add]
    exact su_congr (fun i _ => su_add)
  have e3 : su (fun i => su (fun j => p01 P (P.ti i) (P.ti j) + p01 P (P.ti j) (P.ti i)) P.n) P.n ≤ su (fun _ => P.n - 1) P.n := by
    refine su_le (fun i hi => ?_)
    have h1 : su (fun j => (p01 P (P.ti i) (P.ti j) + p01 P (P.ti j) (P.ti i)) + (if j = i then 1 else 0)) P.n ≤ su (fun _ => 1) P.n := by
      refine su_le (fun j hj => ?_)
      by_cases e : j = i
      · subst e
        rw [p01_n bt_irr, if_pos rfl]
        omega
      · rw [if_neg e]
        exact p01_2 P _ _
    rw [su_add, su_one (t := i) hi (fun s _ hne => if_neg hne), if_pos rfl, su_c] at h1
    omega
  rw [su_c] at e3
  have e4 : P.n * (P.n - 1) ≤ 7 * 6 := Nat.mul_le_mul hn (by omega)
  omega
/-- keys in their places: descending, each once -/
def srt (M : om_M) (m : Nat) (ks : Nat → Nat) : Prop := (∀ i, i < m → M.1 36 i = nI (ks i)) ∧ (∀ i, i + 1 < m → ks (i + 1) < ks i) ∧ ∀ i, i < m → ks i < 128000128
theorem srt.lt {M : om_M} {m : Nat} {ks : Nat → Nat} (h : srt M m ks) : ∀ {j i : Nat}, i < j → j < m → ks j < ks i := by
  intro j
  induction j with
  | zero => intro i q; omega
  | succ j ih =>
    intro i q1 q2
    have h1 := h.2.1 j q2
    by_cases e : i = j
    · subst e; exact h1
    · have := ih (i := i) (by omega) (by omega)
      omega
theorem sp_insert {F m k : Nat} {ks : Nat → Nat} {M0 M : om_M} {Q : om_M → Prop} (h0 : cr M0 M) (hm : M.1 35 2 = nI m) (hm2 : m < 21) (hs : srt M m ks) (hk : k < 128000128) (hne : ∀ i, i < m → ks i ≠ k) (hF : 100 ≤ F) (h : ∀ M' kt, cr M0 M' → M'.1 35 2 = nI (m + 1) → srt M' (m + 1) kt → (∀ v, (∃ i, i < m + 1 ∧ kt i = v) ↔ ((∃ i, i < m ∧ ks i = v) ∨ v = k)) → Q M') : wp_K_insert F 35 (nI k) M Q := by
  unfold wp_K_insert
  rw [hm]
  refine pu_loop m (fun i z => z.2 = nI (m - i) ∧ cr M0 z.1 ∧ z.1.1 35 2 = nI m ∧ (∀ j, j < m - i → z.1.1 36 j = nI (ks j)) ∧ (∀ j, m - i ≤ j → j < m → z.1.1 36 (j + 1) = nI (ks j) ∧ ks j < k)) (fun i z K hi hJ hK => ?_) (i := 0) (by omega) (by omega) ⟨rfl, h0, hm, fun j hj => hs.1 j (by omega), fun j h1 h2 => absurd h1 (by omega)⟩
  obtain ⟨M1, y⟩ := z
  obtain ⟨rfl, j1, j2, j3, j4⟩ := hJ
  obtain ⟨s, es⟩ : ∃ s, s = m - i := ⟨_, rfl⟩
  rw [← es] at j3 j4 ⊢
  have put : (∀ j, j < s → k < ks j) → wp_K_insert_41 F 35 (nI k) Q M1 (nI s) := by
    intro hlt
    refine ⟨pk_in s 21 (by omega), ?_⟩
    rw [nI_clamp (n := s) (by omega), om_up_n _ _ (by decide), show (M1, nI s).1.1 35 2 = nI m from j2, nI_1]
    have hd := fun j i (q1 : i < j) (q2 : j < m) => hs.lt (j := j) (i := i) q1 q2
    refine h _ (fun i => if i < s then ks i else if i = s then k else ks (i - 1)) ((j1.up (by omega) (by omega)).up (by omega) (by omega)) pu_up1 ⟨fun i hi => ?_, fun i hi => ?_, fun i hi => ?_⟩ (fun v => ⟨?_, ?_⟩)
    · rw [om_up_n _ _ (by decide)]
      show (om_up M1 36 s (nI k)).1 36 i = nI (if i < s then ks i else if i = s then k else ks (i - 1))
      by_cases e : i = s
      · subst e; rw [pu_up1, if_neg (by omega), if_pos rfl]
      · rw [pu_up2 e]
        by_cases q : i < s
        · rw [if_pos q]; exact j3 i q
        · rw [if_neg q, if_neg e]
          have := (j4 (i - 1) (by omega) (by omega)).1
          rw [show i - 1 + 1 = i by omega] at this
          exact this
    · show (if i + 1 < s then ks (i + 1) else if i + 1 = s then k else ks (i + 1 - 1)) < (if i < s then ks i else if i = s then k else ks (i - 1))
      by_cases q1 : i + 1 < s
      · rw [if_pos q1, if_pos (by omega)]; exact hd (i + 1) i (by omega) (by omega)
      · by_cases q2 : i + 1 = s
        · rw [if_neg q1, if_pos q2, if_pos (by omega)]; exact hlt i (by omega)
        · rw [if_neg q1, if_neg q2, if_neg (by omega), Nat.add_sub_cancel]
          by_cases q3 : i = s
          · rw [if_pos q3]; exact (j4 i (by omega) (by omega)).2
          · rw [if_neg q3]; exact hd i (i - 1) (by omega) (by omega)
    · show (if i < s then ks i else if i = s then k else ks (i - 1)) < _
      split
      · exact hs.2.2 i (by omega)
      · split
        · exact hk
        · exact hs.2.2 (i - 1) (by omega)
    · rintro ⟨i, q1, q2⟩
      have q2 : (if i < s then ks i else if i = s then k else ks (i - 1)) = v := q2
      by_cases z1 : i < s
      · rw [if_pos z1] at q2; exact Or.inl ⟨i, by omega, q2⟩
      · by_cases z2 : i = s
        · rw [if_neg z1, if_pos z2] at q2; exact Or.inr q2.symm
        · rw [if_neg z1, if_neg z2] at q2; exact Or.inl ⟨i - 1, by omega, q2⟩
    · rintro (⟨i, q1, q2⟩ | q)
      · by_cases z1 : i < s
        · exact ⟨i, by omega, by show (if i < s then ks i else if i = s then k else ks (i - 1)) = v; rw [if_pos z1]; exact q2⟩
        · exact ⟨i + 1, by omega, by show (if i + 1 < s then ks (i + 1) else if i + 1 = s then k else ks (i + 1 - 1)) = v; rw [if_neg (by omega), if_neg (by omega), Nat.add_sub_cancel]; exact q2⟩
      · exact ⟨s, by omega, by show (if s < s then ks s else if s = s then k else ks (s - 1)) = v; rw [if_neg (by omega), if_pos rfl]; exact q.symm⟩
  refine pk_le s 0 (fun hle => put (fun j hj => absurd hj (by omega))) (fun hgt => ?_)
  rw [show nI s - 1 = nI (s - 1) from pk_sub (a := s) (b := 1) (by omega), nI_clamp (n := s - 1) (by omega)]
  have bk := hs.2.2 (s - 1) (by omega)
  refine ⟨pk_in (s - 1) 21 (by omega), pk_le k (ks (s - 1)) (fun hle => put (fun j hj => ?_)) (fun hgt2 => ⟨pk_in s 21 (by omega), hK (by omega) _ ?_⟩) rfl (j3 (s - 1) (by omega))⟩
  · have h1 := hne j (by omega)
    by_cases e : j = s - 1
    · subst e; omega
    · have := hs.lt (j := s - 1) (i := j) (by omega) (by omega)
      omega
  · rw [nI_clamp (n := s) (by omega), show (M1, nI s).1.1 (35 + 1) (s - 1) = nI (ks (s - 1)) from j3 (s - 1) (by omega)]
    refine ⟨?_, j1.up (by omega) (by omega), ?_, fun j hj => ?_, fun j h1 h2 => ?_⟩
    · show nI s + (-1) = nI (m - (i + 1))
      rw [show s = m - (i + 1) + 1 by omega]
      exact pk_m1 _
    · rw [om_up_n _ _ (by decide)]; exact j2
    · show (om_up M1 36 s _).1 36 j = _
      rw [pu_up2 (by omega)]; exact j3 j (by omega)
    · show (om_up M1 36 s _).1 36 (j + 1) = _ ∧ _
      by_cases e : j = s - 1
      · subst e
        rw [show s - 1 + 1 = s by omega, pu_up1]
        exact ⟨rfl, hgt2⟩
      · rw [pu_up2 (by omega)]
        exact j4 j (by omega) h2
