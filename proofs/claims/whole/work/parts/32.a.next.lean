/-! the next order -/
def tn (f : Nat → Nat) : Nat → Nat
  | 0 => 0
  | i + 1 => if f i ≤ f (i + 1) then i + 1 else tn f i
def oj (f : Nat → Nat) (t : Nat) : Nat → Nat
  | 0 => 0
  | j + 1 => if f t ≤ f (j + 1) then j + 1 else oj f t j
def sw (f : Nat → Nat) (t j k : Nat) : Nat := if k = t then f j else if k = j then f t else f k
def nxf (n : Nat) (f : Nat → Nat) (k : Nat) : Nat := if k ≤ tn f (n - 1) - 1 then sw f (tn f (n - 1) - 1) (oj f (tn f (n - 1) - 1) (n - 1)) k else sw f (tn f (n - 1) - 1) (oj f (tn f (n - 1) - 1) (n - 1)) (n + (tn f (n - 1) - 1) - k)
theorem sw_j {f : Nat → Nat} {t j k : Nat} (h1 : k ≠ t) (h2 : k = j) : sw f t j k = f t := by
  unfold sw
  rw [if_neg h1, if_pos h2]
theorem sw_n {f : Nat → Nat} {t j k : Nat} (h1 : k ≠ t) (h2 : k ≠ j) : sw f t j k = f k := by
  unfold sw
  rw [if_neg h1, if_neg h2]
theorem tn_le (f : Nat → Nat) : ∀ m, tn f m ≤ m
  | 0 => Nat.le_refl _
  | m + 1 => by
    show (if f m ≤ f (m + 1) then m + 1 else tn f m) ≤ m + 1
    have := tn_le f m
    split <;> omega
theorem tn_up (f : Nat → Nat) : ∀ m, 0 < tn f m → f (tn f m - 1) ≤ f (tn f m)
  | 0, h => absurd h (by simp [tn])
  | m + 1, h => by
    by_cases e : f m ≤ f (m + 1)
    · rw [show tn f (m + 1) = m + 1 from if_pos e, Nat.add_sub_cancel]; exact e
    · rw [show tn f (m + 1) = tn f m from if_neg e] at h ⊢
      exact tn_up f m h
theorem tn_dn (f : Nat → Nat) : ∀ m k, tn f m ≤ k → k < m → f (k + 1) < f k
  | 0, k, _, h => absurd h (by omega)
  | m + 1, k, h1, h2 => by
    by_cases e : f m ≤ f (m + 1)
    · rw [show tn f (m + 1) = m + 1 from if_pos e] at h1; omega
    · rw [show tn f (m + 1) = tn f m from if_neg e] at h1
      by_cases z : k = m
      · subst z; omega
      · exact tn_dn f m k h1 (by omega)
theorem oj_lo (f : Nat → Nat) (t : Nat) : ∀ m k, k ≤ m → 0 < k → f t ≤ f k → k ≤ oj f t m
  | 0, k, h1, h2, _ => absurd h1 (by omega)
  | m + 1, k, h1, h2, h3 => by
    show k ≤ (if f t ≤ f (m + 1) then m + 1 else oj f t m)
    split
    · exact h1
    · rename_i e
      exact oj_lo f t m k (by
        have : k ≠ m + 1 := fun z => e (z ▸ h3)
        omega) h2 h3
theorem oj_le (f : Nat → Nat) (t : Nat) : ∀ m, oj f t m ≤ m
  | 0 => Nat.le_refl _
  | m + 1 => by
    show (if f t ≤ f (m + 1) then m + 1 else oj f t m) ≤ m + 1
    have := oj_le f t m
    split <;> omega
theorem oj_up (f : Nat → Nat) (t : Nat) : ∀ m, 0 < oj f t m → f t ≤ f (oj f t m)
  | 0, h => absurd h (by simp [oj])
  | m + 1, h => by
    by_cases e : f t ≤ f (m + 1)
    · rw [show oj f t (m + 1) = m + 1 from if_pos e]; exact e
    · rw [show oj f t (m + 1) = oj f t m from if_neg e] at h ⊢
      exact oj_up f t m h
theorem oj_dn (f : Nat → Nat) (t : Nat) : ∀ m k, oj f t m < k → k ≤ m → f k < f t
  | 0, k, h1, h2 => absurd h1 (by omega)
  | m + 1, k, h1, h2 => by
    by_cases e : f t ≤ f (m + 1)
    · rw [show oj f t (m + 1) = m + 1 from if_pos e] at h1; omega
    · rw [show oj f t (m + 1) = oj f t m from if_neg e] at h1
      by_cases z : k = m + 1
      · subst z; omega
      · exact oj_dn f t m k h1 (by omega)
/-- what the two searches find -/
theorem nx_fd {n : Nat} {f : Nat → Nat} (hf : isO n f) (hn : 2 ≤ n) (ht : tn f (n - 1) ≠ 0) : ∃ t j, tn f (n - 1) = t + 1 ∧ oj f t (n - 1) = j ∧ t < j ∧ j < n ∧ f t < f j ∧ (∀ k, t < k → k + 1 < n → f (k + 1) < f k) ∧ ∀ k, j < k → k < n → f k < f t := by
  refine ⟨tn f (n - 1) - 1, oj f (tn f (n - 1) - 1) (n - 1), by omega, rfl, ?_⟩
  have h1 := tn_le f (n - 1)
  have h2 := tn_up f (n - 1) (by omega)
  have h3 := oj_lo f (tn f (n - 1) - 1) (n - 1) (tn f (n - 1)) h1 (by omega) h2
  have h4 := oj_le f (tn f (n - 1) - 1) (n - 1)
  have h5 := oj_up f (tn f (n - 1) - 1) (n - 1) (by omega)
  refine ⟨by omega, by omega, ?_, fun k q1 q2 => tn_dn f (n - 1) k (by omega) (by omega), fun k q1 q2 => oj_dn f _ (n - 1) k q1 (by omega)⟩
  rcases Nat.lt_or_eq_of_le h5 with q | q
  · exact q
  · have := hf.2 _ _ (by omega) (by omega) q
    omega
theorem nxf_eq {n t j : Nat} {f : Nat → Nat} (h1 : tn f (n - 1) = t + 1) (h2 : oj f t (n - 1) = j) (k : Nat) : nxf n f k = if k ≤ t then sw f t j k else sw f t j (n + t - k) := by
  unfold nxf
  rw [h1, Nat.add_sub_cancel, h2]
theorem nx_is {n : Nat} {f : Nat → Nat} (hf : isO n f) (hn : 2 ≤ n) (ht : tn f (n - 1) ≠ 0) : isO n (nxf n f) := by
  obtain ⟨t, j, e1, e2, q1, q2, -⟩ := nx_fd hf hn ht
  have key : ∀ k, k < n → ∃ k', k' < n ∧ nxf n f k = f k' ∧ k' = (if k ≤ t then (if k = t then j else k) else if n + t - k = j then t else n + t - k) := fun k hk => by
    rw [nxf_eq e1 e2]
    by_cases z : k ≤ t
    · rw [if_pos z, if_pos z]
      unfold sw
      by_cases y : k = t
      · rw [if_pos y, if_pos y]; exact ⟨j, q2, rfl, rfl⟩
      · rw [if_neg y, if_neg y, if_neg (by omega)]; exact ⟨k, hk, rfl, rfl⟩
    · rw [if_neg z, if_neg z]
      unfold sw
      rw [if_neg (by omega)]
      by_cases y : n + t - k = j
      · rw [if_pos y, if_pos y]; exact ⟨t, by omega, rfl, rfl⟩
      · rw [if_neg y, if_neg y]; exact ⟨n + t - k, by omega, rfl, rfl⟩
  refine ⟨fun k hk => ?_, fun a b ha hb e => ?_⟩
  · obtain ⟨k', h1, h2, -⟩ := key k hk
    rw [h2]; exact hf.1 k' h1
  · obtain ⟨a', p1, p2, p3⟩ := key a ha
    obtain ⟨b', r1, r2, r3⟩ := key b hb
    rw [p2, r2] at e
    have e := hf.2 a' b' p1 r1 e
    rw [p3, r3] at e
    split at e <;> split at e <;> (try split at e) <;> (try split at e) <;> omega
/-- f comes before g: at the first place where they differ it has the lesser -/
def lex (n : Nat) (v : Nat → Nat) (f g : Nat → Nat) : Prop := ∃ p, p < n ∧ (∀ k, k < p → f k = g k) ∧ v (f p) < v (g p)
theorem df_ex {n : Nat} {f g : Nat → Nat} (h : ¬ ∀ k, k < n → f k = g k) : ∃ p, p < n ∧ (∀ k, k < p → f k = g k) ∧ f p ≠ g p := by
  have : ∃ p, p < n ∧ f p ≠ g p := by
    apply Classical.byContradiction
    intro q
    exact h (fun k hk => Classical.byContradiction (fun z => q ⟨k, hk, z⟩))
  obtain ⟨p, ⟨h1, h2⟩, hm⟩ := pk_least (fun p => p < n ∧ f p ≠ g p) this
  exact ⟨p, h1, fun k hk => Classical.byContradiction (fun z => hm k hk ⟨by omega, z⟩), h2⟩
/-- what is left after equal beginnings -/
theorem rest_in {n p : Nat} {f g : Nat → Nat} (hf : isO n f) (hg : isO n g) (h : ∀ k, k < p → g k = f k) (hp : p < n) : ∃ q, p ≤ q ∧ q < n ∧ g p = f q := by
  obtain ⟨q, hq, e⟩ := hf.onto (hg.1 p hp)
  refine ⟨q, ?_, hq, e.symm⟩
  rcases Nat.lt_or_ge q p with z | z
  · have := hg.2 q p (by omega) hp ((h q z).trans e)
    omega
  · exact z
theorem dec_lt {n t : Nat} {f : Nat → Nat} (h : ∀ k, t < k → k + 1 < n → f (k + 1) < f k) : ∀ b a, t < a → a < b → b < n → f b < f a
  | 0, _, _, h2, _ => absurd h2 (by omega)
  | b + 1, a, h1, h2, h3 => by
    have e := h b (by omega) h3
    by_cases z : a = b
    · subst z; exact e
    · have := dec_lt h b a h1 (by omega) (by omega)
      omega
/-- an order whose end falls is the last of those that begin so -/
theorem last_of {n m : Nat} {f g : Nat → Nat} (hf : isO n f) (hg : isO n g) (hd : ∀ a b, m ≤ a → a < b → b < n → f b < f a) (h : ∀ k, k < m → g k = f k) : (∀ k, k < n → g k = f k) ∨ lex n id g f := by
  by_cases e : ∀ k, k < n → g k = f k
  · exact Or.inl e
  · obtain ⟨p, h1, h2, h3⟩ := df_ex e
    refine Or.inr ⟨p, h1, h2, ?_⟩
    obtain ⟨q, q1, q2, q3⟩ := rest_in hf hg h2 h1
    have hpm : m ≤ p := by
      rcases Nat.lt_or_ge p m with z | z
      · exact absurd (h p z) h3
      · exact z
    have : p ≠ q := fun z => h3 (by rw [q3, z])
    show g p < f p
    rw [q3]
    exact hd p q hpm (by omega) q2
theorem nx_end {n : Nat} {f g : Nat → Nat} (hf : isO n f) (hg : isO n g) (hn : 2 ≤ n) (ht : tn f (n - 1) = 0) : (∀ k, k < n → g k = f k) ∨ lex n id g f := by
  refine last_of (m := 0) hf hg (fun a b _ h1 h2 => ?_) (fun k hk => absurd hk (by omega))
  have key : ∀ b a, a < b → b < n → f b < f a := by
    intro b
    induction b with
    | zero => intro a q; omega
    | succ b ih =>
      intro a q1 q2
      have e := tn_dn f (n - 1) b (by omega) (by omega)
      by_cases z : a = b
      · subst z; exact e
      · have := ih a (by omega) (by omega)
        omega
  exact key b a h1 h2
theorem nx_step {n : Nat} {f g : Nat → Nat} (hf : isO n f) (hg : isO n g) (hn : 2 ≤ n) (ht : tn f (n - 1) ≠ 0) (h : lex n id g (nxf n f)) : (∀ k, k < n → g k = f k) ∨ lex n id g f := by
  obtain ⟨t, j, e1, e2, q1, q2, q3, q4, q5⟩ := nx_fd hf hn ht
  have hh := nx_is hf hn ht
  obtain ⟨p, p1, p2, p3⟩ := h
  have p3 : g p < nxf n f p := p3
  have low : ∀ k, k < t → nxf n f k = f k := fun k hk => by
    rw [nxf_eq e1 e2, if_pos (by omega)]
    unfold sw
    rw [if_neg (by omega), if_neg (by omega)]
  have att : nxf n f t = f j := by
    rw [nxf_eq e1 e2, if_pos (Nat.le_refl _)]
    exact if_pos rfl
  have dec := dec_lt q4
  rcases Nat.lt_trichotomy p t with z | z | z
  · refine Or.inr ⟨p, p1, fun k hk => ?_, ?_⟩
    · rw [p2 k hk]; exact low k (by omega)
    · show g p < f p
      rw [← low p z]; exact p3
  · subst z
    rw [att] at p3
    have pre : ∀ k, k < p → g k = f k := fun k hk => (p2 k hk).trans (low k hk)
    obtain ⟨q, r1, r2, r3⟩ := rest_in hf hg pre p1
    by_cases y : q = p
    · subst y
      refine last_of (m := q + 1) hf hg (fun a b h1 h2 h3 => dec b a (by omega) h2 h3) (fun k hk => ?_)
      by_cases w : k = q
      · subst w; exact r3
      · exact pre k (by omega)
    · refine Or.inr ⟨p, p1, pre, ?_⟩
      show g p < f p
      rw [r3] at p3 ⊢
      rcases Nat.lt_or_ge j q with w | w
      · exact q5 q w r2
      · by_cases w2 : q = j
        · subst w2; omega
        · have := dec j q (by omega) (by omega) q2
          omega
  · exfalso
    obtain ⟨q, r1, r2, r3⟩ := rest_in hh hg p2 p1
    rw [r3] at p3
    have hs : ∀ k, t < k → k < n → nxf n f k = sw f t j (n + t - k) := fun k h1 h2 => by rw [nxf_eq e1 e2, if_neg (by omega)]
    rw [hs q (by omega) r2, hs p z p1] at p3
    have hq : p ≠ q := fun w => by subst w; omega
    by_cases w1 : n + t - q = j
    · rw [sw_j (by omega) w1, sw_n (by omega) (by omega)] at p3
      have := q5 (n + t - p) (by omega) (by omega)
      omega
    · by_cases w2 : n + t - p = j
      · rw [sw_n (by omega) w1, sw_j (by omega) w2] at p3
        have := dec j (n + t - q) (by omega) (by omega) q2
        omega
      · rw [sw_n (by omega) w1, sw_n (by omega) w2] at p3
        have := dec (n + t - p) (n + t - q) (by omega) (by omega) (by omega)
        omega
theorem id_first {n : Nat} {g : Nat → Nat} (hg : isO n g) : ∀ p, p < n → (∀ k, k < p → g k = k) → p ≤ g p := fun p hp h => by
  rcases Nat.lt_or_ge (g p) p with z | z
  · have := hg.2 (g p) p (by omega) hp (h (g p) z)
    omega
  · exact z
theorem id_min {n : Nat} {g f : Nat → Nat} (hg : isO n g) (hf : ∀ k, k < n → f k = k) (h : lex n id g f) : False := by
  obtain ⟨p, p1, p2, p3⟩ := h
  have := id_first hg p p1 (fun k hk => (p2 k hk).trans (hf k (by omega)))
  have p3 : g p < f p := p3
  rw [hf p p1] at p3
  omega
/-- the orders one after the other, as numbers -/
def dg (a k : Nat) : Nat := a / 8 ^ k % 8
def itn (n : Nat) : Nat → Nat
  | 0 => pz (fun k => k) n
  | i + 1 => pz (nxf n (dg (itn n i))) n
theorem itn_dg {n i : Nat} (hn : 2 ≤ n) (hn7 : n ≤ 7) (hf : isO n (dg (itn n i))) (ht : tn (dg (itn n i)) (n - 1) ≠ 0) {k : Nat} (hk : k < n) : dg (itn n (i + 1)) k = nxf n (dg (itn n i)) k := by
  have hh := nx_is hf hn ht
  exact pz_at (fun k hk => by have := hh.1 k hk; omega) hk
theorem itn_0 {n : Nat} (hn7 : n ≤ 7) {k : Nat} (hk : k < n) : dg (itn n 0) k = k := pz_at (f := fun k => k) (fun k hk => by omega) hk
theorem isO.congr {n : Nat} {f g : Nat → Nat} (h : isO n f) (e : ∀ k, k < n → g k = f k) : isO n g := ⟨fun k hk => by rw [e k hk]; exact h.1 k hk, fun a b ha hb q => h.2 a b ha hb (by rw [← e a ha, ← e b hb]; exact q)⟩
theorem itn_is {n : Nat} (hn : 2 ≤ n) (hn7 : n ≤ 7) : ∀ i, (∀ m, m < i → tn (dg (itn n m)) (n - 1) ≠ 0) → isO n (dg (itn n i))
  | 0, _ => isO.congr (f := fun k => k) ⟨fun k hk => hk, fun _ _ _ _ e => e⟩ (fun k hk => itn_0 hn7 hk)
  | i + 1, h => by
    have ih := itn_is hn hn7 i (fun m hm => h m (by omega))
    exact (nx_is ih hn (h i (by omega))).congr (fun k hk => itn_dg hn hn7 ih (h i (by omega)) hk)
def run (n : Nat) : Nat → Nat → Bool
  | 0, _ => false
  | m + 1, a => if tn (dg a) (n - 1) = 0 then true else run n m (pz (nxf n (dg a)) n)
theorem run_ex {n : Nat} : ∀ m i, run n m (itn n i) = true → ∃ L, i ≤ L ∧ L < i + m ∧ tn (dg (itn n L)) (n - 1) = 0 ∧ ∀ k, i ≤ k → k < L → tn (dg (itn n k)) (n - 1) ≠ 0
  | 0, i, h => by cases h
  | m + 1, i, h => by
    by_cases e : tn (dg (itn n i)) (n - 1) = 0
    · exact ⟨i, Nat.le_refl _, by omega, e, fun k h1 h2 => absurd h1 (by omega)⟩
    · rw [show run n (m + 1) (itn n i) = run n m (itn n (i + 1)) from if_neg e] at h
      obtain ⟨L, h1, h2, h3, h4⟩ := run_ex m (i + 1) h
      exact ⟨L, by omega, by omega, h3, fun k q1 q2 => by
        by_cases z : k = i
        · subst z; exact e
        · exact h4 k (by omega) q2⟩
