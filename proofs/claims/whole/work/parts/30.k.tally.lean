/-! the class's tables: one ballot is counted in or out -/
theorem su_congr {g h : Nat → Nat} : ∀ {n : Nat}, (∀ t, t < n → g t = h t) → su g n = su h n
  | 0, _ => rfl
  | n + 1, e => by
    show su g n + g n = su h n + h n
    rw [su_congr (fun t ht => e t (by omega)), e n (by omega)]
theorem su_zero : ∀ {g : Nat → Nat} {n : Nat}, (∀ t, t < n → g t = 0) → su g n = 0
  | _, 0, _ => rfl
  | g, n + 1, e => by
    show su g n + g n = 0
    rw [su_zero (fun t ht => e t (by omega)), e n (by omega)]
theorem su_mul {v : Nat} {g : Nat → Nat} : ∀ {n : Nat}, su (fun t => v * g t) n = v * su g n
  | 0 => rfl
  | n + 1 => by
    show su (fun t => v * g t) n + v * g n = v * (su g n + g n)
    rw [su_mul, Nat.mul_add]
theorem su_le {g h : Nat → Nat} : ∀ {n : Nat}, (∀ t, t < n → g t ≤ h t) → su g n ≤ su h n
  | 0, _ => Nat.le_refl _
  | n + 1, e => by
    show su g n + g n ≤ su h n + h n
    have := su_le (n := n) (fun t ht => e t (by omega))
    have := e n (by omega)
    omega
theorem su_one {g : Nat → Nat} {n t : Nat} (ht : t < n) (h : ∀ s, s < n → s ≠ t → g s = 0) : su g n = g t := by
  induction n with
  | zero => omega
  | succ n ih =>
    show su g n + g n = g t
    by_cases e : t = n
    · subst e
      rw [su_zero (fun s hs => h s (by omega) (by omega))]
      omega
    · rw [ih (by omega) (fun s hs => h s (by omega)), h n (by omega) (by omega)]
      rfl
theorem ab_mul (v n : Nat) (f : Nat → Nat) (a b : Nat) : ab v n f a b = v * ab 1 n f a b := by
  unfold ab
  rw [← su_mul]
  refine su_congr (fun i _ => ?_)
  rw [← su_mul]
  refine su_congr (fun j _ => ?_)
  split <;> simp
theorem sp_at {F n k : Nat} {f : Nat → Nat} {M : om_M} {Q : Int32 → om_M → Prop} (hf : ∀ j, j < n → f j < n) (hn : n ≤ 7) (hk : k < n) (h : Q (nI (f k)) M) : wp_O_at F (nI (pz f n)) (nI k) M Q := by
  show Q ((nI (pz f n) >>> (((3 : Int32) * nI k) &&& 31)) &&& 7) M
  rw [pa_get (fun j hj => by have := hf j hj; omega) (by omega) hk]
  exact h
/-- tables of the poll at o: x has been added g and h times -/
def tp (o : Nat) (x : Int32) (M M' : om_M) (g h : Nat → Nat → Nat) : Prop := (∀ o', (o' < o + 5 ∨ o + 20 ≤ o') → M'.1 o' = M.1 o') ∧ M'.2 = M.2 ∧ (∀ c p, c < 7 → p < 7 → M'.1 (o + 4 + 1 + c) p = M.1 (o + 4 + 1 + c) p + x * nI (g c p)) ∧ ∀ a b, a < 7 → b < 7 → M'.1 (o + 12 + 1 + a) b = M.1 (o + 12 + 1 + a) b + x * nI (h a b)
theorem tp.refl {o : Nat} {x : Int32} {M : om_M} {g h : Nat → Nat → Nat} (hg : ∀ c p, c < 7 → p < 7 → g c p = 0) (hh : ∀ c p, c < 7 → p < 7 → h c p = 0) : tp o x M M g h := ⟨fun _ _ => rfl, rfl, fun c p hc hp => by rw [hg c p hc hp, nI_0, Int32.mul_zero, Int32.add_zero], fun c p hc hp => by rw [hh c p hc hp, nI_0, Int32.mul_zero, Int32.add_zero]⟩
theorem tp.congr {o : Nat} {x : Int32} {M M' : om_M} {g h g' h' : Nat → Nat → Nat} (t : tp o x M M' g h) (hg : ∀ c p, c < 7 → p < 7 → g' c p = g c p) (hh : ∀ c p, c < 7 → p < 7 → h' c p = h c p) : tp o x M M' g' h' := ⟨t.1, t.2.1, fun c p hc hp => by rw [hg c p hc hp]; exact t.2.2.1 c p hc hp, fun c p hc hp => by rw [hh c p hc hp]; exact t.2.2.2 c p hc hp⟩
theorem tp_i (a x : Int32) (k : Nat) : a + x * nI k + x = a + x * nI (k + 1) := by
  rw [nI_succ, Int32.mul_add, Int32.mul_one, Int32.add_assoc]
theorem tp.pl {o c0 p0 : Nat} {x : Int32} {M M' : om_M} {g h g' : Nat → Nat → Nat} (t : tp o x M M' g h) (hc : c0 < 7) (hp : p0 < 7) (e0 : g' c0 p0 = g c0 p0 + 1) (e1 : ∀ c p, c < 7 → p < 7 → ¬ (c = c0 ∧ p = p0) → g' c p = g c p) : tp o x M (om_up M' (o + 4 + 1 + c0) p0 (M'.1 (o + 4 + 1 + c0) p0 + x)) g' h := by
  refine ⟨fun o' ho => ?_, t.2.1, fun c p hc' hp' => ?_, fun a b ha hb => ?_⟩
  · rw [om_up_n _ _ (by omega)]; exact t.1 o' ho
  · by_cases e : c = c0
    · subst e
      by_cases e2 : p = p0
      · subst e2
        rw [pu_up1, t.2.2.1 c p hc hp, e0, tp_i]
      · rw [pu_up2 e2, e1 c p hc' hp' (by omega)]; exact t.2.2.1 c p hc' hp'
    · rw [om_up_n _ _ (by omega), e1 c p hc' hp' (by omega)]; exact t.2.2.1 c p hc' hp'
  · rw [om_up_n _ _ (by omega)]; exact t.2.2.2 a b ha hb
theorem tp.ah {o c0 p0 : Nat} {x : Int32} {M M' : om_M} {g h h' : Nat → Nat → Nat} (t : tp o x M M' g h) (hc : c0 < 7) (hp : p0 < 7) (e0 : h' c0 p0 = h c0 p0 + 1) (e1 : ∀ c p, c < 7 → p < 7 → ¬ (c = c0 ∧ p = p0) → h' c p = h c p) : tp o x M (om_up M' (o + 12 + 1 + c0) p0 (M'.1 (o + 12 + 1 + c0) p0 + x)) g h' := by
  refine ⟨fun o' ho => ?_, t.2.1, fun c p hc' hp' => ?_, fun a b ha hb => ?_⟩
  · rw [om_up_n _ _ (by omega)]; exact t.1 o' ho
  · rw [om_up_n _ _ (by omega)]; exact t.2.2.1 c p hc' hp'
  · by_cases e : a = c0
    · subst e
      by_cases e2 : b = p0
      · subst e2
        rw [pu_up1, t.2.2.2 a b hc hp, e0, tp_i]
      · rw [pu_up2 e2, e1 a b ha hb (by omega)]; exact t.2.2.2 a b ha hb
    · rw [om_up_n _ _ (by omega), e1 a b ha hb (by omega)]; exact t.2.2.2 a b ha hb
theorem sp_tally {F o n : Nat} {f : Nat → Nat} {x : Int32} {M : om_M} {Q : om_M → Prop} (hn : n ≤ 7) (hf : ∀ k, k < n → f k < n) (hS : M.1 o 5 = nI n) (hF : 10 ≤ F) (h : ∀ M', tp o x M M' (fun c p => if p < n ∧ f p = c then 1 else 0) (ab 1 n f) → Q M') : wp_P_tally F o (nI (pz f n)) x M Q := by
  refine pu_loop n (fun i z => z.2 = nI i ∧ tp o x M z.1 (fun c p => if p < i ∧ f p = c then 1 else 0) (fun a b => su (fun i => su (fun j => if i < j ∧ f i = a ∧ f j = b then 1 else 0) n) i)) (fun i z K hi hJ hK => ?_) (i := 0) (by omega) (by omega) ⟨rfl, tp.refl (fun c p _ _ => by rw [if_neg (by omega)]) (fun c p _ _ => rfl)⟩
  obtain ⟨M1, y⟩ := z
  obtain ⟨rfl, ht⟩ := hJ
  have hS1 : M1.1 o 5 = nI n := by rw [ht.1 o (by omega)]; exact hS
  refine pk_le n i (fun hle => ?_) (fun hlt => ?_) hS1
  · have e : i = n := by omega
    subst e
    exact h M1 ht
  · refine sp_at hf hn hlt ?_
    have hfi := hf i hlt
    refine ⟨pk_in (f i) 7 (by omega), pk_in i 7 (by omega), ?_⟩
    rw [pk_cl (f i), pk_cl i]
    refine pu_loop n (fun j z => i < j ∧ z.2 = nI j ∧ tp o x M z.1 (fun c p => if p < i + 1 ∧ f p = c then 1 else 0) (fun a b => su (fun i => su (fun j => if i < j ∧ f i = a ∧ f j = b then 1 else 0) n) i + su (fun j => if i < j ∧ f i = a ∧ f j = b then 1 else 0) j)) (fun j z K2 hj hJ hK2 => ?_) (i := i + 1) (by omega) (by omega) ⟨by omega, (nI_succ i).symm, ?_⟩
    · obtain ⟨M2, y⟩ := z
      obtain ⟨hij, rfl, ht2⟩ := hJ
      have hS2 : M2.1 o 5 = nI n := by rw [ht2.1 o (by omega)]; exact hS
      refine pk_le n j (fun hle => ?_) (fun hlt2 => ?_) hS2
      · have e : j = n := by omega
        subst e
        exact hK hlt _ ⟨(nI_succ i).symm, ht2⟩
      · refine sp_at hf hn hlt2 ?_
        have hfj := hf j hlt2
        refine ⟨pk_in (f j) 7 (by omega), hK2 hlt2 _ ⟨by omega, (nI_succ j).symm, ?_⟩⟩
        rw [pk_cl (f j)]
        refine ht2.ah (by omega) (by omega) ?_ ?_
        · show _ + (su _ j + (if i < j ∧ f i = f i ∧ f j = f j then 1 else 0)) = _ + su _ j + 1
          rw [if_pos ⟨hij, rfl, rfl⟩]
          omega
        · intro c p hc hp hne
          show _ + (su _ j + (if i < j ∧ f i = c ∧ f j = p then 1 else 0)) = _ + su _ j
          rw [if_neg (fun q => hne ⟨q.2.1.symm, q.2.2.symm⟩)]
          omega
    · refine (ht.pl (c0 := f i) (p0 := i) (by omega) (by omega) ?_ ?_).congr (fun _ _ _ _ => rfl) (fun a b _ _ => ?_)
      · show (if i < i + 1 ∧ f i = f i then 1 else 0) = (if i < i ∧ f i = f i then 1 else 0) + 1
        rw [if_pos ⟨by omega, rfl⟩, if_neg (by omega)]
      · intro c p hc hp hne
        show (if p < i + 1 ∧ f p = c then 1 else 0) = (if p < i ∧ f p = c then 1 else 0)
        by_cases e : p = i
        · subst e
          rw [if_neg (fun q => hne ⟨q.2.symm, rfl⟩), if_neg (by omega)]
        · by_cases e2 : p < i
          · by_cases e3 : f p = c
            · rw [if_pos ⟨by omega, e3⟩, if_pos ⟨e2, e3⟩]
            · rw [if_neg (fun q => e3 q.2), if_neg (fun q => e3 q.2)]
          · rw [if_neg (by omega), if_neg (by omega)]
      · show su _ i + su _ (i + 1) = su _ i
        rw [su_zero (g := fun j => if i < j ∧ f i = a ∧ f j = b then 1 else 0) (fun j hj => by rw [if_neg (by omega)])]
        rfl
