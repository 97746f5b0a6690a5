/-! the abstract poll, and what the two sides hold of it -/
def pv : Type := Nat × Nat × (Nat → Nat → Nat) × (Nat → Nat) × (Nat → Nat) × (Nat → Nat) × (Nat → Nat)
def pv.n (P : pv) : Nat := P.1
def pv.T (P : pv) : Nat := P.2.1
def pv.od (P : pv) : Nat → Nat → Nat := P.2.2.1
def pv.am (P : pv) : Nat → Nat := P.2.2.2.1
def pv.ti (P : pv) : Nat → Nat := P.2.2.2.2.1
def pv.ag (P : pv) : Nat → Nat := P.2.2.2.2.2.1
def pv.we (P : pv) : Nat → Nat := P.2.2.2.2.2.2
/-- f is an order of n -/
def isO (n : Nat) (f : Nat → Nat) : Prop := (∀ k, k < n → f k < n) ∧ ∀ j k, j < n → k < n → f j = f k → j = k
/-- sum of g over t < T -/
def su (g : Nat → Nat) : Nat → Nat
  | 0 => 0
  | t + 1 => su g t + g t
/-- v if f has a ahead of b -/
def ab (v n : Nat) (f : Nat → Nat) (a b : Nat) : Nat := su (fun i => su (fun j => if i < j ∧ f i = a ∧ f j = b then v else 0) n) n
def pv.pl (P : pv) (c p : Nat) : Nat := su (fun t => if p < P.n ∧ P.od t p = c then P.am t else 0) P.T
def pv.ah (P : pv) (a b : Nat) : Nat := su (fun t => ab (P.am t) P.n (P.od t) a b) P.T
def good (mt ma : Nat) (P : pv) : Prop := 2 ≤ P.n ∧ P.n ≤ 7 ∧ P.T ≤ mt ∧ (∀ t, t < P.T → P.am t ≤ ma) ∧ (∀ t, t < P.T → isO P.n (P.od t)) ∧ isO P.n P.ti ∧ isO P.n P.ag ∧ ∀ k, k < P.n → P.we k ≤ 1000
def RP (o : Nat) (M : om_M) (P : pv) : Prop := M.1 o 5 = nI P.n ∧ M.1 o 6 = nI P.T ∧ M.1 o 7 = nI (pz P.ti P.n) ∧ M.1 o 8 = nI (pz P.ag P.n) ∧ (∀ t, t < P.T → M.1 (o + 1) t = nI (pz (P.od t) P.n)) ∧ (∀ t, t < P.T → M.1 (o + 2) t = nI (P.am t)) ∧ (∀ k, k < P.n → M.1 (o + 3) k = nI (P.we k)) ∧ (∀ c p, c < 7 → p < 7 → M.1 (o + 4 + 1 + c) p = nI (P.pl c p)) ∧ ∀ a b, a < 7 → b < 7 → M.1 (o + 12 + 1 + a) b = nI (P.ah a b)
def RM (M : om_M) (P : pv) : Prop := M.1 71 1 = nI P.n ∧ M.1 71 2 = nI P.T ∧ (∀ t k, t < P.T → k < P.n → M.1 (71 + 1) (7 * t + k) = nI (P.od t k)) ∧ (∀ t, t < P.T → M.1 (71 + 2) t = nI (P.am t)) ∧ (∀ k, k < P.n → M.1 (71 + 3) k = nI (P.ti k)) ∧ (∀ k, k < P.n → M.1 (71 + 4) k = nI (P.ag k)) ∧ ∀ k, k < P.n → M.1 (71 + 5) k = nI (P.we k)
def IA (M : om_M) : Prop := M.1 0 3 = M.1 71 22 ∧ M.1 0 4 = M.1 71 23 ∧ M.1 39 0 = 0 ∧ ∀ c, c < 7 → M.1 (41 + c) 0 = 0
def II (M : om_M) : Prop := (∃ P : pv, good 20 100000 P ∧ RP 1 M P ∧ RM M P) ∧ IA M
/-- the model's field 0, what was thrown, and the law's out are no part of I -/
theorem II.kept {M M' : om_M} (h : II M) (h1 : ∀ o, o ≠ 71 → M'.1 o = M.1 o) (h2 : ∀ k, k ≠ 0 → k < 24 → M'.1 71 k = M.1 71 k) : II M' := by
  obtain ⟨⟨P, hg, ⟨r1, r2, r3, r4, r5, r6, r7, r8, r9⟩, ⟨q1, q2, q3, q4, q5, q6, q7⟩⟩, a1, a2, a3, a4⟩ := h
  refine ⟨⟨P, hg, ⟨?_, ?_, ?_, ?_, ?_, ?_, ?_, ?_, ?_⟩, ⟨?_, ?_, ?_, ?_, ?_, ?_, ?_⟩⟩, ?_, ?_, ?_, ?_⟩
  · rw [h1 1 (by decide)]; exact r1
  · rw [h1 1 (by decide)]; exact r2
  · rw [h1 1 (by decide)]; exact r3
  · rw [h1 1 (by decide)]; exact r4
  · intro t ht; rw [h1 _ (by decide)]; exact r5 t ht
  · intro t ht; rw [h1 _ (by decide)]; exact r6 t ht
  · intro t ht; rw [h1 _ (by decide)]; exact r7 t ht
  · intro c p hc hp; rw [h1 _ (by omega)]; exact r8 c p hc hp
  · intro c p hc hp; rw [h1 _ (by omega)]; exact r9 c p hc hp
  · rw [h2 1 (by decide) (by decide)]; exact q1
  · rw [h2 2 (by decide) (by decide)]; exact q2
  · intro t k ht hk; rw [h1 _ (by decide)]; exact q3 t k ht hk
  · intro t ht; rw [h1 _ (by decide)]; exact q4 t ht
  · intro t ht; rw [h1 _ (by decide)]; exact q5 t ht
  · intro t ht; rw [h1 _ (by decide)]; exact q6 t ht
  · intro t ht; rw [h1 _ (by decide)]; exact q7 t ht
  · rw [h1 0 (by decide), h2 22 (by decide) (by decide)]; exact a1
  · rw [h1 0 (by decide), h2 23 (by decide) (by decide)]; exact a2
  · rw [h1 39 (by decide)]; exact a3
  · intro c hc; rw [h1 _ (by omega)]; exact a4 c hc
theorem II.thrown {M : om_M} {v : Int32} (h : II M) : II (om_up M 71 0 v) := h.kept (fun o ho => by
  show (if o = 71 then _ else _) = _
  rw [if_neg ho]) (fun k hk _ => pu_up2 hk)
theorem iv_17 {F : Nat} (M : om_M) (a1 a2 a3 : Int32) (h : II M) : wl_17 F 0 71 89 a1 a2 a3 M II := by
  refine ⟨fun _ => h.thrown, fun e => e ?_⟩
  rw [pu_up2 (by decide)]
  exact h.2.1
theorem iv_19 {F : Nat} (M : om_M) (a1 a2 a3 : Int32) (h : II M) : wl_19 F 0 71 89 a1 a2 a3 M II := by
  refine ⟨fun _ => h.thrown, fun e => e ?_⟩
  rw [pu_up2 (by decide)]
  exact h.2.2.1
