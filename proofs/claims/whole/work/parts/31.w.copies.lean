/-! copies of a poll, and a poll without one of its candidates -/
def pv.pre (P : pv) (i : Nat) : pv := (P.n, i, P.od, P.am, P.ti, P.ag, P.we)
theorem uf_id {α : Type} (g : Nat → α) (t : Nat) : uf g t (g t) = g := by
  funext s
  by_cases e : s = t
  · subst e; exact uf_s
  · exact uf_n e
theorem pre_app (P : pv) (i : Nat) : (P.pre i).app (P.od i) (P.am i) = P.pre (i + 1) := by
  show (P.n, i + 1, uf P.od i (P.od i), uf P.am i (P.am i), P.ti, P.ag, P.we) = (P.n, i + 1, P.od, P.am, P.ti, P.ag, P.we)
  rw [uf_id, uf_id]
theorem rep_id (P : pv) (t : Nat) : P.rep t (P.od t) (P.am t) = P := by
  show (P.n, P.T, uf P.od t (P.od t), uf P.am t (P.am t), P.ti, P.ag, P.we) = P
  rw [uf_id, uf_id]
  rfl
theorem rep_rep (P : pv) (t : Nat) (f g : Nat → Nat) (v w : Nat) : (P.rep t f v).rep t g w = P.rep t g w := by
  show (P.n, P.T, uf (uf P.od t f) t g, uf (uf P.am t v) t w, P.ti, P.ag, P.we) = (P.n, P.T, uf P.od t g, uf P.am t w, P.ti, P.ag, P.we)
  have e1 : uf (uf P.od t f) t g = uf P.od t g := by
    funext s
    by_cases e : s = t
    · subst e; rw [uf_s, uf_s]
    · rw [uf_n e, uf_n e, uf_n e]
  have e2 : uf (uf P.am t v) t w = uf P.am t w := by
    funext s
    by_cases e : s = t
    · subst e; rw [uf_s, uf_s]
    · rw [uf_n e, uf_n e, uf_n e]
  rw [e1, e2]
theorem cpy_k {M : om_M} {src dst n k : Nat} (hn : n ≤ 7) (hk : k < n) : (ow_cpy M src 0 dst 0 (nI n)).1 dst k = M.1 src k := by
  show (if dst = dst then va_cpy (M.1 src) (M.1 dst) (0 : Int32).toNatClampNeg (0 : Int32).toNatClampNeg (nI n).toNatClampNeg else M.1 dst) k = _
  rw [if_pos rfl, nI_clamp (n := n) (by omega), show (0 : Int32).toNatClampNeg = 0 from rfl, pk_cpy_in (by omega) (by omega), Nat.zero_add, Nat.sub_zero]
theorem cpy_o {M : om_M} {src dst q : Nat} {n : Int32} (h : q ≠ dst) : (ow_cpy M src 0 dst 0 n).1 q = M.1 q := if_neg h
theorem cpok {n : Nat} (hn : n ≤ 7) : ow_cpok 0 0 (nI n) 7 7 := ⟨by decide, by decide, nI_pos (by omega), by rw [nI_clamp (n := n) (by omega)]; show 0 + n ≤ 7; omega, by rw [nI_clamp (n := n) (by omega)]; show 0 + n ≤ 7; omega⟩
theorem sp_copy {F : Nat} {P : pv} {M : om_M} {Q : om_M → Prop} (hP : RP 1 M P) (hn : P.n ≤ 7) (hT : P.T ≤ 20) (ho : ∀ t, t < P.T → ∀ k, k < P.n → P.od t k < P.n) (hF : 100 ≤ F) (h : ∀ M', pf 49 M M' → RP 49 M' P → Q M') : wp_P_copy F 49 1 M Q := by
  obtain ⟨r1, r2, r3, r4, r5, r6, r7, r8, r9⟩ := id hP
  unfold wp_P_copy
  have e1 : (om_up M 49 5 (M.1 1 5)).1 1 7 = nI (pz P.ti P.n) := by rw [om_up_n _ _ (by decide)]; exact r3
  have e2 : ∀ v : Int32, (om_up (om_up M 49 5 (M.1 1 5)) 49 7 v).1 1 8 = nI (pz P.ag P.n) := fun v => by rw [om_up_n _ _ (by decide), om_up_n _ _ (by decide)]; exact r4
  rw [e1, e2, r1]
  have e3 : (om_up (om_up (om_up M 49 5 (nI P.n)) 49 7 (nI (pz P.ti P.n))) 49 8 (nI (pz P.ag P.n))).1 49 5 = nI P.n := by rw [pu_up2 (by decide), pu_up2 (by decide), pu_up1]
  rw [e3]
  refine ⟨cpok hn, sp_empty (by omega) (fun M1 j1 j2 j3 j4 j5 j6 => ?_)⟩
  have pf1 : pf 49 M M1 := by
    refine pf.trans ?_ j1
    refine ⟨fun q hq => ?_, rfl⟩
    rw [cpy_o (by omega), om_up_n _ _ (by omega), om_up_n _ _ (by omega), om_up_n _ _ (by omega)]
  have hR : RP 49 M1 (P.pre 0) := by
    refine ⟨?_, j3, ?_, ?_, fun t ht => absurd ht (Nat.not_lt_zero _), fun t ht => absurd ht (Nat.not_lt_zero _), fun k (hk : k < P.n) => ?_, j5, j6⟩
    · rw [j2 5 (by decide), cpy_o (by decide)]; exact e3
    · rw [j2 7 (by decide), cpy_o (by decide), pu_up2 (by decide), pu_up1]; rfl
    · rw [j2 8 (by decide), cpy_o (by decide), pu_up1]; rfl
    · rw [j4 3 (by decide) (by decide)]
      rw [cpy_k hn hk, om_up_n _ _ (by decide), om_up_n _ _ (by decide), om_up_n _ _ (by decide)]
      exact r7 k hk
  refine pu_loop P.T (fun i z => z.2 = nI i ∧ pf 49 M z.1 ∧ RP 49 z.1 (P.pre i)) (fun i z K hi hJ hK => ?_) (i := 0) (by omega) (by omega) ⟨rfl, pf1, hR⟩
  obtain ⟨M2, y⟩ := z
  obtain ⟨rfl, k1, k2⟩ := hJ
  have hP2 : RP 1 M2 P := hP.congr (fun q _ _ => k1.1 q (by omega))
  refine pk_le P.T i (fun hle => ?_) (fun hlt => ⟨pk_in i 21 (by omega), ?_⟩) hP2.2.1
  · have e : i = P.T := by omega
    subst e
    exact h M2 k1 k2
  · rw [nI_clamp (n := i) (by omega), show (M2, nI i).1.1 (1 + 1) i = _ from hP2.2.2.2.2.1 i hlt, show (M2, nI i).1.1 (1 + 2) i = _ from hP2.2.2.2.2.2.1 i hlt]
    refine sp_append (P := P.pre i) k2 hn (ho i hlt) (by show i < 21; omega) (by omega) (fun M3 l1 l2 => hK hlt _ ⟨by rw [nI_1], k1.trans l1, ?_⟩)
    rw [← pre_app]; exact l2
/-- without c: those above it take one number less -/
def dn (c x : Nat) : Nat := if c < x then x - 1 else x
def ixp (n : Nat) (f : Nat → Nat) (c : Nat) : Nat := su (fun k => if f k = c then k else 0) n
theorem ixp_eq {n : Nat} {f : Nat → Nat} (h : isO n f) {k : Nat} (hk : k < n) : ixp n f (f k) = k := by
  unfold ixp
  rw [su_one (t := k) hk (fun s hs hne => if_neg (fun q => hne (h.2 s k hs hk q))), if_pos rfl]
theorem ixp_lt {n : Nat} {f : Nat → Nat} (h : isO n f) {c : Nat} (hc : c < n) : ixp n f c < n ∧ f (ixp n f c) = c := by
  obtain ⟨k, hk, e⟩ := h.onto hc
  have := ixp_eq h hk
  rw [e] at this
  rw [this]
  exact ⟨hk, e⟩
def wof (n c : Nat) (f : Nat → Nat) (k : Nat) : Nat := dn c (f (if k < ixp n f c then k else k + 1))
def pv.wo (P : pv) (c : Nat) : pv := (P.n - 1, P.T, fun t => wof P.n c (P.od t), P.am, wof P.n c P.ti, wof P.n c P.ag, P.we)
theorem dn_lt {n c x : Nat} (hx : x < n) (hne : x ≠ c) (hc : c < n) : dn c x < n - 1 := by
  unfold dn
  split <;> omega
theorem dn_inj {c x y : Nat} (hx : x ≠ c) (hy : y ≠ c) (e : dn c x = dn c y) : x = y := by
  unfold dn at e
  split at e <;> split at e <;> omega
theorem wof_is {n c : Nat} {f : Nat → Nat} (h : isO n f) (hc : c < n) : isO (n - 1) (wof n c f) := by
  obtain ⟨l1, e1⟩ := ixp_lt h hc
  have nb : ∀ k, k < n - 1 → (if k < ixp n f c then k else k + 1) < n ∧ f (if k < ixp n f c then k else k + 1) ≠ c := fun k hk => by
    have hlt : (if k < ixp n f c then k else k + 1) < n := by split <;> omega
    refine ⟨hlt, fun e => ?_⟩
    have := h.2 _ _ hlt l1 (e.trans e1.symm)
    split at this <;> omega
  refine ⟨fun k hk => ?_, fun j k hj hk e => ?_⟩
  · obtain ⟨q1, q2⟩ := nb k hk
    exact dn_lt (h.1 _ q1) q2 hc
  · obtain ⟨q1, q2⟩ := nb j hj
    obtain ⟨q3, q4⟩ := nb k hk
    have b1 := h.1 _ q1
    have b2 := h.1 _ q3
    have e2 : f (if j < ixp n f c then j else j + 1) = f (if k < ixp n f c then k else k + 1) := dn_inj q2 q4 e
    have := h.2 _ _ q1 q3 e2
    split at this <;> split at this <;> omega
theorem wo_gd {P : pv} (hg : gd P) {c : Nat} (hc : c < P.n) (h2 : 2 < P.n) : gd (P.wo c) := by
  obtain ⟨c1, c2, c3, c4, c5, c6, c7, c8⟩ := hg
  exact ⟨by show 2 ≤ P.n - 1; omega, by show P.n - 1 ≤ 7; omega, c3, c4, fun t ht => wof_is (c5 t ht) hc, wof_is c6 hc, wof_is c7 hc, fun k hk => c8 k (by have : k < P.n - 1 := hk; omega)⟩
theorem nW {x c : Nat} {M : om_M} {F : Nat} {Q : Int32 → om_M → Prop} (hx : x < 100) (hc : c < 100) (h : Q (nI (dn c x)) M) : wp_O_numberWithout F (nI x) (nI c) M Q := by
  refine pk_le x c (fun q => ?_) (fun q => ?_)
  · rw [show dn c x = x from if_neg (by omega)] at h; exact h
  · rw [show dn c x = x - 1 from if_pos q] at h
    rw [show nI x - 1 = nI (x - 1) from pk_sub (a := x) (b := 1) (by omega)]
    exact h
theorem sp_without {F n c : Nat} {f : Nat → Nat} {M : om_M} {Q : Int32 → om_M → Prop} (hn : n ≤ 7) (hf : isO n f) (hc : c < n) (hF : 10 ≤ F) (h : Q (nI (pz (wof n c f) (n - 1))) M) : wp_O_without F (nI (pz f n)) (nI c) (nI n) M Q := by
  obtain ⟨l1, e1⟩ := ixp_lt hf hc
  have hw := wof_is hf hc
  refine pu_loop n (fun i z => ∃ j, z = (M, nI (pz (wof n c f) j), nI j, nI i) ∧ j = (if i ≤ ixp n f c then i else i - 1)) (fun i z K hi hJ hK => ?_) (i := 0) (by omega) (by omega) ⟨0, rfl, by rw [if_pos (by omega)]⟩
  obtain ⟨j, rfl, hj⟩ := hJ
  refine pk_le n i (fun hle => ?_) (fun hlt => ?_)
  · rw [if_neg (by omega)] at hj
    rw [show j = n - 1 by omega]
    exact h
  · refine sp_at hf.1 hn hlt ?_
    have hfi := hf.1 i hlt
    refine pk_eq (f i) c (fun e => hK hlt _ ⟨j, by rw [nI_1], ?_⟩) (fun ne => ?_)
    · have := hf.2 i (ixp n f c) hlt l1 (e.trans e1.symm)
      rw [if_pos (by omega)] at hj
      rw [if_neg (by omega)]
      omega
    · have hni : i ≠ ixp n f c := fun z => ne (by rw [z]; exact e1)
      have ej : (if j < ixp n f c then j else j + 1) = i := by
        by_cases q : i ≤ ixp n f c
        · rw [if_pos q] at hj
          rw [if_pos (by omega)]; omega
        · rw [if_neg q] at hj
          rw [if_neg (by omega)]; omega
      have ew : wof n c f j = dn c (f i) := by unfold wof; rw [ej]
      have hj1 : j < n - 1 := by
        by_cases q : i ≤ ixp n f c
        · rw [if_pos q] at hj; omega
        · rw [if_neg q] at hj; omega
      refine nW (by omega) (by omega) (hK hlt _ ⟨j + 1, ?_, ?_⟩)
      · rw [← ew, pa_put (fun x hx => by have := hw.1 x (by omega); omega) (by omega), nI_1, nI_1]
      · by_cases q : i ≤ ixp n f c
        · rw [if_pos q] at hj
          rw [if_pos (by omega)]; omega
        · rw [if_neg q] at hj
          rw [if_neg (by omega)]; omega
theorem sp_copyW {F c : Nat} {P : pv} {M : om_M} {Q : om_M → Prop} (hP : RP 1 M P) (hn : P.n ≤ 7) (h2 : 2 ≤ P.n) (hc : c < P.n) (hT : P.T ≤ 20) (ho : ∀ t, t < P.T → isO P.n (P.od t)) (hti : isO P.n P.ti) (hag : isO P.n P.ag) (hF : 100 ≤ F) (h : ∀ M', pf 49 M M' → RP 49 M' (P.wo c) → Q M') : wp_P_copyWithout F 49 1 (nI c) M Q := by
  obtain ⟨r1, r2, r3, r4, r5, r6, r7, r8, r9⟩ := id hP
  have en : M.1 1 5 - 1 = nI (P.n - 1) := by rw [r1]; exact pk_sub (a := P.n) (b := 1) (by omega)
  have u1 : ∀ k, (om_up M 49 5 (nI (P.n - 1))).1 1 k = M.1 1 k := fun k => by rw [om_up_n _ _ (by decide)]
  have u2 : ∀ (w : Int32) k, (om_up (om_up M 49 5 (nI (P.n - 1))) 49 7 w).1 1 k = M.1 1 k := fun w k => by rw [om_up_n _ _ (by decide), u1]
  unfold wp_P_copyWithout
  rw [en, u1, u1, r1, r3]
  refine sp_without hn hti hc (by omega) ?_
  rw [u2, u2, r1, r4]
  refine sp_without hn hag hc (by omega) ?_
  have e3 : (om_up (om_up (om_up M 49 5 (nI (P.n - 1))) 49 7 (nI (pz (wof P.n c P.ti) (P.n - 1)))) 49 8 (nI (pz (wof P.n c P.ag) (P.n - 1)))).1 49 5 = nI (P.n - 1) := by rw [pu_up2 (by decide), pu_up2 (by decide), pu_up1]
  rw [e3]
  refine ⟨cpok (by omega), sp_empty (by omega) (fun M1 j1 j2 j3 j4 j5 j6 => ?_)⟩
  have pf1 : pf 49 M M1 := by
    refine pf.trans ?_ j1
    refine ⟨fun q hq => ?_, rfl⟩
    rw [cpy_o (by omega), om_up_n _ _ (by omega), om_up_n _ _ (by omega), om_up_n _ _ (by omega)]
  have hR : RP 49 M1 ((P.wo c).pre 0) := by
    refine ⟨?_, j3, ?_, ?_, fun t ht => absurd ht (Nat.not_lt_zero _), fun t ht => absurd ht (Nat.not_lt_zero _), fun k (hk : k < P.n - 1) => ?_, j5, j6⟩
    · rw [j2 5 (by decide), cpy_o (by decide)]; exact e3
    · rw [j2 7 (by decide), cpy_o (by decide), pu_up2 (by decide), pu_up1]; rfl
    · rw [j2 8 (by decide), cpy_o (by decide), pu_up1]; rfl
    · rw [j4 3 (by decide) (by decide)]
      rw [cpy_k (by omega) hk, om_up_n _ _ (by decide), om_up_n _ _ (by decide), om_up_n _ _ (by decide)]
      exact r7 k (by omega)
  refine pu_loop P.T (fun i z => z.2 = nI i ∧ pf 49 M z.1 ∧ RP 49 z.1 ((P.wo c).pre i)) (fun i z K hi hJ hK => ?_) (i := 0) (by omega) (by omega) ⟨rfl, pf1, hR⟩
  obtain ⟨M2, y⟩ := z
  obtain ⟨rfl, k1, k2⟩ := hJ
  have hP2 : RP 1 M2 P := hP.congr (fun q _ _ => k1.1 q (by omega))
  refine pk_le P.T i (fun hle => ?_) (fun hlt => ⟨pk_in i 21 (by omega), ?_⟩) hP2.2.1
  · have e : i = P.T := by omega
    subst e
    exact h M2 k1 k2
  · rw [nI_clamp (n := i) (by omega), show (M2, nI i).1.1 (1 + 1) i = _ from hP2.2.2.2.2.1 i hlt, show (M2, nI i).1.1 1 5 = _ from hP2.1]
    refine sp_without hn (ho i hlt) hc (by omega) ?_
    rw [show M2.1 (1 + 2) i = _ from hP2.2.2.2.2.2.1 i hlt]
    refine sp_append (P := (P.wo c).pre i) k2 (by show P.n - 1 ≤ 7; omega) (wof_is (ho i hlt) hc).1 (by show i < 21; omega) (by omega) (fun M3 l1 l2 => hK hlt _ ⟨by rw [nI_1], k1.trans l1, ?_⟩)
    rw [← pre_app]; exact l2
/-- raised by one place -/
def rs (f : Nat → Nat) (p : Nat) : Nat → Nat := if p = 0 then f else uf (uf f p (f (p - 1))) (p - 1) (f p)
theorem rs_is {n p : Nat} {f : Nat → Nat} (h : isO n f) (hp : p < n) : isO n (rs f p) := by
  unfold rs
  split
  · exact h
  · have key : ∀ k, k < n → ∃ k', k' < n ∧ uf (uf f p (f (p - 1))) (p - 1) (f p) k = f k' ∧ (k = p - 1 → k' = p) ∧ (k = p → k' = p - 1) ∧ (k ≠ p → k ≠ p - 1 → k' = k) := fun k hk => by
      by_cases e1 : k = p - 1
      · exact ⟨p, hp, by rw [e1, uf_s], fun _ => rfl, fun z => by omega, fun _ z => absurd e1 z⟩
      · by_cases e2 : k = p
        · exact ⟨p - 1, by omega, by rw [uf_n e1, e2, uf_s], fun z => absurd z e1, fun _ => rfl, fun z => absurd e2 z⟩
        · exact ⟨k, hk, by rw [uf_n e1, uf_n e2], fun z => absurd z e1, fun z => absurd z e2, fun _ _ => rfl⟩
    refine ⟨fun k hk => ?_, fun j k hj hk e => ?_⟩
    · obtain ⟨k', h1, h2, -⟩ := key k hk
      rw [h2]; exact h.1 k' h1
    · obtain ⟨j', a1, a2, a3, a4, a5⟩ := key j hj
      obtain ⟨k', b1, b2, b3, b4, b5⟩ := key k hk
      rw [a2, b2] at e
      have := h.2 j' k' a1 b1 e
      omega
theorem pz_congr {f g : Nat → Nat} : ∀ {n : Nat}, (∀ k, k < n → f k = g k) → pz f n = pz g n
  | 0, _ => rfl
  | n + 1, h => by
    show pz f n + f n * 8 ^ n = pz g n + g n * 8 ^ n
    rw [pz_congr (fun k hk => h k (by omega)), h n (by omega)]
theorem x8 (a b k : Nat) : (a ^^^ b) / 8 ^ k % 8 = (a / 8 ^ k % 8) ^^^ (b / 8 ^ k % 8) := by
  rw [← pa_pw, ← Nat.shiftRight_eq_div_pow, ← Nat.shiftRight_eq_div_pow, ← Nat.shiftRight_eq_div_pow, Nat.shiftRight_xor_distrib]
  exact Nat.xor_mod_two_pow (n := 3)
theorem d8 {y p k : Nat} (hy : y < 8) : y * 8 ^ p / 8 ^ k % 8 = if k = p then y else 0 := by
  rcases Nat.lt_trichotomy k p with h | h | h
  · rw [if_neg (by omega)]
    obtain ⟨d, rfl⟩ : ∃ d, p = k + (d + 1) := ⟨p - k - 1, by omega⟩
    rw [Nat.pow_add, Nat.mul_comm (8 ^ k), ← Nat.mul_assoc, Nat.mul_div_cancel _ (Nat.pow_pos (by decide)), Nat.pow_succ, ← Nat.mul_assoc, Nat.mul_mod_left]
  · subst h
    rw [if_pos rfl, Nat.mul_div_cancel _ (Nat.pow_pos (by decide)), Nat.mod_eq_of_lt hy]
  · rw [if_neg (by omega)]
    obtain ⟨d, rfl⟩ : ∃ d, k = p + (d + 1) := ⟨k - p - 1, by omega⟩
    rw [Nat.pow_add, Nat.mul_comm (8 ^ p), Nat.mul_div_mul_right _ _ (Nat.pow_pos (by decide))]
    have : 8 ≤ 8 ^ (d + 1) := by
      rw [Nat.pow_succ]
      have := Nat.pow_pos (n := d) (show 0 < 8 by decide)
      omega
    rw [Nat.div_eq_of_lt (by omega)]
theorem pz_x {f : Nat → Nat} {n p y : Nat} (hf : ∀ k, k < n → f k < 8) (hp : p < n) (hy : y < 8) : pz f n ^^^ (y * 8 ^ p) = pz (uf f p (f p ^^^ y)) n := by
  have hlt : pz f n ^^^ (y * 8 ^ p) < 8 ^ n := by
    have h1 := pz_lt hf
    have h2 : y * 8 ^ p < 8 ^ n := by
      have h3 : 8 ^ (p + 1) ≤ 8 ^ n := Nat.pow_le_pow_right (by decide) hp
      rw [Nat.pow_succ] at h3
      have h4 : y * 8 ^ p ≤ 7 * 8 ^ p := Nat.mul_le_mul_right _ (by omega)
      have := Nat.pow_pos (n := p) (show 0 < 8 by decide)
      omega
    rw [← pa_pw n] at h1 h2 ⊢
    exact Nat.xor_lt_two_pow h1 h2
  have e := pz_dig (pz f n ^^^ (y * 8 ^ p)) n
  rw [Nat.mod_eq_of_lt hlt] at e
  rw [← e]
  refine pz_congr (fun k hk => ?_)
  rw [x8, pz_at hf hk, d8 hy]
  by_cases z : k = p
  · subst z; rw [if_pos rfl, uf_s]
  · rw [if_neg z, uf_n z, Nat.xor_zero]
theorem sp_placeOf {F n c : Nat} {f : Nat → Nat} {M : om_M} {Q : Int32 → om_M → Prop} (hn : n ≤ 7) (hf : isO n f) (hc : c < n) (hF : 10 ≤ F) (h : ∀ k, k < n → f k = c → Q (nI k) M) : wp_O_placeOf F (nI (pz f n)) (nI c) (nI n) M Q := by
  obtain ⟨k0, hk0, e0⟩ := hf.onto hc
  refine pu_loop k0 (fun i z => z = (M, nI i)) (fun i z K hi hJ hK => ?_) (i := 0) (by omega) (by omega) rfl
  subst hJ
  refine pk_le n i (fun q => absurd q (by omega)) (fun hlt => sp_at hf.1 hn hlt ?_)
  have := hf.1 i hlt
  refine pk_eq (f i) c (fun e => h i hlt e) (fun ne => hK ?_ _ (by rw [nI_1]))
  rcases Nat.lt_or_ge i k0 with g | g
  · exact g
  · exact absurd (by rw [show i = k0 by omega]; exact e0) ne
theorem sp_raised {F n c : Nat} {f : Nat → Nat} {M : om_M} {Q : Int32 → om_M → Prop} (hn : n ≤ 7) (hf : isO n f) (hc : c < n) (hF : 10 ≤ F) (h : ∀ p, p < n → f p = c → Q (nI (pz (rs f p) n)) M) : wp_O_raised F (nI (pz f n)) (nI c) (nI n) M Q := by
  have h8 : ∀ k, k < n → f k < 8 := fun k hk => by have := hf.1 k hk; omega
  refine sp_placeOf hn hf hc hF (fun p hp ep => pk_eq p 0 (fun e => ?_) (fun ne => pk_eq p n (fun e => absurd e (by omega)) (fun _ => sp_at hf.1 hn hp ?_)))
  · have := h p hp ep
    rw [show rs f p = f from if_pos e] at this
    exact this
  · rw [show nI p - 1 = nI (p - 1) from pk_sub (a := p) (b := 1) (by omega)]
    refine sp_at hf.1 hn (by omega) ?_
    have b1 := hf.1 p hp
    have b2 := hf.1 (p - 1) (by omega)
    have hx : f p ^^^ f (p - 1) < 8 := Nat.xor_lt_two_pow (n := 3) (by omega) (by omega)
    rw [mb_xor, pa_shl hx (by omega), pa_shl hx (by omega), mb_xor, mb_xor, pz_x h8 hp hx, pz_x (fun k hk => ?_) (by omega) hx]
    · have := h p hp ep
      rw [show rs f p = uf (uf f p (f (p - 1))) (p - 1) (f p) from if_neg ne] at this
      have x1 : f p ^^^ (f p ^^^ f (p - 1)) = f (p - 1) := by rw [← Nat.xor_assoc, Nat.xor_self, Nat.zero_xor]
      have x2 : f (p - 1) ^^^ (f p ^^^ f (p - 1)) = f p := by rw [Nat.xor_comm (f p), ← Nat.xor_assoc, Nat.xor_self, Nat.zero_xor]
      rw [x1, uf_n (show p - 1 ≠ p by omega), x2]
      exact this
    · by_cases z : k = p
      · subst z; rw [uf_s]; exact Nat.xor_lt_two_pow (n := 3) (by omega) hx
      · rw [uf_n z]; exact h8 k hk
