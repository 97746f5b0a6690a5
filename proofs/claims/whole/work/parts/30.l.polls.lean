/-! polls that differ in one type -/
def uf {α : Type} (g : Nat → α) (t : Nat) (v : α) : Nat → α := fun s => if s = t then v else g s
def sf {α : Type} (g : Nat → α) (t : Nat) : Nat → α := fun s => if s < t then g s else g (s + 1)
theorem uf_s {α : Type} {g : Nat → α} {t : Nat} {v : α} : uf g t v t = v := if_pos rfl
theorem uf_n {α : Type} {g : Nat → α} {t s : Nat} {v : α} (h : s ≠ t) : uf g t v s = g s := if_neg h
def pv.app (P : pv) (f : Nat → Nat) (v : Nat) : pv := (P.n, P.T + 1, uf P.od P.T f, uf P.am P.T v, P.ti, P.ag, P.we)
def pv.rep (P : pv) (t : Nat) (f : Nat → Nat) (v : Nat) : pv := (P.n, P.T, uf P.od t f, uf P.am t v, P.ti, P.ag, P.we)
def pv.rem (P : pv) (t : Nat) : pv := (P.n, P.T - 1, sf P.od t, sf P.am t, P.ti, P.ag, P.we)
def p1 (n : Nat) (c p : Nat) (f : Nat → Nat) : Nat := if p < n ∧ f p = c then 1 else 0
def pv.S (P : pv) (G : (Nat → Nat) → Nat) : Nat := su (fun t => P.am t * G (P.od t)) P.T
theorem pl_S (P : pv) (c p : Nat) : P.pl c p = P.S (p1 P.n c p) := su_congr (fun t _ => by
  show (if p < P.n ∧ P.od t p = c then P.am t else 0) = P.am t * (if p < P.n ∧ P.od t p = c then 1 else 0)
  split <;> simp)
theorem ah_S (P : pv) (a b : Nat) : P.ah a b = P.S (fun f => ab 1 P.n f a b) := su_congr (fun t _ => ab_mul _ _ _ _ _)
theorem S_app (P : pv) (f : Nat → Nat) (v : Nat) (G : (Nat → Nat) → Nat) : (P.app f v).S G = P.S G + v * G f := by
  show su (fun t => uf P.am P.T v t * G (uf P.od P.T f t)) P.T + uf P.am P.T v P.T * G (uf P.od P.T f P.T) = _
  rw [uf_s, uf_s]
  refine congrArg (· + v * G f) (su_congr (fun t ht => ?_))
  rw [uf_n (by omega), uf_n (by omega)]
theorem su_uf {g : Nat → Nat} {t v : Nat} : ∀ {n : Nat}, t < n → su (uf g t v) n + g t = su g n + v
  | 0, h => absurd h (by omega)
  | n + 1, h => by
    show su (uf g t v) n + uf g t v n + g t = su g n + g n + v
    by_cases e : t = n
    · subst e
      rw [uf_s, su_congr (g := uf g t v) (h := g) (fun s hs => uf_n (by omega))]
      omega
    · have := su_uf (g := g) (v := v) (n := n) (t := t) (by omega)
      rw [uf_n (by omega)]
      omega
theorem su_sf {g : Nat → Nat} {t : Nat} : ∀ {n : Nat}, t < n → su (sf g t) (n - 1) + g t = su g n
  | 0, h => absurd h (by omega)
  | n + 1, h => by
    show su (sf g t) n + g t = su g n + g n
    by_cases e : t = n
    · subst e
      rw [su_congr (g := sf g t) (h := g) (fun s hs => if_pos (by omega))]
    · have ih := su_sf (g := g) (n := n) (t := t) (by omega)
      obtain ⟨m, rfl⟩ : ∃ m, n = m + 1 := ⟨n - 1, by omega⟩
      show su (sf g t) m + sf g t m + g t = _
      rw [show sf g t m = g (m + 1) from if_neg (by omega)]
      have ih : su (sf g t) m + g t = su g (m + 1) := ih
      omega
theorem S_rep (P : pv) {t : Nat} (f : Nat → Nat) (v : Nat) (G : (Nat → Nat) → Nat) (ht : t < P.T) : (P.rep t f v).S G + P.am t * G (P.od t) = P.S G + v * G f := by
  have h := su_uf (g := fun t => P.am t * G (P.od t)) (v := v * G f) (n := P.T) ht
  rw [← show su (fun s => uf P.am t v s * G (uf P.od t f s)) P.T = su (uf (fun t => P.am t * G (P.od t)) t (v * G f)) P.T from su_congr (fun s _ => by
    by_cases e : s = t
    · subst e; rw [uf_s, uf_s, uf_s]
    · rw [uf_n e, uf_n e, uf_n e])] at h
  exact h
theorem S_rem (P : pv) {t : Nat} (G : (Nat → Nat) → Nat) (ht : t < P.T) : (P.rem t).S G + P.am t * G (P.od t) = P.S G := by
  have h := su_sf (g := fun t => P.am t * G (P.od t)) (n := P.T) ht
  rw [← show su (fun s => sf P.am t s * G (sf P.od t s)) (P.T - 1) = su (sf (fun t => P.am t * G (P.od t)) t) (P.T - 1) from su_congr (fun s _ => by
    unfold sf
    split <;> rfl)] at h
  exact h
/-- only the poll at o differs -/
def pf (o : Nat) (M M' : om_M) : Prop := (∀ o', (o' < o ∨ o + 20 ≤ o') → M'.1 o' = M.1 o') ∧ M'.2 = M.2
theorem pf.refl {o : Nat} {M : om_M} : pf o M M := ⟨fun _ _ => rfl, rfl⟩
theorem pf.trans {o : Nat} {M M' M'' : om_M} (h : pf o M M') (g : pf o M' M'') : pf o M M'' := ⟨fun o' ho => (g.1 o' ho).trans (h.1 o' ho), g.2.trans h.2⟩
theorem pf.up {o q k : Nat} {v : Int32} {M M' : om_M} (h : pf o M M') (hq : o ≤ q ∧ q < o + 20) : pf o M (om_up M' q k v) := ⟨fun o' ho => by rw [om_up_n _ _ (by omega)]; exact h.1 o' ho, h.2⟩
theorem tp.pf {o : Nat} {x : Int32} {M M' : om_M} {g h : Nat → Nat → Nat} (t : tp o x M M' g h) : pf o M M' := ⟨fun o' ho => t.1 o' (by omega), t.2.1⟩
theorem sp_append {F o v : Nat} {P : pv} {f : Nat → Nat} {M : om_M} {Q : Int32 → om_M → Prop} (hP : RP o M P) (hn : P.n ≤ 7) (hf : ∀ k, k < P.n → f k < P.n) (hT : P.T < 21) (hF : 10 ≤ F) (h : ∀ M', pf o M M' → RP o M' (P.app f v) → Q (nI P.T) M') : wp_P_append F o (nI (pz f P.n)) (nI v) M Q := by
  obtain ⟨r1, r2, r3, r4, r5, r6, r7, r8, r9⟩ := hP
  unfold wp_P_append
  rw [r2]
  refine pk_le 21 P.T (fun q => absurd q (by omega)) (fun _ => ⟨pk_in P.T 21 hT, ?_⟩)
  rw [pk_cl P.T]
  refine sp_tally hn hf (by rw [pu_up2 (by decide), om_up_n _ _ (by omega), om_up_n _ _ (by omega)]; exact r1) hF (fun M' ht => h M' ?_ ?_)
  · exact (((pf.refl.up (by omega)).up (by omega)).up (by omega)).trans ht.pf
  · refine ⟨?_, ?_, ?_, ?_, ?_, ?_, ?_, ?_, ?_⟩
    · rw [ht.1 _ (by omega), pu_up2 (by decide), om_up_n _ _ (by omega), om_up_n _ _ (by omega)]; exact r1
    · rw [ht.1 _ (by omega), pu_up1, om_up_n _ _ (by omega), om_up_n _ _ (by omega), r2]; exact (nI_succ _).symm
    · rw [ht.1 _ (by omega), pu_up2 (by decide), om_up_n _ _ (by omega), om_up_n _ _ (by omega)]; exact r3
    · rw [ht.1 _ (by omega), pu_up2 (by decide), om_up_n _ _ (by omega), om_up_n _ _ (by omega)]; exact r4
    · intro t (hlt : t < P.T + 1)
      show M'.1 (o + 1) t = nI (pz (uf P.od P.T f t) P.n)
      rw [ht.1 _ (by omega), om_up_n _ _ (by omega), om_up_n _ _ (by omega)]
      by_cases e : t = P.T
      · subst e; rw [pu_up1, uf_s]
      · rw [pu_up2 e, uf_n e]; exact r5 t (by omega)
    · intro t (hlt : t < P.T + 1)
      show M'.1 (o + 2) t = nI (uf P.am P.T v t)
      rw [ht.1 _ (by omega), om_up_n _ _ (by omega)]
      by_cases e : t = P.T
      · subst e; rw [pu_up1, uf_s]
      · rw [pu_up2 e, uf_n e, om_up_n _ _ (by omega)]; exact r6 t (by omega)
    · intro k hk
      rw [ht.1 _ (by omega), om_up_n _ _ (by omega), om_up_n _ _ (by omega), om_up_n _ _ (by omega)]; exact r7 k hk
    · intro c p hc hp
      rw [ht.2.2.1 c p hc hp, om_up_n _ _ (by omega), om_up_n _ _ (by omega), om_up_n _ _ (by omega), r8 c p hc hp, pl_S, pl_S, S_app, ← nI_add, ← pk_mul]
      rfl
    · intro a b ha hb
      rw [ht.2.2.2 a b ha hb, om_up_n _ _ (by omega), om_up_n _ _ (by omega), om_up_n _ _ (by omega), r9 a b ha hb, ah_S, ah_S, S_app, ← nI_add, ← pk_mul]
      rfl
theorem i_out {A A' u k : Nat} (h : A' + u * k = A) : nI A + -(nI u) * nI k = nI A' := by
  subst h
  rw [← nI_add, ← pk_mul, Int32.neg_mul, Int32.add_assoc, Int32.add_right_neg, Int32.add_zero]
theorem i_mv {A A' u k v j : Nat} (h : A' + u * k = A + v * j) : nI A + -(nI u) * nI k + nI v * nI j = nI A' := by
  have e : nI A + nI v * nI j = nI A' + nI u * nI k := by rw [pk_mul, pk_mul, nI_add, nI_add, h]
  rw [Int32.add_assoc, Int32.add_comm (-(nI u) * nI k), ← Int32.add_assoc, e, Int32.neg_mul, Int32.add_assoc, Int32.add_right_neg, Int32.add_zero]
theorem sp_replace {F o v t : Nat} {P : pv} {f : Nat → Nat} {M : om_M} {Q : om_M → Prop} (hP : RP o M P) (hn : P.n ≤ 7) (ho : ∀ k, k < P.n → P.od t k < P.n) (hf : ∀ k, k < P.n → f k < P.n) (ht : t < P.T) (hT : P.T ≤ 21) (hF : 10 ≤ F) (h : ∀ M', pf o M M' → RP o M' (P.rep t f v) → Q M') : wp_P_replace F o (nI t) (nI (pz f P.n)) (nI v) M Q := by
  obtain ⟨r1, r2, r3, r4, r5, r6, r7, r8, r9⟩ := hP
  unfold wp_P_replace
  refine ⟨pk_in t 21 (by omega), ?_⟩
  rw [pk_cl t, r5 t ht, r6 t ht]
  refine sp_tally hn ho r1 hF (fun M1 h1 => ?_)
  refine sp_tally hn hf (by rw [om_up_n _ _ (by omega), om_up_n _ _ (by omega), h1.1 _ (by omega)]; exact r1) hF (fun M' h2 => h M' ?_ ?_)
  · exact ((h1.pf.up (by omega)).up (by omega)).trans h2.pf
  · refine ⟨?_, ?_, ?_, ?_, ?_, ?_, ?_, ?_, ?_⟩
    · rw [h2.1 _ (by omega), om_up_n _ _ (by omega), om_up_n _ _ (by omega), h1.1 _ (by omega)]; exact r1
    · rw [h2.1 _ (by omega), om_up_n _ _ (by omega), om_up_n _ _ (by omega), h1.1 _ (by omega)]; exact r2
    · rw [h2.1 _ (by omega), om_up_n _ _ (by omega), om_up_n _ _ (by omega), h1.1 _ (by omega)]; exact r3
    · rw [h2.1 _ (by omega), om_up_n _ _ (by omega), om_up_n _ _ (by omega), h1.1 _ (by omega)]; exact r4
    · intro s (hs : s < P.T)
      show M'.1 (o + 1) s = nI (pz (uf P.od t f s) P.n)
      rw [h2.1 _ (by omega), om_up_n _ _ (by omega)]
      by_cases e : s = t
      · subst e; rw [pu_up1, uf_s]
      · rw [pu_up2 e, uf_n e, h1.1 _ (by omega)]; exact r5 s hs
    · intro s (hs : s < P.T)
      show M'.1 (o + 2) s = nI (uf P.am t v s)
      rw [h2.1 _ (by omega)]
      by_cases e : s = t
      · subst e; rw [pu_up1, uf_s]
      · rw [pu_up2 e, uf_n e, om_up_n _ _ (by omega), h1.1 _ (by omega)]; exact r6 s hs
    · intro k hk
      rw [h2.1 _ (by omega), om_up_n _ _ (by omega), om_up_n _ _ (by omega), h1.1 _ (by omega)]; exact r7 k hk
    · intro c p hc hp
      rw [h2.2.2.1 c p hc hp, om_up_n _ _ (by omega), om_up_n _ _ (by omega), h1.2.2.1 c p hc hp, r8 c p hc hp, pl_S, pl_S]
      exact i_mv (S_rep P f v (p1 P.n c p) ht)
    · intro a b ha hb
      rw [h2.2.2.2 a b ha hb, om_up_n _ _ (by omega), om_up_n _ _ (by omega), h1.2.2.2 a b ha hb, r9 a b ha hb, ah_S, ah_S]
      exact i_mv (S_rep P f v (fun f => ab 1 P.n f a b) ht)
theorem sp_remove {F o t : Nat} {P : pv} {M : om_M} {Q : om_M → Prop} (hP : RP o M P) (hn : P.n ≤ 7) (ho : ∀ k, k < P.n → P.od t k < P.n) (ht : t < P.T) (hT : P.T ≤ 21) (hF : 100 ≤ F) (h : ∀ M', pf o M M' → RP o M' (P.rem t) → Q M') : wp_P_remove F o (nI t) M Q := by
  obtain ⟨r1, r2, r3, r4, r5, r6, r7, r8, r9⟩ := hP
  unfold wp_P_remove
  refine ⟨pk_in t 21 (by omega), ?_⟩
  rw [pk_cl t, r5 t ht, r6 t ht]
  refine sp_tally hn ho r1 (by omega) (fun M1 h1 => ?_)
  have g2 : M1.1 o 6 - 1 = nI (P.T - 1) := by rw [h1.1 _ (by omega), r2]; exact pk_sub (a := P.T) (b := 1) (by omega)
  refine pu_loop (P.T - 1) (fun i z => t ≤ i ∧ z.2 = nI i ∧ pf o M z.1 ∧ (∀ k, k ≠ 6 → z.1.1 o k = M.1 o k) ∧ z.1.1 o 6 = nI (P.T - 1) ∧ z.1.1 (o + 3) = M.1 (o + 3) ∧ (∀ q, 5 ≤ q → q < 20 → z.1.1 (o + q) = M1.1 (o + q)) ∧ (∀ s, s < P.T → z.1.1 (o + 1) s = M.1 (o + 1) (if s < t then s else if s < i then s + 1 else s)) ∧ ∀ s, s < P.T → z.1.1 (o + 2) s = M.1 (o + 2) (if s < t then s else if s < i then s + 1 else s)) (fun i z K hi hJ hK => ?_) (i := t) (by omega) (by omega) ⟨by omega, rfl, h1.pf.up (by omega), fun k hk => ?_, ?_, ?_, fun q hq hq2 => ?_, fun s hs => ?_, fun s hs => ?_⟩
  · obtain ⟨M2, y⟩ := z
    obtain ⟨hti, rfl, j1, j2, j3, j4, j5, j6, j7⟩ := hJ
    refine pk_le (P.T - 1) i (fun hle => h M2 j1 ?_) (fun hlt => ⟨pk_in (i + 1) 21 (by omega) (nI_1 i), pk_in i 21 (by omega), hK hlt _ ?_⟩) j3
    · have e : i = P.T - 1 := by omega
      subst e
      refine ⟨?_, ?_, ?_, ?_, ?_, ?_, ?_, ?_, ?_⟩
      · exact (j2 5 (by decide)).trans r1
      · exact j3
      · exact (j2 7 (by decide)).trans r3
      · exact (j2 8 (by decide)).trans r4
      · intro s (hs : s < P.T - 1)
        show M2.1 (o + 1) s = nI (pz (sf P.od t s) P.n)
        rw [j6 s (by omega)]
        unfold sf
        split
        · exact r5 s (by omega)
        · exact r5 _ (by omega)
      · intro s (hs : s < P.T - 1)
        show M2.1 (o + 2) s = nI (sf P.am t s)
        rw [j7 s (by omega)]
        unfold sf
        split
        · exact r6 s (by omega)
        · exact r6 _ (by omega)
      · intro k hk
        show M2.1 (o + 3) k = _
        rw [j4]; exact r7 k hk
      · intro c p hc hp
        rw [show o + 4 + 1 + c = o + (5 + c) by omega]
        show M2.1 (o + (5 + c)) p = _
        rw [j5 _ (by omega) (by omega), show o + (5 + c) = o + 4 + 1 + c by omega, h1.2.2.1 c p hc hp, r8 c p hc hp, pl_S, pl_S]
        exact i_out (S_rem P (p1 P.n c p) ht)
      · intro a b ha hb
        rw [show o + 12 + 1 + a = o + (13 + a) by omega]
        show M2.1 (o + (13 + a)) b = _
        rw [j5 _ (by omega) (by omega), show o + (13 + a) = o + 12 + 1 + a by omega, h1.2.2.2 a b ha hb, r9 a b ha hb, ah_S, ah_S]
        exact i_out (S_rem P (fun f => ab 1 P.n f a b) ht)
    · rw [nI_1, pk_cl i, pk_cl (i + 1)]
      refine ⟨by omega, rfl, (j1.up (by omega)).up (by omega), fun k hk => ?_, ?_, ?_, fun q hq hq2 => ?_, fun s hs => ?_, fun s hs => ?_⟩
      · rw [om_up_n _ _ (by omega), om_up_n _ _ (by omega)]; exact j2 k hk
      · rw [om_up_n _ _ (by omega), om_up_n _ _ (by omega)]; exact j3
      · rw [om_up_n _ _ (by omega), om_up_n _ _ (by omega)]; exact j4
      · rw [om_up_n _ _ (by omega), om_up_n _ _ (by omega)]; exact j5 q hq hq2
      · rw [om_up_n _ _ (by omega)]
        by_cases e : s = i
        · subst e
          rw [pu_up1, if_neg (by omega), if_pos (by omega)]
          have q := j6 (s + 1) (by omega)
          rw [if_neg (by omega), if_neg (by omega)] at q
          exact q
        · rw [pu_up2 e, show (M2, nI i).1.1 (o + 1) s = _ from j6 s hs]
          by_cases e1 : s < t
          · rw [if_pos e1, if_pos e1]
          · rw [if_neg e1, if_neg e1]
            by_cases e2 : s < i
            · rw [if_pos e2, if_pos (by omega)]
            · rw [if_neg e2, if_neg (by omega)]
      · by_cases e : s = i
        · subst e
          rw [pu_up1, if_neg (by omega), if_pos (by omega), om_up_n _ _ (by omega)]
          have q := j7 (s + 1) (by omega)
          rw [if_neg (by omega), if_neg (by omega)] at q
          exact q
        · rw [pu_up2 e, om_up_n _ _ (by omega), show (M2, nI i).1.1 (o + 2) s = _ from j7 s hs]
          by_cases e1 : s < t
          · rw [if_pos e1, if_pos e1]
          · rw [if_neg e1, if_neg e1]
            by_cases e2 : s < i
            · rw [if_pos e2, if_pos (by omega)]
            · rw [if_neg e2, if_neg (by omega)]
  · show (om_up M1 o 6 _).1 o k = _
    rw [pu_up2 hk, h1.1 _ (by omega)]
  · show (om_up M1 o 6 _).1 o 6 = _
    rw [pu_up1]; exact g2
  · show (om_up M1 o 6 _).1 (o + 3) = _
    rw [om_up_n _ _ (by omega), h1.1 _ (by omega)]
  · show (om_up M1 o 6 _).1 (o + q) = _
    rw [om_up_n _ _ (by omega)]
  · show (om_up M1 o 6 _).1 (o + 1) s = _
    rw [om_up_n _ _ (by omega), h1.1 _ (by omega)]
    by_cases e1 : s < t
    · rw [if_pos e1]
    · rw [if_neg e1, if_neg e1]
  · show (om_up M1 o 6 _).1 (o + 2) s = _
    rw [om_up_n _ _ (by omega), h1.1 _ (by omega)]
    by_cases e1 : s < t
    · rw [if_pos e1]
    · rw [if_neg e1, if_neg e1]
