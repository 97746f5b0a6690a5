/-! property: the class -/
def isW (P : pv) (r x : Nat) : Prop := ∃ k, hd P.n P.ti (Win P r) k ∧ P.ti k = x
theorem isW.uniq {P : pv} {r x y : Nat} (h : isW P r x) (g : isW P r y) : x = y := by
  obtain ⟨j, h1, rfl⟩ := h
  obtain ⟨k, g1, rfl⟩ := g
  rw [h1.uniq g1]
theorem isW.lt {P : pv} (hg : gd P) {r x : Nat} (h : isW P r x) : x < P.n ∧ Win P r x := by
  obtain ⟨k, h1, rfl⟩ := h
  exact ⟨hg.2.2.2.2.2.1.1 k h1.1, h1.2.1⟩
def Fst (N : Nat) (br : Nat → Prop) (x : Int32) : Prop := (x = -1 ∧ ∀ t, t < N → ¬ br t) ∨ ∃ t, t < N ∧ x = nI t ∧ br t ∧ ∀ t', t' < t → ¬ br t'
theorem Fst.uniq {N : Nat} {br : Nat → Prop} {x y : Int32} (h : Fst N br x) (g : Fst N br y) : x = y := by
  rcases h with ⟨h1, h2⟩ | ⟨t, h1, h2, h3, h4⟩
  · rcases g with ⟨g1, g2⟩ | ⟨s, g1, g2, g3, g4⟩
    · rw [h1, g1]
    · exact absurd g3 (h2 s g1)
  · rcases g with ⟨g1, g2⟩ | ⟨s, g1, g2, g3, g4⟩
    · exact absurd h3 (g2 t h1)
    · have : t = s := by
        rcases Nat.lt_trichotomy t s with q | q | q
        · exact absurd h3 (g4 t q)
        · exact q
        · exact absurd g3 (h4 s q)
      rw [h2, g2, this]
/-- what a what-if question of the class may change -/
def cw (M M' : om_M) : Prop := (∀ q, (q ≤ 20 ∨ 71 ≤ q) → M'.1 q = M.1 q) ∧ M'.2 = M.2 ∧ (ta M → ta M')
theorem cw.refl {M : om_M} : cw M M := ⟨fun _ _ => rfl, rfl, id⟩
theorem cw.trans {M M' M'' : om_M} (h : cw M M') (g : cw M' M'') : cw M M'' := ⟨fun q hq => (g.1 q hq).trans (h.1 q hq), g.2.1.trans h.2.1, fun t => g.2.2 (h.2.2 t)⟩
theorem cr.cw {M M' : om_M} (h : cr M M') : cw M M' := ⟨fun q hq => h.1 q (by omega), h.2.1, h.2.2⟩
theorem pf.cw {M M' : om_M} (h : pf 49 M M') : cw M M' := ⟨fun q hq => h.1 q (by omega), h.2, fun t => ⟨by rw [h.1 39 (by omega)]; exact t.1, fun c hc => by rw [h.1 _ (by omega)]; exact t.2 c hc⟩⟩
theorem cw.RP {M M' : om_M} {P : pv} (h : cw M M') (g : RP 1 M P) : RP 1 M' P := g.congr (fun q _ _ => h.1 q (by omega))
def b0 (P : pv) (r c : Nat) : Prop := (∀ b, b < P.n → b ≠ c → P.bt c b) ∧ ¬ ∀ d, d < P.n → (Win P r d ↔ d = c)
def b1 (P : pv) (r c : Nat) : Prop := (∀ b, b < P.n → b ≠ c → P.bt b c) ∧ Win P r c
def b2 (P : pv) (r w t : Nat) : Prop := ¬ isW (P.rep t (rs (P.od t) (ixp P.n (P.od t) w)) (P.am t)) r w
def b3 (P : pv) (r w t : Nat) : Prop := P.od t 0 = w ∧ ¬ isW (P.rep t (P.od t) (P.am t + 1)) r w
def b4 (P : pv) (r w c : Nat) : Prop := 2 < P.n ∧ ¬ Win P r c ∧ ¬ isW (P.wo c) r (dn c w)
theorem sp_bestNot {F r : Nat} {P : pv} {M : om_M} {Q : Int32 → om_M → Prop} (hP : RP 1 M P) (hg : gd P) (ht : ta M) (hr : r < 12) (hF : 1000 ≤ F) (h : ∀ M' x, cw M M' → Fst P.n (b0 P r) x → Q x M') : wp_W_bestNotAlone F 21 1 (nI r) M Q := by
  have hn := hg.2.1
  have hb := p2n hg
  refine pu_loop P.n (fun c z => z = (M, nI c) ∧ ∀ c', c' < c → ¬ ∀ b, b < P.n → b ≠ c' → P.bt c' b) (fun c z K hi hJ hK => ?_) (i := 0) (by omega) (by omega) ⟨rfl, fun c hc => absurd hc (by omega)⟩
  obtain ⟨rfl, hj⟩ := hJ
  refine pk_le P.n c (fun hle => h M _ cw.refl (Or.inl ⟨rfl, fun c' hc' q => hj c' (by omega) q.1⟩)) (fun hc => ?_) hP.1
  refine sp_beatenBy hP hg hc (by omega) (fun x hx => ?_)
  show ((x = (((1 : Int32) <<< ((M.1 1 5) &&& 31)) - 1) - ((1 : Int32) <<< (nI c &&& 31)) → _) ∧ (¬ x = (((1 : Int32) <<< ((M.1 1 5) &&& 31)) - 1) - ((1 : Int32) <<< (nI c &&& 31)) → _))
  rw [hP.1]
  have hbt : (2 ^ P.n - 1).testBit c = true := by
    rw [Nat.testBit_two_pow_sub_one, decide_eq_true_eq]; exact hc
  have t7 := tb7 (2 ^ P.n - 1) (by omega) c (by omega) hbt
  have hoth : iS P.n ((((1 : Int32) <<< (nI P.n &&& 31)) - 1) - ((1 : Int32) <<< (nI c &&& 31))) (fun d => d ≠ c) := by
    have := (iS.every hn).del hn hc
    rw [mb_all (by omega), mb_one (by omega), mb_del, t7.2] at this
    rw [mb_all (by omega), mb_one (by omega), pk_sub t7.1]
    exact this.congr (fun d _ => ⟨fun z => ⟨trivial, z⟩, fun z => z.2⟩)
  have eq : x = (((1 : Int32) <<< (nI P.n &&& 31)) - 1) - ((1 : Int32) <<< (nI c &&& 31)) ↔ ∀ b, b < P.n → b ≠ c → P.bt c b := by
    constructor
    · intro e b hb2 hne
      rw [← e] at hoth
      exact (hx.same hn hoth b hb2).mpr hne
    · intro q
      exact hx.uniq hoth (fun b hb2 => ⟨fun z e => bt_irr (e ▸ z : P.bt c c), fun z => q b hb2 z⟩)
  refine ⟨fun e => ?_, fun ne => hK hc _ ⟨by rw [nI_1], fun c' hc' => ?_⟩⟩
  · have hcond := eq.mp e
    have only : ∀ c', c' < P.n → c' ≠ c → ¬ b0 P r c' := fun c' hc' hne q => bt_asym (hcond c' hc' hne) (q.1 c hc (Ne.symm hne))
    refine sp_cwin hP hg (Or.inl rfl) ht hr hF (fun M' y c1 hy => ?_)
    have one := iS.one hn hc
    refine ⟨fun e2 => h M' _ c1.cw (Or.inl ⟨rfl, fun c' hc' q => ?_⟩), fun ne2 => h M' _ c1.cw (Or.inr ⟨c, hc, rfl, ⟨hcond, fun z => ne2 (hy.uniq one z)⟩, fun c' hc' => only c' (by omega) (by omega)⟩)⟩
    by_cases z : c' = c
    · subst z
      rw [e2] at hy
      exact q.2 (hy.same hn one)
    · exact only c' hc' z q
  · by_cases z : c' = c
    · subst z; exact fun w => ne (eq.mpr w)
    · exact hj c' (by omega)
theorem sp_worst {F r : Nat} {P : pv} {M : om_M} {Q : Int32 → om_M → Prop} (hP : RP 1 M P) (hg : gd P) (ht : ta M) (hr : r < 12) (hF : 1000 ≤ F) (h : ∀ M' x, cw M M' → Fst P.n (b1 P r) x → Q x M') : wp_W_worstAmongWinners F 21 1 (nI r) M Q := by
  have hn := hg.2.1
  show wp_W_worstAmongWinners_8 F 21 1 (nI r) Q M (((1 : Int32) <<< ((M.1 1 5) &&& 31)) - 1) 0
  rw [hP.1]
  refine pu_loop P.n (fun c z => ∃ x, z = (M, x, nI c) ∧ iS P.n x (fun d => ∀ c', c' < c → P.bt c' d ∨ d = c')) (fun c z K hi hJ hK => ?_) (i := 0) (by omega) (by omega) ⟨_, rfl, (iS.every hn).congr (fun d _ => ⟨fun _ => trivial, fun _ c hc => absurd hc (by omega)⟩)⟩
  obtain ⟨x, rfl, hx⟩ := hJ
  refine pk_le P.n c (fun hle => ?_) (fun hc => ?_) hP.1
  · refine sp_cwin hP hg (Or.inl rfl) ht hr hF (fun M' y c1 hy => ?_)
    have hxy : iS P.n (x &&& y) (b1 P r) := (hx.and hy).congr (fun d hd => ⟨fun q => ⟨fun c' hc' => by
      by_cases z : d = c'
      · exact Or.inr z
      · exact Or.inl (q.1 c' (by omega) (Ne.symm z)), q.2⟩, fun q => ⟨fun b hb hne => (q.1 b (by omega)).resolve_right (fun z => hne z.symm), q.2⟩⟩)
    refine sp_firstInTie (c1.RP (Or.inl rfl) hP) hg hxy (by omega) (fun k hk => h M' _ c1.cw (Or.inr ⟨P.ti k, hg.2.2.2.2.2.1.1 k hk.1, rfl, hk.2.1, fun c' hc' q => ?_⟩)) (fun q => h M' _ c1.cw (Or.inl ⟨rfl, q⟩))
    have h1 := hg.2.2.2.2.2.1.1 k hk.1
    exact bt_asym (hk.2.1.1 c' (by omega) (by omega)) (q.1 (P.ti k) h1 (by omega))
  · refine sp_beatenBy hP hg hc (by omega) (fun y hy => hK hc _ ⟨_, by rw [nI_1], (hx.and (hy.ins hn hc)).congr (fun d _ => ⟨fun q => ⟨fun c' hc' => q c' (by omega), q c (by omega)⟩, fun q c' hc' => ?_⟩)⟩)
    by_cases z : c' = c
    · subst z; exact q.2
    · exact q.1 c' (by omega)
theorem rep_gd {P : pv} (hg : gd P) {t v : Nat} {f : Nat → Nat} (hf : isO P.n f) (hv : su (uf P.am t v) P.T ≤ 2000001) : gd (P.rep t f v) := by
  obtain ⟨c1, c2, c3, c4, c5, c6, c7, c8⟩ := hg
  exact ⟨c1, c2, c3, hv, uf_is (fun s hs _ => c5 s hs) hf, c6, c7, c8⟩
theorem am_ok {P : pv} (hg : good 20 100000 P) {t : Nat} (ht : t < P.T) {v : Nat} (hv : v ≤ P.am t + 1) : su (uf P.am t v) P.T ≤ 2000001 := by
  have h1 := su_uf (g := P.am) (v := v) ht
  have h2 := su_max (n := P.T) hg.ga
  have h3 : P.T * 100000 ≤ 20 * 100000 := Nat.mul_le_mul_right _ hg.gT
  omega
theorem sp_raise {F r w : Nat} {P : pv} {M M0 : om_M} {Q : Int32 → om_M → Prop} (hP : RP 1 M P) (hT49 : RP 49 M P) (hg : good 20 100000 P) (hw : isW P r w) (h0 : cw M0 M) (ht0 : ta M0) (hr : r < 12) (hF : 1000 ≤ F) (h : ∀ M' x, cw M0 M' → Fst P.T (b2 P r w) x → Q x M') : wp_W_typeThatHarmsByRaising_21 F 21 1 (nI r) Q (nI w) M 0 := by
  have hn := hg.gn
  have hT := hg.gT
  have hwn := (hw.lt hg.gd).1
  refine pu_loop P.T (fun t z => z.2 = nI t ∧ cw M0 z.1 ∧ RP 1 z.1 P ∧ RP 49 z.1 P ∧ ∀ t', t' < t → ¬ b2 P r w t') (fun t z K hi hJ hK => ?_) (i := 0) (by omega) (by omega) ⟨rfl, h0, hP, hT49, fun t ht => absurd ht (by omega)⟩
  obtain ⟨M1, y⟩ := z
  obtain ⟨rfl, j1, j2, j3, j4⟩ := hJ
  refine pk_le P.T t (fun hle => h M1 _ j1 (Or.inl ⟨rfl, fun t' ht' => j4 t' (by omega)⟩)) (fun ht => ⟨pk_in t 21 (by omega), ?_⟩) j2.2.1
  have ho := hg.go t ht
  rw [nI_clamp (n := t) (by omega), show (M1, nI t).1.1 (1 + 1) t = _ from j2.2.2.2.2.1 t ht, show (M1, nI t).1.1 1 5 = _ from j2.1]
  refine sp_raised hn ho hwn (by omega) (fun p hp ep => ?_)
  have epx : ixp P.n (P.od t) w = p := by rw [← ep]; exact ixp_eq ho hp
  have hrs := rs_is ho hp
  rw [show M1.1 (1 + 2) t = _ from j2.2.2.2.2.2.1 t ht]
  refine sp_replace (o := 49) j3 hn ho.1 hrs.1 ht (by omega) (by omega) (fun M2 k1 k2 => ?_)
  have c2 : cw M0 M2 := j1.trans k1.cw
  have hgd : gd (P.rep t (rs (P.od t) p) (P.am t)) := rep_gd hg.gd hrs (am_ok hg ht (by omega))
  refine sp_theWinner (o := 49) k2 hgd (Or.inr rfl) (c2.2.2 ht0) hr hF (fun M3 k l1 hk => ?_)
  have c3 : cw M0 M3 := c2.trans l1.cw
  have hk2 : isW (P.rep t (rs (P.od t) p) (P.am t)) r (P.ti k) := ⟨k, hk, rfl⟩
  have hkl := hgd.2.2.2.2.2.1.1 k hk.1
  have hkl : P.ti k < P.n := hkl
  show ((nI (P.ti k) = nI w → _) ∧ (¬ nI (P.ti k) = nI w → _))
  refine pk_eq (P.ti k) w (fun e => ?_) (fun ne => h M3 _ c3 (Or.inr ⟨t, ht, rfl, ?_, j4⟩))
  · have hP3 : RP 1 M3 P := (l1.RP (Or.inl rfl)) (j2.congr (fun q _ _ => k1.1 q (by omega)))
    rw [show M3.1 (1 + 2) t = _ from hP3.2.2.2.2.2.1 t ht]
    refine sp_replace (o := 49) (P := P.rep t (rs (P.od t) p) (P.am t)) (l1.RP (Or.inr rfl) k2) hn (by rw [show (P.rep t (rs (P.od t) p) (P.am t)).od t = rs (P.od t) p from uf_s]; exact hrs.1) ho.1 ht (by show P.T ≤ 21; omega) (by omega) (fun M4 n1 n2 => hK ht _ ⟨by rw [nI_1], c3.trans n1.cw, hP3.congr (fun q _ _ => n1.1 q (by omega)), ?_, fun t' ht' => ?_⟩)
    · rw [rep_rep, rep_id] at n2; exact n2
    · by_cases z : t' = t
      · subst z
        unfold b2
        rw [epx]
        exact fun w2 => w2 (e ▸ hk2)
      · exact j4 t' (by omega)
  · unfold b2
    rw [epx]
    exact fun z => ne (hk2.uniq z)
theorem sp_join {F r w : Nat} {P : pv} {M M0 : om_M} {Q : Int32 → om_M → Prop} (hP : RP 1 M P) (hT49 : RP 49 M P) (hg : good 20 100000 P) (hw : isW P r w) (h0 : cw M0 M) (ht0 : ta M0) (hr : r < 12) (hF : 1000 ≤ F) (h : ∀ M' x, cw M0 M' → Fst P.T (b3 P r w) x → Q x M') : wp_W_typeThatHarmsByJoining_21 F 21 1 (nI r) Q (nI w) M 0 := by
  have hn := hg.gn
  have hn2 : 2 ≤ P.n := hg.1
  have hT := hg.gT
  have hwn := (hw.lt hg.gd).1
  refine pu_loop P.T (fun t z => z.2 = nI t ∧ cw M0 z.1 ∧ RP 1 z.1 P ∧ RP 49 z.1 P ∧ ∀ t', t' < t → ¬ b3 P r w t') (fun t z K hi hJ hK => ?_) (i := 0) (by omega) (by omega) ⟨rfl, h0, hP, hT49, fun t ht => absurd ht (by omega)⟩
  obtain ⟨M1, y⟩ := z
  obtain ⟨rfl, j1, j2, j3, j4⟩ := hJ
  refine pk_le P.T t (fun hle => h M1 _ j1 (Or.inl ⟨rfl, fun t' ht' => j4 t' (by omega)⟩)) (fun ht => ⟨pk_in t 21 (by omega), ?_⟩) j2.2.1
  have ho := hg.go t ht
  rw [nI_clamp (n := t) (by omega), show (M1, nI t).1.1 (1 + 1) t = _ from j2.2.2.2.2.1 t ht]
  refine sp_at (k := 0) ho.1 hn (by omega) ?_
  have hl0 := ho.1 0 (by omega)
  have next : ∀ M2, cw M0 M2 → RP 1 M2 P → RP 49 M2 P → ¬ b3 P r w t → wp_W_typeThatHarmsByJoining_106 F 21 1 (nI r) Q (nI w) K M2 (nI t) := fun M2 q1 q2 q3 q4 => hK ht _ ⟨by rw [nI_1], q1, q2, q3, fun t' ht' => by
    by_cases z : t' = t
    · subst z; exact q4
    · exact j4 t' (by omega)⟩
  refine pk_eq (P.od t 0) w (fun e0 => ?_) (fun ne0 => next M1 j1 j2 j3 (fun z => ne0 z.1))
  rw [show M1.1 (1 + 2) t = _ from j2.2.2.2.2.2.1 t ht, nI_1]
  refine sp_replace (o := 49) j3 hn ho.1 ho.1 ht (by omega) (by omega) (fun M2 k1 k2 => ?_)
  have c2 : cw M0 M2 := j1.trans k1.cw
  have hgd : gd (P.rep t (P.od t) (P.am t + 1)) := rep_gd hg.gd ho (am_ok hg ht (by omega))
  refine sp_theWinner (o := 49) k2 hgd (Or.inr rfl) (c2.2.2 ht0) hr hF (fun M3 k l1 hk => ?_)
  have c3 : cw M0 M3 := c2.trans l1.cw
  have hk2 : isW (P.rep t (P.od t) (P.am t + 1)) r (P.ti k) := ⟨k, hk, rfl⟩
  have hkl : P.ti k < P.n := hgd.2.2.2.2.2.1.1 k hk.1
  show ((nI (P.ti k) = nI w → _) ∧ (¬ nI (P.ti k) = nI w → _))
  refine pk_eq (P.ti k) w (fun e => ?_) (fun ne => h M3 _ c3 (Or.inr ⟨t, ht, rfl, ⟨e0, fun z => ne (hk2.uniq z)⟩, j4⟩))
  have hP3 : RP 1 M3 P := (l1.RP (Or.inl rfl)) (j2.congr (fun q _ _ => k1.1 q (by omega)))
  rw [show M3.1 (1 + 2) t = _ from hP3.2.2.2.2.2.1 t ht]
  refine sp_replace (o := 49) (P := P.rep t (P.od t) (P.am t + 1)) (l1.RP (Or.inr rfl) k2) hn (by rw [show (P.rep t (P.od t) (P.am t + 1)).od t = P.od t from uf_s]; exact ho.1) ho.1 ht (by show P.T ≤ 21; omega) (by omega) (fun M4 n1 n2 => next M4 (c3.trans n1.cw) (hP3.congr (fun q _ _ => n1.1 q (by omega))) ?_ (fun z => z.2 (e ▸ hk2)))
  rw [rep_rep, rep_id] at n2; exact n2
theorem sp_leaving {F r : Nat} {P : pv} {M : om_M} {Q : Int32 → om_M → Prop} (hP : RP 1 M P) (hg : good 20 100000 P) (ht0 : ta M) (hr : r < 12) (hF : 1000 ≤ F) (h : ∀ M' x w, cw M M' → isW P r w → Fst P.n (b4 P r w) x → Q x M') : wp_W_loserThatHarmsByLeaving F 21 1 (nI r) M Q := by
  have hn := hg.gn
  have hn2 : 2 ≤ P.n := hg.1
  refine pk_lt 2 P.n (fun h2 => ?_) (fun h2 => ?_) rfl hP.1
  · refine sp_cwin hP hg.gd (Or.inl rfl) ht0 hr hF (fun M1 x c1 hx => ?_)
    have hP1 := c1.RP (Or.inl rfl) hP
    refine sp_firstInTie hP1 hg.gd hx (by omega) (fun k hk => ?_) (fun q => by
      obtain ⟨c, hc, hw⟩ := Win.ex hg.gd hr
      exact absurd hw (q c hc))
    have hw : isW P r (P.ti k) := ⟨k, hk, rfl⟩
    obtain ⟨w, ew⟩ : ∃ w, w = P.ti k := ⟨_, rfl⟩
    rw [← ew] at hw ⊢
    have hwn := (hw.lt hg.gd).1
    refine pu_loop P.n (fun c z => z.2 = nI c ∧ cw M z.1 ∧ ∀ c', c' < c → ¬ b4 P r w c') (fun c z K hi hJ hK => ?_) (i := 0) (by omega) (by omega) ⟨rfl, c1.cw, fun c hc => absurd hc (by omega)⟩
    obtain ⟨M2, y⟩ := z
    obtain ⟨rfl, j1, j2⟩ := hJ
    have hP2 := j1.RP hP
    have next : ∀ M3, cw M M3 → ¬ b4 P r w c → c < P.n → wp_W_loserThatHarmsByLeaving_83 F 21 1 (nI r) Q x (nI w) K M3 (nI c) := fun M3 q1 q2 hc => hK hc _ ⟨by rw [nI_1], q1, fun c' hc' => by
      by_cases z : c' = c
      · subst z; exact q2
      · exact j2 c' (by omega)⟩
    refine pk_le P.n c (fun hle => h M2 _ w j1 hw (Or.inl ⟨rfl, fun c' hc' => j2 c' (by omega)⟩)) (fun hc => hx.br0 hn hc (fun np => ?_) (fun hp => next M2 j1 (fun z => z.2.1 hp) hc)) hP2.1
    refine sp_copyW hP2 hn hn2 hc hg.gT hg.go hg.2.2.2.2.2.1 hg.2.2.2.2.2.2.1 (by omega) (fun M3 k1 k2 => ?_)
    have c3 : cw M M3 := j1.trans k1.cw
    have hgd := wo_gd hg.gd hc h2
    refine sp_theWinner (o := 49) k2 hgd (Or.inr rfl) (c3.2.2 ht0) hr hF (fun M4 k' l1 hk' => ?_)
    have c4 : cw M M4 := c3.trans l1.cw
    have hk2 : isW (P.wo c) r ((P.wo c).ti k') := ⟨k', hk', rfl⟩
    have hkl := (hk2.lt hgd).1
    have hkl : (P.wo c).ti k' < P.n - 1 := hkl
    refine nW (by omega) (by omega) ?_
    have hdn : dn c w ≤ w := by unfold dn; split <;> omega
    refine pk_eq ((P.wo c).ti k') (dn c w) (fun e => next M4 c4 (fun z => z.2.2 (e ▸ hk2)) hc) (fun ne => h M4 _ w c4 hw (Or.inr ⟨c, hc, rfl, ⟨h2, np, fun z => ne (hk2.uniq z)⟩, j2⟩))
  · obtain ⟨c, hc, hwc⟩ := Win.ex hg.gd hr
    obtain ⟨k, hk⟩ := hd.ex hg.2.2.2.2.2.1 hc hwc
    exact h M _ (P.ti k) cw.refl ⟨k, hk, rfl⟩ (Or.inl ⟨rfl, fun t _ z => by have := z.1; omega⟩)
