/-! change -/
noncomputable def wnr (P : pv) (r : Nat) : Nat := Classical.epsilon (isW P r)
theorem wnr_is {P : pv} (hg : gd P) {r : Nat} (hr : r < 12) : isW P r (wnr P r) := by
  refine Classical.epsilon_spec (p := isW P r) ?_
  obtain ⟨c, hc, hw⟩ := Win.ex hg hr
  obtain ⟨k, hk⟩ := hd.ex hg.2.2.2.2.2.1 hc hw
  exact ⟨P.ti k, k, hk, rfl⟩
def Pt (P : pv) (t mv : Nat) (f : Nat → Nat) : pv := (P.rep t (P.od t) (P.am t - mv)).app f mv
theorem app_rep (P : pv) (f g : Nat → Nat) (v : Nat) : (P.app g v).rep P.T f v = P.app f v := by
  show (P.n, P.T + 1, uf (uf P.od P.T g) P.T f, uf (uf P.am P.T v) P.T v, P.ti, P.ag, P.we) = (P.n, P.T + 1, uf P.od P.T f, uf P.am P.T v, P.ti, P.ag, P.we)
  have e1 : uf (uf P.od P.T g) P.T f = uf P.od P.T f := by
    funext s
    by_cases e : s = P.T
    · rw [e, uf_s, uf_s]
    · rw [uf_n e, uf_n e, uf_n e]
  have e2 : uf (uf P.am P.T v) P.T v = uf P.am P.T v := by
    funext s
    by_cases e : s = P.T
    · rw [e, uf_s, uf_s]
    · rw [uf_n e, uf_n e]
  rw [e1, e2]
theorem Pt_gd {P : pv} (hg : good 20 100000 P) {t mv : Nat} {f : Nat → Nat} (ht : t < P.T) (hm : mv ≤ P.am t) (hf : isO P.n f) : gd (Pt P t mv f) := by
  have h1 := su_uf (g := P.am) (v := P.am t - mv) ht
  have h2 := su_max (n := P.T) hg.ga
  have h3 : P.T * 100000 ≤ 20 * 100000 := Nat.mul_le_mul_right _ hg.gT
  obtain ⟨c1, c2, c3, c4, c5, c6, c7, c8⟩ := hg
  refine ⟨c1, c2, by show P.T + 1 ≤ 21; omega, ?_, ?_, c6, c7, c8⟩
  · show su (uf (uf P.am t (P.am t - mv)) P.T mv) P.T + uf (uf P.am t (P.am t - mv)) P.T mv P.T ≤ 2000001
    rw [uf_s, su_congr (h := uf P.am t (P.am t - mv)) (fun s hs => uf_n (by omega))]
    omega
  · exact uf_is (fun s hs hne => uf_is (T := P.T) (fun s hs _ => c5 s hs) (c5 t ht) s (by
      have : s < P.T + 1 := hs
      have : s ≠ P.T := hne
      omega)) hf
theorem Pt_od {P : pv} {t mv : Nat} {f : Nat → Nat} (ht : t < P.T) : (Pt P t mv f).od t = P.od t := by
  show uf (uf P.od t (P.od t)) P.T f t = P.od t
  rw [uf_n (by omega), uf_s]
noncomputable def pim (P : pv) (r t mv i : Nat) : Nat := ixp P.n (P.od t) (wnr (Pt P t mv (dg (itn P.n i))) r)
noncomputable def rfd (P : pv) (r t mv : Nat) : Nat → Nat × Int32
  | 0 => (ixp P.n (P.od t) (wnr P r), -1)
  | i + 1 => @ite _ (pim P r t mv i < (rfd P r t mv i).1) (Nat.decLt _ _) (pim P r t mv i, nI (pz (dg (itn P.n i)) P.n)) (rfd P r t mv i)
theorem rfd_p {P : pv} {r t mv i : Nat} (h : pim P r t mv i < (rfd P r t mv i).1) : rfd P r t mv (i + 1) = (pim P r t mv i, nI (pz (dg (itn P.n i)) P.n)) := if_pos h
theorem rfd_n {P : pv} {r t mv i : Nat} (h : ¬ pim P r t mv i < (rfd P r t mv i).1) : rfd P r t mv (i + 1) = rfd P r t mv i := if_neg h
theorem rfd_0 {P : pv} {r t mv i : Nat} (h : (rfd P r t mv i).1 = 0) : ∀ m, i ≤ m → rfd P r t mv m = rfd P r t mv i
  | 0, hm => by rw [show i = 0 by omega]
  | m + 1, hm => by
    by_cases e : i = m + 1
    · rw [e]
    · have ih := rfd_0 h m (by omega)
      rw [rfd_n (by rw [ih]; omega)]
      exact ih
theorem ixp_b {n : Nat} {f : Nat → Nat} (h : isO n f) {c : Nat} (hc : c < n) : ixp n f c < n := (ixp_lt h hc).1
theorem rfd_in {P : pv} (hg : good 20 100000 P) {r t mv : Nat} (hr : r < 12) (ht : t < P.T) (hm : mv ≤ P.am t) : ∀ i, (∀ m, m < i → isO P.n (dg (itn P.n m))) → (rfd P r t mv i).1 < P.n ∧ (((rfd P r t mv i).2 = -1 ∧ (rfd P r t mv i).1 = (rfd P r t mv 0).1) ∨ ((∃ a, a < 2 ^ 31 ∧ (rfd P r t mv i).2 = nI a) ∧ (rfd P r t mv i).1 < (rfd P r t mv 0).1))
  | 0, _ => ⟨ixp_b (hg.go t ht) ((wnr_is hg.gd hr).lt hg.gd).1, Or.inl ⟨rfl, rfl⟩⟩
  | i + 1, h => by
    obtain ⟨q1, q2⟩ := rfd_in hg hr ht hm i (fun m hm => h m (by omega))
    have hf := h i (by omega)
    by_cases z : pim P r t mv i < (rfd P r t mv i).1
    · rw [rfd_p z]
      refine ⟨by show pim P r t mv i < P.n; omega, Or.inr ⟨⟨_, pz_8 (by have := hg.gn; omega) (fun k hk => by have := hf.1 k hk; have := hg.gn; omega), rfl⟩, ?_⟩⟩
      show pim P r t mv i < _
      rcases q2 with ⟨-, q2⟩ | ⟨-, q2⟩ <;> omega
    · rw [rfd_n z]
      exact ⟨q1, q2⟩
theorem sp_start {F n : Nat} {M : om_M} {Q : om_M → Prop} (hn : n ≤ 7) (hF : 10 ≤ F) (h : ∀ M', (∀ q, q ≠ 69 → q ≠ 70 → M'.1 q = M.1 q) → M'.2 = M.2 → M'.1 69 1 = nI n → (∀ k, k < n → M'.1 70 k = nI k) → Q M') : wp_S_start F 69 (nI n) M Q := by
  refine pu_loop n (fun i z => z.2 = nI i ∧ (∀ q, q ≠ 69 → q ≠ 70 → z.1.1 q = M.1 q) ∧ z.1.2 = M.2 ∧ z.1.1 69 1 = nI n ∧ ∀ k, k < i → z.1.1 70 k = nI k) (fun i z K hi hJ hK => ?_) (i := 0) (by omega) (by omega) ⟨rfl, fun q h1 h2 => om_up_n _ _ h1, rfl, pu_up1, fun k hk => absurd hk (by omega)⟩
  obtain ⟨M1, y⟩ := z
  obtain ⟨rfl, j1, j2, j3, j4⟩ := hJ
  refine pk_le n i (fun hle => h M1 j1 j2 j3 (fun k hk => j4 k (by omega))) (fun hlt => ⟨pk_in i 7 (by omega), hK hlt _ ⟨by rw [nI_1], fun q h1 h2 => by rw [om_up_n _ _ (by omega)]; exact j1 q h1 h2, j2, by rw [om_up_n _ _ (by decide)]; exact j3, fun k hk => ?_⟩⟩) j3
  rw [nI_clamp (n := i) (by omega)]
  show (om_up M1 70 i _).1 70 k = _
  by_cases e : k = i
  · subst e; exact pu_up1
  · exact (pu_up2 e).trans (j4 k (by omega))
theorem sp_asNumber {F n : Nat} {f : Nat → Nat} {M : om_M} {Q : Int32 → om_M → Prop} (hn : n ≤ 7) (hs : M.1 69 1 = nI n) (hf : ∀ k, k < n → f k < 8) (hv : ∀ k, k < n → M.1 70 k = nI (f k)) (hF : 10 ≤ F) (h : Q (nI (pz f n)) M) : wp_S_asNumber F 69 M Q := by
  refine pu_loop n (fun i z => z = (M, nI (pz f i), nI i)) (fun i z K hi hJ hK => ?_) (i := 0) (by omega) (by omega) rfl
  subst hJ
  refine pk_le n i (fun hle => ?_) (fun hlt => ⟨pk_in i 7 (by omega), hK hlt _ ?_⟩) hs
  · rw [show i = n by omega]; exact h
  · show (M, nI (pz f i) ||| (M.1 70 (nI i).toNatClampNeg) <<< (((3 : Int32) * nI i) &&& 31), nI i + 1) = (M, nI (pz f (i + 1)), nI (i + 1))
    rw [nI_clamp (n := i) (by omega), hv i hlt, pa_put (fun j hj => hf j (by omega)) (by omega), nI_1]
/-- all orders: there are L + 1 -/
theorem all_orders {n : Nat} (h2 : 2 ≤ n) (h7 : n ≤ 7) : ∃ L, L < 5040 ∧ tn (dg (itn n L)) (n - 1) = 0 ∧ (∀ k, k < L → tn (dg (itn n k)) (n - 1) ≠ 0) ∧ ∀ i, i ≤ L → isO n (dg (itn n i)) := by
  have hrun : run n 5040 (itn n 0) = true := by
    have : n = 2 ∨ n = 3 ∨ n = 4 ∨ n = 5 ∨ n = 6 ∨ n = 7 := by omega
    rcases this with e | e | e | e | e | e <;> rw [e]
    · exact run2
    · exact run3
    · exact run4
    · exact run5
    · exact run6
    · exact run7
  obtain ⟨L, -, L2, L3, L4⟩ := run_ex 5040 0 hrun
  exact ⟨L, by omega, L3, fun k hk => L4 k (by omega) hk, fun i hi => itn_is h2 h7 i (fun m hm => L4 m (by omega) (by omega))⟩
theorem cw.up {M M' : om_M} {o k : Nat} {v : Int32} (h : cw M M') (ho : o = 21 ∨ o = 69 ∨ o = 70) : cw M (om_up M' o k v) := ⟨fun q hq => by rw [om_up_n _ _ (by omega)]; exact h.1 q hq, h.2.1, fun t => ⟨by rw [om_up_n _ _ (by omega)]; exact (h.2.2 t).1, fun c hc => by rw [om_up_n _ _ (by omega)]; exact (h.2.2 t).2 c hc⟩⟩
theorem sp_better {F r t mv L : Nat} {P : pv} {M : om_M} {Q : Int32 → om_M → Prop} (hP : RP 1 M P) (hg : good 20 100000 P) (hta : ta M) (hr : r < 12) (ht : t < P.T) (hm : mv ≤ P.am t) (hL1 : L < 5040) (hL2 : tn (dg (itn P.n L)) (P.n - 1) = 0) (hL3 : ∀ k, k < L → tn (dg (itn P.n k)) (P.n - 1) ≠ 0) (hL4 : ∀ i, i ≤ L → isO P.n (dg (itn P.n i))) (hF : 10000 ≤ F) (h : ∀ M', cw M M' → M'.1 21 3 = nI (rfd P r t mv (L + 1)).1 → Q (rfd P r t mv (L + 1)).2 M') : wp_W_betterOrder F 21 1 (nI r) (nI t) (nI mv) M Q := by
  have hn := hg.gn
  have hn2 : 2 ≤ P.n := hg.1
  have hT := hg.gT
  have ho := hg.go t ht
  have ham := hg.ga t ht
  refine ⟨pk_in t 21 (by omega), ?_⟩
  rw [nI_clamp (n := t) (by omega), show M.1 (1 + 1) t = _ from hP.2.2.2.2.1 t ht]
  refine sp_theWinner hP hg.gd (Or.inl rfl) hta hr (by omega) (fun M1 k c1 hk => ?_)
  have hw0 : wnr P r = P.ti k := (wnr_is hg.gd hr).uniq ⟨k, hk, rfl⟩
  have hkn := hg.2.2.2.2.2.1.1 k hk.1
  have hP1 := c1.RP (Or.inl rfl) hP
  rw [hP1.1]
  refine sp_placeOf hn ho hkn (by omega) (fun p0 hp0 ep0 => ?_)
  have e0 : (rfd P r t mv 0).1 = p0 := by
    show ixp P.n (P.od t) (wnr P r) = p0
    rw [hw0, ← ep0]; exact ixp_eq ho hp0
  have c2 : cw M (om_up M1 21 3 (nI p0)) := c1.cw.up (Or.inl rfl)
  refine sp_copy (c2.RP hP) hn hT (fun t ht => (hg.go t ht).1) (by omega) (fun M2 k1 k2 => ?_)
  have c3 : cw M M2 := c2.trans k1.cw
  rw [show M2.1 (1 + 2) t = _ from (c3.RP hP).2.2.2.2.2.1 t ht, pk_sub hm]
  refine sp_replace (o := 49) k2 hn ho.1 ho.1 ht (by omega) (by omega) (fun M3 l1 l2 => ?_)
  refine sp_append (o := 49) (P := P.rep t (P.od t) (P.am t - mv)) l2 hn ho.1 (by show P.T < 21; omega) (by omega) (fun M4 m1 m2 => ?_)
  have c5 : cw M M4 := (c3.trans l1.cw).trans m1.cw
  rw [(c5.RP hP).1]
  refine sp_start hn (by omega) (fun M5 n1 n2 n3 n4 => ?_)
  have c6 : cw M M5 := c5.trans ⟨fun q hq => n1 q (by omega) (by omega), n2, fun t => ⟨by rw [n1 39 (by decide) (by decide)]; exact t.1, fun c hc => by rw [n1 _ (by omega) (by omega)]; exact t.2 c hc⟩⟩
  have e21 : M5.1 21 3 = nI p0 := by
    rw [n1 21 (by decide) (by decide), m1.1 21 (by omega), l1.1 21 (by omega), k1.1 21 (by omega)]; exact pu_up1
  have hR5 : RP 49 M5 (Pt P t mv (P.od t)) := RP.congr m2 (fun q _ _ => n1 q (by omega) (by omega))
  show wp_W_betterOrder_90 F 21 1 (nI r) (nI t) (nI mv) Q (nI (pz (P.od t) P.n)) (nI P.T) M5 (-1) 1 0
  refine pu_loop 5040 (fun i z => cw M z.1 ∧ z.1.1 69 1 = nI P.n ∧ z.1.1 21 3 = nI (rfd P r t mv i).1 ∧ z.2.1 = (rfd P r t mv i).2 ∧ z.2.2.2 = nI i ∧ (∃ g, isO P.n g ∧ RP 49 z.1 (Pt P t mv g)) ∧ ((z.2.2.1 = 1 ∧ i ≤ L ∧ ∀ k, k < P.n → z.1.1 70 k = nI (dg (itn P.n i) k)) ∨ (z.2.2.1 = 0 ∧ i = L + 1))) (fun i z K hi hJ hK => ?_) (i := 0) (by omega) (by omega) ⟨c6, n3, by rw [e0]; exact e21, rfl, rfl, ⟨P.od t, ho, hR5⟩, Or.inl ⟨rfl, Nat.zero_le _, fun k hk => by rw [itn_0 hn hk]; exact n4 k hk⟩⟩
  obtain ⟨M6, x7, x8, x9⟩ := z
  obtain ⟨d1, d2, d3, d4, d5, ⟨g, hgo, d6⟩, d7⟩ := hJ
  simp only at d1 d2 d3 d4 d5 d6 d7
  subst d5
  have hrfd := rfd_in hg hr ht hm (mv := mv) i (fun m hm2 => hL4 m (by omega))
  have out : rfd P r t mv (L + 1) = rfd P r t mv i → Q x7 M6 := fun e => by
    have := h M6 d1 (by rw [e]; exact d3)
    rw [e, ← d4] at this
    exact this
  refine pk_le 5040 i (fun hle => out ?_) (fun hlt => ⟨fun e => out ?_, fun ne => ?_⟩)
  · rcases d7 with ⟨-, q, -⟩ | ⟨-, q⟩
    · omega
    · rw [q]
  · have e : x8 = 0 := e
    rw [(d7.resolve_left (fun q => absurd (q.1.symm.trans e) (by decide))).2]
  · have ne : ¬ x8 = 0 := ne
    obtain ⟨-, hiL, hrow⟩ := d7.resolve_right (fun q => ne q.1)
    have hf := hL4 i hiL
    refine pk_le (rfd P r t mv i).1 0 (fun hz => out (rfd_0 (by omega) (L + 1) (by omega))) (fun hpos => ?_) d3
    refine sp_asNumber hn d2 (fun k hk => by have := hf.1 k hk; omega) hrow (by omega) ?_
    refine sp_replace (o := 49) (P := Pt P t mv g) (f := dg (itn P.n i)) (t := P.T) d6 hn (by rw [show (Pt P t mv g).od P.T = g from uf_s]; exact hgo.1) hf.1 (by show P.T < P.T + 1; omega) (by show P.T + 1 ≤ 21; omega) (by omega) (fun M7 a1 a2 => ?_)
    have a2 : RP 49 M7 (Pt P t mv (dg (itn P.n i))) := by
      have := app_rep (P.rep t (P.od t) (P.am t - mv)) (dg (itn P.n i)) g mv
      rw [show (Pt P t mv g).rep P.T (dg (itn P.n i)) mv = Pt P t mv (dg (itn P.n i)) from this] at a2
      exact a2
    have c7 : cw M M7 := d1.trans a1.cw
    have hgd := Pt_gd hg ht hm hf
    refine sp_theWinner (o := 49) a2 hgd (Or.inr rfl) (c7.2.2 hta) hr (by omega) (fun M8 k8 b1 hk8 => ?_)
    have c8 : cw M M8 := c7.trans b1.cw
    have hw8 : wnr (Pt P t mv (dg (itn P.n i))) r = P.ti k8 := (wnr_is hgd hr).uniq ⟨k8, hk8, rfl⟩
    have hk8n : P.ti k8 < P.n := hg.2.2.2.2.2.1.1 k8 hk8.1
    show wp_O_placeOf F (nI (pz (P.od t) P.n)) (nI (P.ti k8)) (M8.1 1 5) M8 _
    rw [(c8.RP hP).1]
    refine sp_placeOf hn ho hk8n (by omega) (fun p hp ep => ?_)
    have epi : pim P r t mv i = p := by
      show ixp P.n (P.od t) (wnr (Pt P t mv (dg (itn P.n i))) r) = p
      rw [hw8, ← ep]; exact ixp_eq ho hp
    have e8 : M8.1 21 3 = nI (rfd P r t mv i).1 := by rw [b1.1 21 (by omega), a1.1 21 (by omega)]; exact d3
    have r8 : RP 49 M8 (Pt P t mv (dg (itn P.n i))) := b1.RP (Or.inr rfl) a2
    have s8 : M8.1 69 1 = nI P.n := by rw [b1.1 69 (by omega), a1.1 69 (by omega)]; exact d2
    have o8 : ∀ k, k < P.n → M8.1 70 k = nI (dg (itn P.n i) k) := fun k hk => by rw [b1.1 70 (by omega), a1.1 70 (by omega)]; exact hrow k hk
    have adv : ∀ (M9 : om_M) (x : Int32), cw M M9 → RP 49 M9 (Pt P t mv (dg (itn P.n i))) → M9.1 69 1 = nI P.n → (∀ k, k < P.n → M9.1 70 k = nI (dg (itn P.n i) k)) → M9.1 21 3 = nI (rfd P r t mv (i + 1)).1 → x = (rfd P r t mv (i + 1)).2 → wp_W_betterOrder_174 F 21 1 (nI r) (nI t) (nI mv) Q (nI (pz (P.od t) P.n)) (nI P.T) K M9 x (nI i) := by
      intro M9 x z1 z2 z3 z4 z5 z6
      refine sp_cnext hn2 hn z3 hf z4 (by omega) (fun htn M10 y1 y2 => ?_) (fun htn => ?_)
      · have hiL2 : i < L := by
          rcases Nat.lt_or_ge i L with w | w
          · exact w
          · exact absurd (by rw [show i = L by omega]; exact hL2) htn
        have cy : cw M9 M10 := ⟨fun q hq => y1.1 q (by omega), y1.2, fun t => ⟨by rw [y1.1 39 (by decide)]; exact t.1, fun c hc => by rw [y1.1 _ (by omega)]; exact t.2 c hc⟩⟩
        exact hK hlt _ ⟨z1.trans cy, by rw [y1.1 69 (by decide)]; exact z3, by rw [y1.1 21 (by decide)]; exact z5, z6, nI_1 i, ⟨dg (itn P.n i), hf, z2.congr (fun q _ _ => y1.1 q (by omega))⟩, Or.inl ⟨rfl, by omega, fun k hk => by rw [itn_dg hn2 hn hf htn hk]; exact y2 k hk⟩⟩
      · have hiL2 : i = L := by
          rcases Nat.lt_or_ge i L with w | w
          · exact absurd htn (hL3 i w)
          · omega
        exact hK hlt _ ⟨z1, z3, z5, z6, nI_1 i, ⟨dg (itn P.n i), hf, z2⟩, Or.inr ⟨rfl, by omega⟩⟩
    have hb := hrfd.1
    refine pk_le (rfd P r t mv i).1 p (fun q => ?_) (fun q => ?_) e8
    · have en := rfd_n (P := P) (r := r) (t := t) (mv := mv) (i := i) (by rw [epi]; omega)
      exact adv M8 x7 c8 r8 s8 o8 (by rw [en]; exact e8) (by rw [en]; exact d4)
    · have ep2 := rfd_p (P := P) (r := r) (t := t) (mv := mv) (i := i) (by rw [epi]; exact q)
      exact adv _ _ (c8.up (Or.inl rfl)) (r8.congr (fun q _ _ => om_up_n _ _ (by omega))) (by rw [om_up_n _ _ (by decide)]; exact s8) (fun k hk => by rw [om_up_n _ _ (by decide)]; exact o8 k hk) (by rw [ep2, pu_up1, epi]) (by rw [ep2])
