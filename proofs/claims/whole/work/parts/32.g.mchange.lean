/-! change: the model, and the call -/
def mqc (M M' : om_M) : Prop := (∀ q, (q < 71 ∨ (72 ≤ q ∧ q ≤ 76) ∨ 89 ≤ q) → M'.1 q = M.1 q) ∧ (∀ k, k ≠ 8 → k ≠ 9 → k ≠ 22 → M'.1 71 k = M.1 71 k) ∧ M'.2 89 = M.2 89
theorem mqc.refl {M : om_M} : mqc M M := ⟨fun _ _ => rfl, fun _ _ _ _ => rfl, rfl⟩
theorem mqc.trans {M M' M'' : om_M} (h : mqc M M') (g : mqc M' M'') : mqc M M'' := ⟨fun q hq => (g.1 q hq).trans (h.1 q hq), fun k h0 h1 h2 => (g.2.1 k h0 h1 h2).trans (h.2.1 k h0 h1 h2), g.2.2.trans h.2.2⟩
theorem mq0.mqc {M M' : om_M} (h : mq0 M M') : mqc M M' := ⟨h.1.1, fun k h1 h2 _ => by
  by_cases e : k = 0
  · subst e; exact h.2
  · exact h.1.2.1 k e h1 h2, h.1.2.2⟩
theorem mqc.up {M M' : om_M} {o k : Nat} {v : Int32} (h : mqc M M') (ho : (77 ≤ o ∧ o < 89) ∨ (o = 71 ∧ (k = 8 ∨ k = 9 ∨ k = 22))) : mqc M (om_up M' o k v) := by
  refine ⟨fun q hq => by rw [om_up_n _ _ (by omega)]; exact h.1 q hq, fun j h0 h1 h2 => ?_, h.2.2⟩
  by_cases e : o = 71
  · subst e; rw [pu_up2 (by omega)]; exact h.2.1 j h0 h1 h2
  · rw [om_up_n _ _ (Ne.symm e)]; exact h.2.1 j h0 h1 h2
theorem mqc.RM {M M' : om_M} {P : pv} (h : mqc M M') (g : RM M P) : RM M' P := g.congr (fun q _ _ => h.1 q (by omega)) (h.2.1 1 (by decide) (by decide) (by decide)) (h.2.1 2 (by decide) (by decide) (by decide))
theorem RL.pt {M M' : om_M} {P : pv} {t mv : Nat} {f : Nat → Nat} (h : RL M P) (ht : t < P.T) (hn : P.n ≤ 7) (e8 : M'.1 71 8 = nI P.n) (e9 : M'.1 71 9 = nI (P.T + 1)) (e1 : ∀ j, j < 7 * P.T → M'.1 77 j = M.1 77 j) (e2 : ∀ k, k < P.n → M'.1 77 (7 * P.T + k) = nI (f k)) (e3 : M'.1 78 t = nI (P.am t - mv)) (e4 : M'.1 78 P.T = nI mv) (e5 : ∀ s, s ≠ t → s ≠ P.T → M'.1 78 s = M.1 78 s) (e6 : ∀ q, 79 ≤ q → q ≤ 81 → M'.1 q = M.1 q) : RL M' (Pt P t mv f) := by
  obtain ⟨q1, q2, q3, q4, q5, q6, q7⟩ := h
  refine ⟨e8, e9, fun s k (hs : s < P.T + 1) (hk : k < P.n) => ?_, fun s (hs : s < P.T + 1) => ?_, fun k hk => ?_, fun k hk => ?_, fun k hk => ?_⟩
  · show M'.1 77 (7 * s + k) = nI (uf (uf P.od t (P.od t)) P.T f s k)
    by_cases z : s = P.T
    · subst z; rw [uf_s]; exact e2 k hk
    · rw [uf_n z, uf_id, e1 _ (by omega)]; exact q3 s k (by omega) hk
  · show M'.1 78 s = nI (uf (uf P.am t (P.am t - mv)) P.T mv s)
    by_cases z : s = P.T
    · subst z; rw [uf_s]; exact e4
    · rw [uf_n z]
      by_cases y : s = t
      · subst y; rw [uf_s]; exact e3
      · rw [uf_n y, e5 s y z]; exact q4 s (by omega)
  · rw [e6 _ (by decide) (by decide)]; exact q5 k hk
  · rw [e6 _ (by decide) (by decide)]; exact q6 k hk
  · rw [e6 _ (by decide) (by decide)]; exact q7 k hk
theorem sp_mchange {F r t mv L : Nat} {P : pv} {M : om_M} {Q : Int32 → om_M → Prop} (hM : RM M P) (hg : good 20 100000 P) (hr : r < 12) (ht : t < P.T) (hm : mv ≤ P.am t) (hL2 : tn (dg (itn P.n L)) (P.n - 1) = 0) (hL1 : L < 5040) (hL3 : ∀ k, k < L → tn (dg (itn P.n k)) (P.n - 1) ≠ 0) (hL4 : ∀ i, i ≤ L → isO P.n (dg (itn P.n i))) (hF : 100000000 ≤ F) (h : ∀ M' x, mqc M M' → M'.1 71 22 = (rfd P r t mv (L + 1)).2 → ((rfd P r t mv (L + 1)).1 < (rfd P r t mv 0).1 → x = nI ((rfd P r t mv (L + 1)).1 + 1)) → (¬ (rfd P r t mv (L + 1)).1 < (rfd P r t mv 0).1 → x = 0) → Q x M') : wp_M_load F 71 M (fun M18 => wp_M_work F 71 (nI r) M18 (fun r20 M19 => wp_M_firstOf F 71 r20 M19 (fun r22 M21 => wp_M_placeOf F 71 (nI t) r22 M21 (fun r24 M23 => wp_M_firstOrder F 71 (om_up M23 71 22 (-1)) (fun M25 => wp_M_change_93 F 71 (nI r) (nI t) (nI mv) Q r24 M25 r24 1))))) := by
  have hn := hg.gn
  have hn2 : 2 ≤ P.n := hg.1
  have hT := hg.gT
  have ho := hg.go t ht
  have ham := hg.ga t ht
  refine sp_load hM hn hT (by omega) (fun M1 k1 k2 => sp_work k2 hg.gd hr hF (fun M2 x l1 hx => sp_firstOf (l1.RL k2) hg.gd hx (Win.ex hg.gd hr) (by omega) (fun kw hkw => ?_)))
  have hw0 : wnr P r = P.ti kw := (wnr_is hg.gd hr).uniq ⟨kw, hkw, rfl⟩
  have hwn := hg.2.2.2.2.2.1.1 kw hkw.1
  refine sp_mplaceOf (l1.RL k2) hg.gd ht hwn (by omega) (fun p0 hp0 ep0 => sp_firstOrder (by omega) (fun M3 m1 m2 => ?_))
  have e0 : (rfd P r t mv 0).1 = p0 := by
    show ixp P.n (P.od t) (wnr P r) = p0
    rw [hw0, ← ep0]; exact ixp_eq ho hp0
  have off_c : ∀ (o : Nat) (Ma Mb : om_M), pu_off o Ma Mb → 77 ≤ o → o < 89 → mqc Ma Mb := fun o Ma Mb e h1 h2 => ⟨fun q hq => e.1 q (by omega), fun k _ _ _ => by rw [e.1 71 (by omega)], by rw [e.2]⟩
  have q3 : mqc M M3 := (((k1.mq0.trans l1.mq0).mqc).up (Or.inr ⟨rfl, by omega⟩)).trans (off_c 87 _ _ m1 (by decide) (by decide))
  have e22 : M3.1 71 22 = -1 := by rw [m1.1 71 (by decide)]; exact pu_up1
  have hall := rfd_in hg hr ht hm (mv := mv) (L + 1) (fun m hm2 => hL4 m (by omega))
  refine pu_loop (L + 1) (fun i z => mqc M z.1 ∧ z.2.1 = nI (rfd P r t mv i).1 ∧ z.1.1 71 22 = (rfd P r t mv i).2 ∧ ((z.2.2 = 1 ∧ i ≤ L ∧ ∀ k, k < P.n → z.1.1 87 k = nI (dg (itn P.n i) k)) ∨ (z.2.2 = 0 ∧ rfd P r t mv (L + 1) = rfd P r t mv i))) (fun i z K hi hJ hK => ?_) (i := 0) (by omega) (by omega) ⟨q3, by rw [e0], e22, Or.inl ⟨rfl, Nat.zero_le _, fun k hk => by rw [itn_0 hn hk]; exact m2 k (by omega)⟩⟩
  obtain ⟨M4, x5, x6⟩ := z
  obtain ⟨d1, d2, d3, d4⟩ := hJ
  simp only at d1 d2 d3 d4
  subst d2
  have hrfd := rfd_in hg hr ht hm (mv := mv) i (fun m hm2 => hL4 m (by omega))
  refine ⟨fun e => ?_, fun ne => ?_⟩
  · have e : x6 = 0 := e
    have er := (d4.resolve_left (fun q => absurd (q.1.symm.trans e) (by decide))).2
    have b1 := hrfd.1
    show ((nI p0 ≤ nI (rfd P r t mv i).1 → Q 0 M4) ∧ (¬ nI p0 ≤ nI (rfd P r t mv i).1 → Q (nI (rfd P r t mv i).1 + 1) M4))
    refine pk_le p0 (rfd P r t mv i).1 (fun q => h M4 _ d1 (by rw [er]; exact d3) (fun z => ?_) (fun _ => rfl)) (fun q => h M4 _ d1 (by rw [er]; exact d3) (fun _ => by rw [er, nI_1]) (fun z => ?_))
    · rw [er, e0] at z; omega
    · rw [er, e0] at z; omega
  · have ne : ¬ x6 = 0 := ne
    obtain ⟨-, hiL, hrow⟩ := d4.resolve_right (fun q => ne q.1)
    have hf := hL4 i hiL
    have hM4 := d1.RM hM
    refine sp_load hM4 hn hT (by omega) (fun M5 n1 n2 => ?_)
    have r87 : ∀ k, k < P.n → M5.1 87 k = nI (dg (itn P.n i) k) := fun k hk => by rw [n1.1 87 (by omega)]; exact hrow k hk
    rw [nI_clamp (n := t) (by omega), show M5.1 (71 + 7) t = nI (P.am t) from n2.2.2.2.1 t ht, pk_sub hm]
    have e9 : (om_up M5 (71 + 7) t (nI (P.am t - mv))).1 71 9 = nI P.T := by rw [om_up_n _ _ (by decide)]; exact n2.2.1
    rw [e9, nI_clamp (n := P.T) (by omega)]
    refine ⟨pk_in t 22 (by omega), pk_in P.T 22 (by omega), ?_⟩
    have q5 : mqc M (om_up (om_up M5 (71 + 7) t (nI (P.am t - mv))) (71 + 7) P.T (nI mv)) := ((d1.trans n1.mq0.mqc).up (Or.inl (by decide))).up (Or.inl (by decide))
    refine pu_loop 7 (fun m z => z.2 = nI m ∧ mqc M z.1 ∧ (∀ q, q ≠ 77 → z.1.1 q = (om_up (om_up M5 (71 + 7) t (nI (P.am t - mv))) (71 + 7) P.T (nI mv)).1 q) ∧ (∀ j, j < 7 * P.T → z.1.1 77 j = M5.1 77 j) ∧ ∀ k, k < m → z.1.1 77 (7 * P.T + k) = M5.1 87 k) (fun m z K2 hm2 hJ hK2 => ?_) (i := 0) (by omega) (by omega) ⟨rfl, q5, fun _ _ => rfl, fun j hj => by
      show (om_up (om_up M5 (71 + 7) t _) (71 + 7) P.T _).1 77 j = _
      rw [om_up_n _ _ (by decide), om_up_n _ _ (by decide)], fun k hk => absurd hk (by omega)⟩
    obtain ⟨M6, y⟩ := z
    obtain ⟨rfl, a1, a2, a3, a4⟩ := hJ
    have e9b : M6.1 71 9 = nI P.T := by rw [show (M6, nI m).1.1 71 = _ from a2 71 (by decide), om_up_n _ _ (by decide)]; exact e9
    refine pk_le 7 m (fun hle => ?_) (fun hlt => ?_)
    · unfold wp_M_change_164
      rw [show (M6, nI m).1.1 71 9 = nI P.T from e9b, nI_1]
      have hRL : RL (om_up M6 71 9 (nI (P.T + 1))) (Pt P t mv (dg (itn P.n i))) := by
        refine RL.pt n2 ht hn ?_ pu_up1 (fun j hj => ?_) (fun k hk => ?_) ?_ ?_ (fun s h1 h2 => ?_) (fun q h1 h2 => ?_)
        · rw [pu_up2 (by decide), show (M6, nI m).1.1 71 = _ from a2 71 (by decide), om_up_n _ _ (by decide), om_up_n _ _ (by decide)]; exact n2.1
        · rw [om_up_n _ _ (by decide)]; exact a3 j hj
        · rw [om_up_n _ _ (by decide)]
          exact (a4 k (by omega)).trans (r87 k hk)
        · rw [om_up_n _ _ (by decide), show (M6, nI m).1.1 78 = _ from a2 78 (by decide)]
          rw [pu_up2 (by omega)]; exact pu_up1
        · rw [om_up_n _ _ (by decide), show (M6, nI m).1.1 78 = _ from a2 78 (by decide)]
          exact pu_up1
        · rw [om_up_n _ _ (by decide), show (M6, nI m).1.1 78 = _ from a2 78 (by decide)]
          rw [pu_up2 h2, pu_up2 h1]
        · rw [om_up_n _ _ (by omega), show (M6, nI m).1.1 q = _ from a2 q (by omega), om_up_n _ _ (by omega), om_up_n _ _ (by omega)]
      have hgd := Pt_gd hg ht hm hf
      have q6 : mqc M (om_up M6 71 9 (nI (P.T + 1))) := a1.up (Or.inr ⟨rfl, by omega⟩)
      refine sp_work hRL hgd hr hF (fun M7 x7 b1 b2 => sp_firstOf (b1.RL hRL) hgd b2 (Win.ex hgd hr) (by omega) (fun k7 hk7 => ?_))
      have hw7 : wnr (Pt P t mv (dg (itn P.n i))) r = P.ti k7 := (wnr_is hgd hr).uniq ⟨k7, hk7, rfl⟩
      have hk7n : P.ti k7 < P.n := hg.2.2.2.2.2.1.1 k7 hk7.1
      refine sp_mplaceOf (P := Pt P t mv (dg (itn P.n i))) (t := t) (b1.RL hRL) hgd (by show t < P.T + 1; omega) hk7n (by omega) (fun p hp ep => ?_)
      rw [Pt_od ht] at ep
      have hp : p < P.n := hp
      have epi : pim P r t mv i = p := by
        show ixp P.n (P.od t) (wnr (Pt P t mv (dg (itn P.n i))) r) = p
        rw [hw7, show P.ti k7 = P.od t p from ep.symm]; exact ixp_eq ho hp
      have q7 : mqc M M7 := q6.trans b1.mq0.mqc
      have e1 : M7.1 71 1 = nI P.n := (q7.RM hM).1
      have row7 : ∀ k, k < P.n → M7.1 87 k = nI (dg (itn P.n i) k) := fun k hk => by
        rw [b1.1 87 (by omega), om_up_n _ _ (by decide), show (M6, nI m).1.1 87 = _ from a2 87 (by decide), om_up_n _ _ (by decide), om_up_n _ _ (by decide)]
        exact r87 k hk
      have c22 : M7.1 71 22 = (rfd P r t mv i).2 := by
        rw [b1.1 71 (by omega), pu_up2 (by decide), show (M6, nI m).1.1 71 = _ from a2 71 (by decide), om_up_n _ _ (by decide), om_up_n _ _ (by decide), n1.2.1 22 (by decide) (by decide)]
        exact d3
      have go : ∀ (M8 : om_M), mqc M M8 → M8.1 71 22 = (rfd P r t mv (i + 1)).2 → (∀ k, k < P.n → M8.1 87 k = nI (dg (itn P.n i) k)) → wp_M_change_214 F 71 (nI r) (nI t) (nI mv) Q (nI p0) K M8 (nI (rfd P r t mv (i + 1)).1) := by
        intro M8 z1 z2 z3
        have hb2 := (rfd_in hg hr ht hm (mv := mv) (i + 1) (fun m hm2 => hL4 m (by omega))).1
        refine pk_le (rfd P r t mv (i + 1)).1 0 (fun hz => hK (by omega) _ ⟨z1, rfl, z2, Or.inr ⟨rfl, rfd_0 (by omega) (L + 1) (by omega)⟩⟩) (fun hpos => ?_)
        refine sp_mnext hn2 hn (z1.RM hM).1 hf z3 (by omega) (fun htn M9 y1 y2 => ⟨fun z => absurd z (by decide), fun _ => ?_⟩) (fun htn => ⟨fun _ => ?_, fun z => absurd rfl z⟩)
        · have hiL2 : i < L := by
            rcases Nat.lt_or_ge i L with w | w
            · exact w
            · exact absurd (by rw [show i = L by omega]; exact hL2) htn
          exact hK (by omega) _ ⟨z1.trans (off_c 87 _ _ y1 (by decide) (by decide)), rfl, by rw [y1.1 71 (by decide)]; exact z2, Or.inl ⟨rfl, by omega, fun k hk => by rw [itn_dg hn2 hn hf htn hk]; exact y2 k hk⟩⟩
        · have hiL2 : i = L := by
            rcases Nat.lt_or_ge i L with w | w
            · exact absurd htn (hL3 i w)
            · omega
          subst hiL2
          exact hK (by omega) _ ⟨z1, rfl, z2, Or.inr ⟨rfl, rfl⟩⟩
      have hb := hrfd.1
      refine pk_le (rfd P r t mv i).1 p (fun q => ?_) (fun q => ?_)
      · have en := rfd_n (P := P) (r := r) (t := t) (mv := mv) (i := i) (by rw [epi]; omega)
        have := go M7 q7 (by rw [en]; exact c22) row7
        rw [en] at this
        exact this
      · have ep2 := rfd_p (P := P) (r := r) (t := t) (mv := mv) (i := i) (by rw [epi]; exact q)
        refine sp_packed (fr := 0) (f := dg (itn P.n i)) hn (fun k hk => by have := hf.1 k hk; omega) e1 (by omega) (by decide) (by omega) (fun k hk => by rw [Nat.zero_add]; exact row7 k hk) ?_
        have := go (om_up M7 71 22 (nI (pz (dg (itn P.n i)) P.n))) (q7.up (Or.inr ⟨rfl, by omega⟩)) (by rw [pu_up1, ep2]) (fun k hk => by rw [om_up_n _ _ (by decide)]; exact row7 k hk)
        rw [ep2, epi] at this
        exact this
    · show vp_in (nI m) 7 ∧ vp_in ((7 : Int32) * M6.1 71 9 + nI m) 154 ∧ K2 (om_up M6 77 ((7 : Int32) * M6.1 71 9 + nI m).toNatClampNeg (M6.1 87 (nI m).toNatClampNeg), nI m + 1)
      rw [e9b, i7, nI_clamp (n := 7 * P.T + m) (by omega), nI_clamp (n := m) (by omega)]
      refine ⟨pk_in m 7 (by omega), pk_in (7 * P.T + m) 154 (by omega), hK2 hlt _ ⟨nI_1 m, a1.up (Or.inl (by decide)), fun q hq => by rw [om_up_n _ _ hq]; exact a2 q hq, fun j hj => by rw [pu_up2 (by omega)]; exact a3 j hj, fun k hk => ?_⟩⟩
      by_cases z : k = m
      · subst z
        rw [pu_up1]
        rw [show M6.1 87 = _ from a2 87 (by decide), om_up_n _ _ (by decide), om_up_n _ _ (by decide)]
      · rw [pu_up2 (by omega)]; exact a4 k (by omega)
theorem II.changed {M M1 M2 : om_M} {x : Int32} {v : Int64} (h : II M) (h1 : cw M M1) (h2 : mqc (om_up (om_ul (om_up M1 0 3 x) 89 0 v) 71 0 0) M2) (h3 : M2.1 71 22 = x) : II M2 := by
  obtain ⟨⟨P, hg, hP, hM⟩, a1, a2, a3, a4⟩ := id h
  have t1 := h1.2.2 h.ta
  have o1 : ∀ q, (1 ≤ q ∧ q ≤ 20) ∨ (72 ≤ q ∧ q ≤ 76) → M2.1 q = M.1 q := fun q hq => by
    rw [h2.1 q (by omega), om_up_n _ _ (by omega)]
    show (om_up M1 0 3 x).1 q = _
    rw [om_up_n _ _ (by omega)]
    exact h1.1 q (by omega)
  have o2 : ∀ k, k ≠ 0 → k ≠ 8 → k ≠ 9 → k ≠ 22 → M2.1 71 k = M.1 71 k := fun k p q r s => by
    rw [h2.2.1 k q r s, pu_up2 p]
    show (om_up M1 0 3 x).1 71 k = _
    rw [om_up_n _ _ (by omega), h1.1 71 (by omega)]
  have o0 : ∀ k, M2.1 0 k = (om_up M1 0 3 x).1 0 k := fun k => by
    rw [h2.1 0 (by omega), om_up_n _ _ (by omega)]
    rfl
  have o3 : ∀ q, 39 ≤ q → q < 48 → M2.1 q = M1.1 q := fun q hq hq2 => by
    rw [h2.1 q (by omega), om_up_n _ _ (by omega)]
    show (om_up M1 0 3 x).1 q = _
    rw [om_up_n _ _ (by omega)]
  refine ⟨⟨P, hg, hP.congr (fun q _ _ => o1 q (by omega)), hM.congr (fun q _ _ => o1 q (by omega)) (o2 1 (by decide) (by decide) (by decide) (by decide)) (o2 2 (by decide) (by decide) (by decide) (by decide))⟩, ?_, ?_, ?_, fun c hc => ?_⟩
  · rw [o0, pu_up1, h3]
  · rw [o0, pu_up2 (by decide), o2 23 (by decide) (by decide) (by decide) (by decide), h1.1 0 (by omega)]; exact a2
  · rw [o3 39 (by decide) (by decide)]; exact t1.1
  · rw [o3 _ (by omega) (by omega)]; exact t1.2 c hc
theorem wl_16_eq {F : Nat} {a1 a2 a3 : Int32} {M : om_M} {I : om_M → Prop} : wl_16 F 0 71 89 a1 a2 a3 M I = wp_L_change F 0 a1 a2 a3 89 1 M (fun r2 M1 => wp_M_change F 71 a1 a2 a3 M1 (fun r4 M3 => lt_i I r2 r4 M3)) := rfl
theorem iv_16 {F : Nat} (hF : 100000000 ≤ F) (M : om_M) (a1 a2 a3 : Int32) (h : II M) : wl_16 F 0 71 89 a1 a2 a3 M II := by
  rw [wl_16_eq]
  obtain ⟨⟨P, hg, hP, hM⟩, -⟩ := id h
  have hn := hg.gn
  have hn2 : 2 ≤ P.n := hg.1
  have hT := hg.gT
  have g1 : ∀ v : Int32, wp_M_change_49 F 71 a1 a2 a3 (fun r4 M3 => lt_i II 1 r4 M3) M 71 0 v := fun v => sp_goes (fun _ => ⟨fun _ => lt_bad (by decide) pu_up1 h.thrown, fun e => absurd rfl e⟩) (fun e => absurd rfl e) (fun e => absurd rfl e)
  have badm : ((∀ c, c < 12 → a1 ≠ nI c) ∨ (∀ c, c < P.T → a2 ≠ nI c)) → wp_M_change F 71 a1 a2 a3 M (fun r4 M3 => lt_i II 1 r4 M3) := by
    intro hb
    have fin : wp_M_change_20 F 71 a1 a2 a3 (fun r4 M3 => lt_i II 1 r4 M3) M 71 := by
      refine sp_misType (T := P.T) hM.2.1 (by omega) (fun t ht e => ⟨fun e => absurd e (by decide), fun _ => ⟨fun _ => g1 0, fun _ => ?_⟩⟩) (fun _ => ⟨fun _ => g1 0, fun e => absurd rfl e⟩)
      subst e
      exact ⟨pk_in t 20 (by omega), fun _ => g1 0, fun _ => g1 1⟩
    refine sp_misRule (fun a ha e => ⟨fun e => absurd e (by decide), fun _ => ?_⟩) (fun _ => ⟨fun _ => fin, fun e => absurd rfl e⟩)
    exact sp_misType (T := P.T) hM.2.1 (by omega) (fun b hb2 e2 => hb.elim (fun q => absurd e (q a ha)) (fun q => absurd e2 (q b hb2))) (fun _ => ⟨fun _ => fin, fun e => absurd rfl e⟩)
  refine sp_isRule (fun r hr e => ⟨fun e => absurd e (by decide), fun _ => ?_⟩) (fun q => ⟨fun _ => ⟨fun _ => ⟨fun _ => badm (Or.inl q), fun e => absurd rfl e⟩, fun e => absurd rfl e⟩, fun e => absurd rfl e⟩)
  refine sp_isType hP.2.1 (by omega) (fun t ht e2 => ⟨fun e => absurd e (by decide), fun _ => ⟨fun e => absurd e (by decide), fun _ => ?_⟩⟩) (fun q => ⟨fun _ => ⟨fun _ => ⟨fun _ => badm (Or.inr q), fun e => absurd rfl e⟩, fun e => absurd rfl e⟩, fun e => absurd rfl e⟩)
  subst e e2
  have ham := hg.ga t ht
  have bad2 : (a3 < 1 ∨ nI (P.am t) < a3) → wp_D_change_45 F 0 (nI r) (nI t) a3 (fun r3 M1 => vp_in 0 1 ∧ wp_M_change F 71 (nI r) (nI t) a3 (om_ul M1 89 (0 : Int32).toNatClampNeg ((r3 : Int32).toInt64)) (fun r4 M3 => lt_i II 0 r4 M3)) (fun k M2 => ((k = 0 → wp_M_change F 71 (nI r) (nI t) a3 M2 (fun r4 M3 => lt_i II 1 r4 M3)) ∧ (¬ k = 0 → ((k = 1 → wp_M_change F 71 (nI r) (nI t) a3 M2 (fun r4 M3 => lt_i II 2 r4 M3)) ∧ (¬ k = 1 → False))))) M := by
    intro hb
    refine ⟨fun _ => ⟨fun e => absurd e (by decide), fun _ => ⟨fun _ => ?_, fun e => absurd rfl e⟩⟩, fun e => absurd rfl e⟩
    have g2 : wp_M_change_48 F 71 (nI r) (nI t) a3 (fun r4 M3 => lt_i II 2 r4 M3) M 71 1 := sp_goes (fun e => absurd e (by decide)) (fun _ _ => ⟨fun _ => lt_bad (by decide) pu_up1 h.thrown, fun e => absurd rfl e⟩) (fun _ e => absurd rfl e)
    refine sp_misRule (fun _ _ _ => ⟨fun e => absurd e (by decide), fun _ => ?_⟩) (fun q => absurd rfl (q r hr))
    refine sp_misType (T := P.T) hM.2.1 (by omega) (fun _ _ _ => ⟨fun e => absurd e (by decide), fun _ => ?_⟩) (fun q => absurd rfl (q t ht))
    refine sp_misType (T := P.T) hM.2.1 (by omega) (fun _ _ _ => ⟨fun e => absurd e (by decide), fun _ => ⟨fun _ => g2, fun q1 => ⟨pk_in t 20 (by omega), fun _ => g2, fun q2 => ?_⟩⟩⟩) (fun q => absurd rfl (q t ht))
    rw [nI_clamp (n := t) (by omega), show M.1 (71 + 2) t = _ from hM.2.2.2.1 t ht] at q2
    exact hb.elim (fun z => absurd z q1) (fun z => absurd z q2)
  refine ⟨fun q => bad2 (Or.inl q), fun q1 => ⟨pk_in t 21 (by omega), ?_⟩⟩
  rw [nI_clamp (n := t) (by omega), show M.1 (0 + 1 + 2) t = _ from hP.2.2.2.2.2.1 t ht]
  refine ⟨fun q => bad2 (Or.inr q), fun q2 => ⟨fun e => absurd e (by decide), fun _ => ?_⟩⟩
  obtain ⟨mv, hmv, rfl⟩ := nI_of (x := a3) (fun z => q1 (Int32.lt_trans z (by decide)))
  have hm : mv ≤ P.am t := by
    rcases Nat.lt_or_ge (P.am t) mv with z | z
    · exact absurd (nI_lt z hmv) q2
    · exact z
  obtain ⟨L, hL1, hL2, hL3, hL4⟩ := all_orders hn2 hn
  have hall := rfd_in hg hr ht hm (mv := mv) (L + 1) (fun m hm2 => hL4 m (by omega))
  refine sp_better hP hg h.ta hr ht hm hL1 hL2 hL3 hL4 (by omega) (fun M1 c1 e3 => ?_)
  /- the model, whatever the class has answered -/
  have model : ∀ y : Int32, ((rfd P r t mv (L + 1)).1 < (rfd P r t mv 0).1 → y = nI ((rfd P r t mv (L + 1)).1 + 1)) → (¬ (rfd P r t mv (L + 1)).1 < (rfd P r t mv 0).1 → y = 0) → wp_M_change F 71 (nI r) (nI t) (nI mv) (om_ul (om_up M1 0 3 (rfd P r t mv (L + 1)).2) 89 0 y.toInt64) (fun r4 M3 => lt_i II 0 r4 M3) := by
    intro y y1 y0
    have hM1 : RM (om_ul (om_up M1 0 3 (rfd P r t mv (L + 1)).2) 89 0 y.toInt64) P := by
      have o : ∀ q, 71 ≤ q → (om_ul (om_up M1 0 3 (rfd P r t mv (L + 1)).2) 89 0 y.toInt64).1 q = M.1 q := fun q hq => by
        show (om_up M1 0 3 (rfd P r t mv (L + 1)).2).1 q = _
        rw [om_up_n _ _ (by omega)]
        exact c1.1 q (by omega)
      exact hM.congr (fun q _ _ => o q (by omega)) (by rw [o 71 (by omega)]) (by rw [o 71 (by omega)])
    refine sp_misRule (fun _ _ _ => ⟨fun e => absurd e (by decide), fun _ => ?_⟩) (fun q => absurd rfl (q r hr))
    refine sp_misType (T := P.T) hM1.2.1 (by omega) (fun _ _ _ => ⟨fun e => absurd e (by decide), fun _ => ?_⟩) (fun q => absurd rfl (q t ht))
    refine sp_misType (T := P.T) hM1.2.1 (by omega) (fun _ _ _ => ⟨fun e => absurd e (by decide), fun _ => ⟨fun z => absurd z q1, fun _ => ⟨pk_in t 20 (by omega), ?_⟩⟩⟩) (fun q => absurd rfl (q t ht))
    rw [nI_clamp (n := t) (by omega), show (om_ul (om_up M1 0 3 (rfd P r t mv (L + 1)).2) 89 0 y.toInt64).1 (71 + 2) t = _ from hM1.2.2.2.1 t ht]
    refine ⟨fun z => absurd z q2, fun _ => ?_⟩
    refine sp_goes (fun e => absurd e (by decide)) (fun _ e => absurd e (by decide)) (fun _ _ => ⟨fun e => absurd e (by decide), fun _ => ?_⟩)
    refine sp_mchange (L := L) hM1.up0 hg hr ht hm hL2 hL1 hL3 hL4 hF (fun M2 z m1 m2 z1 z0 => ?_)
    have ezy : z = y := by
      by_cases w : (rfd P r t mv (L + 1)).1 < (rfd P r t mv 0).1
      · rw [z1 w, y1 w]
      · rw [z0 w, y0 w]
    subst ezy
    refine lt_ok ?_ ?_ (h.changed c1 m1 m2)
    · rw [m1.2.1 0 (by decide) (by decide) (by decide)]; exact pu_up1
    · rw [m1.2.2]; exact ul_out (M := om_up M1 0 3 (rfd P r t mv (L + 1)).2)
  show (((om_up M1 0 3 (rfd P r t mv (L + 1)).2).1 0 3 = -1 → _) ∧ (¬ (om_up M1 0 3 (rfd P r t mv (L + 1)).2).1 0 3 = -1 → _))
  rw [pu_up1]
  refine ⟨fun e => ⟨pk_in 0 1 (by decide), model 0 (fun w => ?_) (fun _ => rfl)⟩, fun ne => ⟨pk_in 0 1 (by decide), ?_⟩⟩
  · rcases hall.2 with ⟨-, z⟩ | ⟨⟨a, ha, z⟩, -⟩
    · omega
    · rw [z] at e
      exact absurd (e ▸ (show (-1 : Int32) < 0 by decide)) (nI_pos ha)
  · have e4 : (om_up M1 0 3 (rfd P r t mv (L + 1)).2).1 (0 + 21) 3 = nI (rfd P r t mv (L + 1)).1 := by
      rw [om_up_n _ _ (by decide)]; exact e3
    rw [e4, nI_1]
    refine model _ (fun _ => rfl) (fun w => ?_)
    rcases hall.2 with ⟨z, -⟩ | ⟨-, z⟩
    · exact absurd z ne
    · exact absurd z w
