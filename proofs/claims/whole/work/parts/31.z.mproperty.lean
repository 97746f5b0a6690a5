/-! property: the model, and the call -/
/-- what a question of the model changes when it is asked once more -/
theorem mq.RM {M M' : om_M} {P : pv} (h : mq M M') (g : RM M P) : RM M' P := g.congr (fun q _ _ => h.1 q (by omega)) (h.2.1 1 (by decide) (by decide) (by decide)) (h.2.1 2 (by decide) (by decide) (by decide))
def mq0 (M M' : om_M) : Prop := mq M M' ∧ M'.1 71 0 = M.1 71 0
theorem mq0.trans {M M' M'' : om_M} (h : mq0 M M') (g : mq0 M' M'') : mq0 M M'' := ⟨h.1.trans g.1, g.2.trans h.2⟩
theorem mq0.refl {M : om_M} : mq0 M M := ⟨mq.refl, rfl⟩
theorem ml.mq0 {M M' : om_M} (h : ml M M') : mq0 M M' := ⟨h.mq, h.2.1 0 (by decide) (by decide)⟩
theorem mw.mq0 {M M' : om_M} (h : mw M M') : mq0 M M' := ⟨h.mq, by rw [h.1 71 (by omega)]⟩
theorem sp_mpairs {F r p : Nat} {P : pv} {M : om_M} {Q : Int32 → om_M → Prop} (hM : RM M P) (hg : good 20 100000 P) (hr : r < 12) (hp : p < 2) (hF : 100000000 ≤ F) (h : ∀ M' x, mq0 M M' → Fst P.n (if p = 0 then b0 P r else b1 P r) x → Q x M') : wp_M_brokenByPairs F 71 (nI r) (nI p) M Q := by
  have hn := hg.gn
  refine sp_load hM hn hg.gT (by omega) (fun M1 k1 k2 => sp_work2 k2 hg.gd hr hF (fun M2 x l1 l2 hx => ?_))
  have q2 : mq0 M M2 := k1.mq0.trans l1.mq0
  have e8 : M2.1 71 8 = nI P.n := (l1.RL k2).1
  refine pu_loop P.n (fun c z => z = (M2, nI c) ∧ ∀ c', c' < c → ¬ (if p = 0 then b0 P r else b1 P r) c') (fun c z K hi hJ hK => ?_) (i := 0) (by omega) (by omega) ⟨rfl, fun c hc => absurd hc (by omega)⟩
  obtain ⟨rfl, hj⟩ := hJ
  have next : c < P.n → ¬ (if p = 0 then b0 P r else b1 P r) c → K (M2, nI c + 1) := fun hc q => hK hc _ ⟨by rw [nI_1], fun c' hc' => by
    by_cases z : c' = c
    · subst z; exact q
    · exact hj c' (by omega)⟩
  refine pk_le P.n c (fun hle => h M2 _ q2 (Or.inl ⟨rfl, fun c' hc' => hj c' (by omega)⟩)) (fun hc => pk_eq p 0 (fun e => ?_) (fun ne => ?_)) (q2.1.RM hM).1
  · subst e
    rw [if_pos rfl] at *
    have no : ¬ b0 P r c → wp_M_brokenByPairs_48 F 71 (nI r) (nI 0) Q x K M2 (nI c) := fun q => ⟨fun _ => next hc q, fun z => absurd rfl z⟩
    refine sp_over2 (P.bt c) e8 l2 hg.gd hc (Or.inr ⟨by decide, fun b => Iff.rfl⟩) (by omega) (fun hall => ⟨fun z => absurd z (by decide), fun _ => ?_⟩) (fun hn2 => ⟨fun _ => no (fun z => hn2 z.1), fun z => absurd rfl z⟩)
    have one := iS.one hn hc
    refine ⟨fun e => no (fun z => z.2 ?_), fun ne => ⟨fun z => absurd z (by decide), fun _ => h M2 _ q2 (Or.inr ⟨c, hc, rfl, ⟨hall, fun z => ne (hx.uniq one z)⟩, hj⟩)⟩⟩
    rw [e] at hx
    exact hx.same hn one
  · rw [if_neg ne] at *
    have no : ¬ b1 P r c → wp_M_brokenByPairs_76 F 71 (nI r) (nI p) Q x K M2 (nI c) := fun q => ⟨fun _ => next hc q, fun z => absurd rfl z⟩
    refine sp_over2 (fun b => P.bt b c) e8 l2 hg.gd hc (Or.inl ⟨rfl, fun b => Iff.rfl⟩) (by omega) (fun hall => ⟨fun z => absurd z (by decide), fun _ => ?_⟩) (fun hn2 => ⟨fun _ => no (fun z => hn2 z.1), fun z => absurd rfl z⟩)
    exact hx.br1 hn hc (fun hp => ⟨fun z => absurd z (by decide), fun _ => h M2 _ q2 (Or.inr ⟨c, hc, rfl, ⟨hall, hp⟩, hj⟩)⟩) (fun np => no (fun z => np z.2))
theorem RL.am {M : om_M} {P : pv} {t v : Nat} (h : RL M P) : RL (om_up M (71 + 7) t (nI v)) (P.rep t (P.od t) v) := by
  obtain ⟨q1, q2, q3, q4, q5, q6, q7⟩ := h
  refine ⟨?_, ?_, fun s k hs hk => ?_, fun s hs => ?_, fun k hk => ?_, fun k hk => ?_, fun k hk => ?_⟩
  · rw [om_up_n _ _ (by decide)]; exact q1
  · rw [om_up_n _ _ (by decide)]; exact q2
  · rw [om_up_n _ _ (by decide), q3 s k hs hk]
    show nI (P.od s k) = nI (uf P.od t (P.od t) s k)
    rw [uf_id]
  · show _ = nI (uf P.am t v s)
    by_cases e : s = t
    · subst e; rw [pu_up1, uf_s]
    · rw [pu_up2 e, uf_n e]; exact q4 s hs
  · rw [om_up_n _ _ (by decide)]; exact q5 k hk
  · rw [om_up_n _ _ (by decide)]; exact q6 k hk
  · rw [om_up_n _ _ (by decide)]; exact q7 k hk
theorem RL.od {M : om_M} {P : pv} {t p : Nat} (h : RL M P) (hn : P.n ≤ 7) (hp : p < P.n) (hp0 : 0 < p) : RL (om_up (om_up M (71 + 6) (7 * t + p) (nI (P.od t (p - 1)))) (71 + 6) (7 * t + (p - 1)) (nI (P.od t p))) (P.rep t (rs (P.od t) p) (P.am t)) := by
  obtain ⟨q1, q2, q3, q4, q5, q6, q7⟩ := h
  refine ⟨?_, ?_, fun s k hs hk => ?_, fun s hs => ?_, fun k hk => ?_, fun k hk => ?_, fun k hk => ?_⟩
  · rw [om_up_n _ _ (by decide), om_up_n _ _ (by decide)]; exact q1
  · rw [om_up_n _ _ (by decide), om_up_n _ _ (by decide)]; exact q2
  · have hk7 : k < P.n := hk
    show _ = nI (uf P.od t (rs (P.od t) p) s k)
    by_cases e : s = t
    · subst e
      rw [uf_s, show rs (P.od s) p = uf (uf (P.od s) p (P.od s (p - 1))) (p - 1) (P.od s p) from if_neg (by omega)]
      by_cases z1 : k = p - 1
      · subst z1; rw [pu_up1, uf_s]
      · rw [pu_up2 (by omega), uf_n z1]
        by_cases z2 : k = p
        · subst z2; rw [pu_up1, uf_s]
        · rw [pu_up2 (by omega), uf_n z2]; exact q3 s k hs hk
    · rw [uf_n e, pu_up2 (by omega), pu_up2 (by omega)]; exact q3 s k hs hk
  · rw [om_up_n _ _ (by decide), om_up_n _ _ (by decide), q4 s hs]
    show nI (P.am s) = nI (uf P.am t (P.am t) s)
    rw [uf_id]
  · rw [om_up_n _ _ (by decide), om_up_n _ _ (by decide)]; exact q5 k hk
  · rw [om_up_n _ _ (by decide), om_up_n _ _ (by decide)]; exact q6 k hk
  · rw [om_up_n _ _ (by decide), om_up_n _ _ (by decide)]; exact q7 k hk
theorem mq0.up {M M' : om_M} {o k : Nat} {v : Int32} (h : mq0 M M') (ho : 77 ≤ o ∧ o < 89) : mq0 M (om_up M' o k v) := ⟨⟨fun q hq => by rw [om_up_n _ _ (by omega)]; exact h.1.1 q hq, fun j h0 h1 h2 => by rw [om_up_n _ _ (by omega)]; exact h.1.2.1 j h0 h1 h2, h.1.2.2⟩, by rw [om_up_n _ _ (by omega)]; exact h.2⟩
theorem sp_mtypes {F r p : Nat} {P : pv} {M : om_M} {Q : Int32 → om_M → Prop} (hM : RM M P) (hg : good 20 100000 P) (hr : r < 12) (hp : p = 2 ∨ p = 3) (hF : 100000000 ≤ F) (h : ∀ M' x w, mq0 M M' → isW P r w → Fst P.T (if p = 2 then b2 P r w else b3 P r w) x → Q x M') : wp_M_brokenByType F 71 (nI r) (nI p) M Q := by
  have hn := hg.gn
  have hT := hg.gT
  refine sp_load hM hn hT (by omega) (fun M1 k1 k2 => sp_work k2 hg.gd hr hF (fun M2 x l1 hx => sp_firstOf (l1.RL k2) hg.gd hx (Win.ex hg.gd hr) (by omega) (fun kw hkw => ?_)))
  have hw : isW P r (P.ti kw) := ⟨kw, hkw, rfl⟩
  obtain ⟨w, ew⟩ : ∃ w, w = P.ti kw := ⟨_, rfl⟩
  rw [← ew] at hw ⊢
  have hwn := (hw.lt hg.gd).1
  have q2 : mq0 M M2 := k1.mq0.trans l1.mq0
  refine pu_loop P.T (fun t z => z.2 = nI t ∧ mq0 M z.1 ∧ ∀ t', t' < t → ¬ (if p = 2 then b2 P r w else b3 P r w) t') (fun t z K hi hJ hK => ?_) (i := 0) (by omega) (by omega) ⟨rfl, q2, fun t ht => absurd ht (by omega)⟩
  obtain ⟨M3, y⟩ := z
  obtain ⟨rfl, j1, j2⟩ := hJ
  have hM3 := j1.1.RM hM
  refine pk_le P.T t (fun hle => h M3 _ w j1 hw (Or.inl ⟨rfl, fun t' ht' => j2 t' (by omega)⟩)) (fun ht => ?_) hM3.2.1
  have ho := hg.go t ht
  have ham := hg.ga t ht
  refine sp_load hM3 hn hT (by omega) (fun M4 n1 n2 => sp_mplaceOf n2 hg.gd ht hwn (by omega) (fun kp hkp ekp => ?_))
  have q4 : mq0 M M4 := j1.trans n1.mq0
  have eix : ixp P.n (P.od t) w = kp := by rw [← ekp]; exact ixp_eq ho hkp
  /- the end: the poll P' is worked on -/
  have fin : ∀ (M5 : om_M) (P' : pv), mq0 M M5 → RL M5 P' → gd P' → P'.n = P.n → ((¬ isW P' r w) → (if p = 2 then b2 P r w else b3 P r w) t) → (isW P' r w → ¬ (if p = 2 then b2 P r w else b3 P r w) t) → wp_M_work F 71 (nI r) M5 (fun r3 M2 => wp_M_firstOf F 71 r3 M2 (fun r5 M4 => ((r5 = nI w → K (M4, nI t + 1)) ∧ (¬ r5 = nI w → Q (nI t) M4)))) := by
    intro M5 P' z1 z2 z3 z4 z5 z6
    refine sp_work z2 z3 hr hF (fun M6 x6 y1 y2 => sp_firstOf (y1.RL z2) z3 y2 (Win.ex z3 hr) (by omega) (fun k6 hk6 => ?_))
    have hk2 : isW P' r (P'.ti k6) := ⟨k6, hk6, rfl⟩
    have hkl := (hk2.lt z3).1
    refine pk_eq (P'.ti k6) w (fun e => hK ht _ ⟨by rw [nI_1], z1.trans y1.mq0, fun t' ht' => ?_⟩) (fun ne => h M6 _ w (z1.trans y1.mq0) hw (Or.inr ⟨t, ht, rfl, z5 (fun z => ne (hk2.uniq z)), j2⟩))
    by_cases z : t' = t
    · subst z; exact z6 (e ▸ hk2)
    · exact j2 t' (by omega)
  have same : ∀ (M5 : om_M) (P' : pv), mq0 M M5 → RL M5 P' → P'.am t = P.am t → t < P'.T → gd P' → P'.n = P.n → ((¬ isW P' r w) → (if p = 2 then b2 P r w else b3 P r w) t) → (isW P' r w → ¬ (if p = 2 then b2 P r w else b3 P r w) t) → wp_M_brokenByType_121 F 71 (nI r) (nI p) Q (nI w) K M5 (nI t) (71 + 7) (nI t) := by
    intro M5 P' z1 z2 za zt z3 z4 z5 z6
    refine ⟨pk_in t 22 (by omega), pk_in t 22 (by omega), ?_⟩
    rw [nI_clamp (n := t) (by omega), z2.2.2.2.1 t zt]
    refine fin _ P' (z1.up (by omega)) ?_ z3 z4 z5 z6
    have := z2.am (t := t) (v := P'.am t)
    rw [rep_id] at this
    exact this
  rcases hp with rfl | rfl
  · simp only [if_true] at *
    have b2i : ∀ P', P' = P.rep t (rs (P.od t) kp) (P.am t) → ((¬ isW P' r w) ↔ b2 P r w t) := fun P' e => by
      unfold b2
      rw [eix, e]
    refine ⟨fun _ => ?_, fun z => absurd rfl z⟩
    refine pk_le kp 0 (fun hle => ?_) (fun hgt => ?_)
    · have ek : kp = 0 := by omega
      have er : P = P.rep t (rs (P.od t) kp) (P.am t) := by
        rw [show rs (P.od t) kp = P.od t from if_pos ek, rep_id]
      refine ⟨fun z => absurd z (by decide), fun _ => same M4 P q4 n2 rfl ht hg.gd rfl (fun z => (b2i P er).mp z) (fun z y => (b2i P er).mpr y z)⟩
    · have e1 : (7 : Int32) * nI t + nI kp - 1 = nI (7 * t + (kp - 1)) := by
        rw [i7, show nI (7 * t + kp) - 1 = nI (7 * t + kp - 1) from pk_sub (a := 7 * t + kp) (b := 1) (by omega)]
        congr 1
        omega
      rw [e1, i7, nI_clamp (n := 7 * t + kp) (by omega), nI_clamp (n := 7 * t + (kp - 1)) (by omega), n2.2.2.1 t (kp - 1) ht (by omega)]
      refine ⟨pk_in (7 * t + (kp - 1)) 154 (by omega), pk_in (7 * t + kp) 154 (by omega), ⟨fun z => absurd z (by decide), fun _ => ?_⟩⟩
      have hrl := n2.od (t := t) hn hkp hgt
      rw [ekp] at hrl
      exact same _ (P.rep t (rs (P.od t) kp) (P.am t)) ((q4.up (by omega)).up (by omega)) hrl uf_s ht (rep_gd hg.gd (rs_is ho hkp) (am_ok hg ht (by omega))) rfl (fun z => (b2i _ rfl).mp z) (fun z y => (b2i _ rfl).mpr y z)
  · simp only [show ¬ (3 = 2) by decide, if_false] at *
    refine ⟨fun z => absurd z (by decide), fun _ => ⟨fun _ => ?_, fun z => absurd rfl z⟩⟩
    refine pk_eq kp 0 (fun e => ⟨pk_in t 22 (by omega), pk_in t 22 (by omega), ?_⟩) (fun ne => same M4 P q4 n2 rfl ht hg.gd rfl (fun z => absurd hw z) (fun _ z => ?_))
    · rw [nI_clamp (n := t) (by omega), n2.2.2.2.1 t ht, nI_1]
      have e0 : P.od t 0 = w := by rw [← e]; exact ekp
      exact fin _ (P.rep t (P.od t) (P.am t + 1)) (q4.up (by omega)) n2.am (rep_gd hg.gd ho (am_ok hg ht (by omega))) rfl (fun z => ⟨e0, z⟩) (fun z y => y.2 z)
    · exact ne (ho.2 kp 0 hkp (by omega) (ekp.trans z.1.symm))
theorem sp_mleaving {F r : Nat} {P : pv} {M : om_M} {Q : Int32 → om_M → Prop} (hM : RM M P) (hg : good 20 100000 P) (hr : r < 12) (hF : 100000000 ≤ F) (h : ∀ M' x w, mq0 M M' → isW P r w → Fst P.n (b4 P r w) x → Q x M') : wp_M_brokenByLeaving F 71 (nI r) M Q := by
  have hn := hg.gn
  have hn2 : 2 ≤ P.n := hg.1
  refine sp_load hM hn hg.gT (by omega) (fun M1 k1 k2 => sp_work k2 hg.gd hr hF (fun M2 x l1 hx => sp_firstOf (l1.RL k2) hg.gd hx (Win.ex hg.gd hr) (by omega) (fun kw hkw => ?_)))
  have hw : isW P r (P.ti kw) := ⟨kw, hkw, rfl⟩
  obtain ⟨w, ew⟩ : ∃ w, w = P.ti kw := ⟨_, rfl⟩
  rw [← ew] at hw ⊢
  have hwn := (hw.lt hg.gd).1
  have q2 : mq0 M M2 := k1.mq0.trans l1.mq0
  refine pu_loop P.n (fun c z => z.2 = nI c ∧ mq0 M z.1 ∧ ∀ c', c' < c → ¬ b4 P r w c') (fun c z K hi hJ hK => ?_) (i := 0) (by omega) (by omega) ⟨rfl, q2, fun c hc => absurd hc (by omega)⟩
  obtain ⟨M3, y⟩ := z
  obtain ⟨rfl, j1, j2⟩ := hJ
  have hM3 := j1.1.RM hM
  have next : ∀ M4, mq0 M M4 → ¬ b4 P r w c → c < P.n → wp_M_brokenByLeaving_83 F 71 (nI r) Q x (nI w) K M4 (nI c) := fun M4 q1 q2 hc => hK hc _ ⟨by rw [nI_1], q1, fun c' hc' => by
    by_cases z : c' = c
    · subst z; exact q2
    · exact j2 c' (by omega)⟩
  refine pk_le P.n c (fun hle => h M3 _ w j1 hw (Or.inl ⟨rfl, fun c' hc' => j2 c' (by omega)⟩)) (fun hc => pk_le P.n 2 (fun h2 => h M3 _ w j1 hw (Or.inl ⟨rfl, fun c' _ z => by have := z.1; omega⟩)) (fun h2 => hx.br0 hn hc (fun np => ?_) (fun hp => next M3 j1 (fun z => z.2.1 hp) hc)) hM3.1) hM3.1
  refine sp_load hM3 hn hg.gT (by omega) (fun M4 n1 n2 => sp_leaveOut n2 hg.gd hc (by omega) (fun M5 n3 n4 => ?_))
  have hgd := wo_gd hg.gd hc h2
  have q5 : mq0 M M5 := (j1.trans n1.mq0).trans n3.mq0
  refine sp_work n4 hgd hr hF (fun M6 x6 y1 y2 => sp_firstOf (y1.RL n4) hgd y2 (Win.ex hgd hr) (by omega) (fun k6 hk6 => ?_))
  have q6 : mq0 M M6 := q5.trans y1.mq0
  have hk2 : isW (P.wo c) r ((P.wo c).ti k6) := ⟨k6, hk6, rfl⟩
  have hkl : (P.wo c).ti k6 < P.n - 1 := (hk2.lt hgd).1
  have hdn : dn c w ≤ w := by unfold dn; split <;> omega
  have fin : ∀ v, v = dn c w → wp_M_brokenByLeaving_77 F 71 (nI r) Q x (nI w) K M6 (nI c) (nI ((P.wo c).ti k6)) (nI v) := fun v hv => by
    subst hv
    exact pk_eq ((P.wo c).ti k6) (dn c w) (fun e => next M6 q6 (fun z => z.2.2 (e ▸ hk2)) hc) (fun ne => h M6 _ w q6 hw (Or.inr ⟨c, hc, rfl, ⟨h2, np, fun z => ne (hk2.uniq z)⟩, j2⟩))
  refine pk_le w c (fun q => fin w (if_neg (by omega)).symm) (fun q => ?_)
  rw [show nI w - 1 = nI (w - 1) from pk_sub (a := w) (b := 1) (by omega)]
  exact fin (w - 1) (if_pos q).symm
theorem wl_18_eq {F : Nat} {a1 a2 a3 : Int32} {M : om_M} {I : om_M → Prop} : wl_18 F 0 71 89 a1 a2 a3 M I = wp_L_property F 0 a1 a2 89 1 M (fun r2 M1 => wp_M_property F 71 a1 a2 M1 (fun r4 M3 => lt_b I r2 r4 M3)) := rfl
/-- both sides keep the witness -/
theorem II.witnessed {M M1 M2 : om_M} {x : Int32} {v : Int64} (h : II M) (h1 : cw M M1) (h2 : mq0 (om_up (om_ul (om_up M1 0 4 x) 89 0 v) 71 0 0) M2) : II (om_up M2 71 23 x) := by
  obtain ⟨⟨P, hg, hP, hM⟩, a1, a2, a3, a4⟩ := id h
  have t1 := h1.2.2 h.ta
  have o1 : ∀ q, (1 ≤ q ∧ q ≤ 20) ∨ (72 ≤ q ∧ q ≤ 76) → (om_up M2 71 23 x).1 q = M.1 q := fun q hq => by
    rw [om_up_n _ _ (by omega), h2.1.1 q (by omega), om_up_n _ _ (by omega)]
    show (om_up M1 0 4 x).1 q = _
    rw [om_up_n _ _ (by omega)]
    exact h1.1 q (by omega)
  have o2 : ∀ k, k ≠ 0 → k ≠ 8 → k ≠ 9 → k ≠ 23 → (om_up M2 71 23 x).1 71 k = M.1 71 k := fun k p q r s => by
    rw [pu_up2 s, h2.1.2.1 k p q r, pu_up2 p]
    show (om_up M1 0 4 x).1 71 k = _
    rw [om_up_n _ _ (by omega), h1.1 71 (by omega)]
  have o0 : ∀ k, (om_up M2 71 23 x).1 0 k = (om_up M1 0 4 x).1 0 k := fun k => by
    rw [om_up_n _ _ (by omega), h2.1.1 0 (by omega), om_up_n _ _ (by omega)]
    rfl
  have o3 : ∀ q, 39 ≤ q → q < 48 → (om_up M2 71 23 x).1 q = M1.1 q := fun q hq hq2 => by
    rw [om_up_n _ _ (by omega), h2.1.1 q (by omega), om_up_n _ _ (by omega)]
    show (om_up M1 0 4 x).1 q = _
    rw [om_up_n _ _ (by omega)]
  refine ⟨⟨P, hg, hP.congr (fun q _ _ => o1 q (by omega)), hM.congr (fun q _ _ => o1 q (by omega)) (o2 1 (by decide) (by decide) (by decide) (by decide)) (o2 2 (by decide) (by decide) (by decide) (by decide))⟩, ?_, ?_, ?_, fun c hc => ?_⟩
  · rw [o0, pu_up2 (by decide), o2 22 (by decide) (by decide) (by decide) (by decide), h1.1 0 (by omega)]; exact a1
  · rw [o0, pu_up1, pu_up1]
  · rw [o3 39 (by decide) (by decide)]; exact t1.1
  · rw [o3 _ (by omega) (by omega)]; exact t1.2 c hc
theorem iv_18 {F : Nat} (hF : 100000000 ≤ F) (M : om_M) (a1 a2 a3 : Int32) (h : II M) : wl_18 F 0 71 89 a1 a2 a3 M II := by
  rw [wl_18_eq]
  obtain ⟨⟨P, hg, hP, hM⟩, -⟩ := id h
  have hn := hg.gn
  have badm : ((∀ c, c < 12 → a1 ≠ nI c) ∨ (∀ c, c ≤ 4 → a2 ≠ nI c)) → wp_M_property F 71 a1 a2 M (fun r4 M3 => lt_b II 1 r4 M3) := by
    intro hb
    have fin : wp_M_property_21 F 71 a1 a2 (fun r4 M3 => lt_b II 1 r4 M3) M 71 := sp_goes (fun _ => ⟨fun _ => lbt_bad (by decide) pu_up1 h.thrown, fun e => absurd rfl e⟩) (fun e => absurd rfl e) (fun e => absurd rfl e)
    refine sp_misRule (fun a ha e => ⟨fun e => absurd e (by decide), fun _ => ?_⟩) (fun _ => ⟨fun _ => fin, fun e => absurd rfl e⟩)
    exact sp_win0 (n := 4) rfl (by omega) (fun b hb2 e2 => hb.elim (fun q => absurd e (q a ha)) (fun q => absurd e2 (q b hb2))) (fun _ => ⟨fun _ => fin, fun e => absurd rfl e⟩)
  refine sp_isRule (fun r hr e => ⟨fun e => absurd e (by decide), fun _ => ?_⟩) (fun q => ⟨fun _ => ⟨fun _ => ⟨fun _ => badm (Or.inl q), fun e => absurd rfl e⟩, fun e => absurd rfl e⟩, fun e => absurd rfl e⟩)
  subst e
  refine ⟨fun q => ⟨fun _ => ⟨fun _ => badm (Or.inr (fun t ht e => absurd q (e ▸ nI_pos (by omega)))), fun e => absurd rfl e⟩, fun e => absurd rfl e⟩, fun q => ?_⟩
  obtain ⟨p, hp2, rfl⟩ := nI_of q
  refine pk_le 5 p (fun hle => ⟨fun _ => ⟨fun _ => badm (Or.inr (fun s hs e => by have := (nI_eq hp2 (by omega)).mp e; omega)), fun e => absurd rfl e⟩, fun e => absurd rfl e⟩) (fun hp => ⟨fun e => absurd e (by decide), fun _ => ?_⟩)
  /- the model, from where the class has ended -/
  have model : ∀ (M1 : om_M) (x : Int32) (N : Nat) (br : Nat → Prop), cw M M1 → Fst N br x → (∀ (M2 : om_M) (Q : Int32 → om_M → Prop), RM M2 P → (∀ M' y, mq0 M2 M' → Fst N br y → wp_M_property_65 F 71 (nI r) (nI p) Q M' 71 y) → ((2 ≤ nI p → ((4 ≤ nI p → wp_M_brokenByLeaving F 71 (nI r) M2 (fun r4 M3 => wp_M_property_65 F 71 (nI r) (nI p) Q M3 71 r4)) ∧ (¬ 4 ≤ nI p → wp_M_brokenByType F 71 (nI r) (nI p) M2 (fun r6 M5 => wp_M_property_65 F 71 (nI r) (nI p) Q M5 71 r6)))) ∧ (¬ 2 ≤ nI p → wp_M_brokenByPairs F 71 (nI r) (nI p) M2 (fun r8 M7 => wp_M_property_65 F 71 (nI r) (nI p) Q M7 71 r8)))) → wp_D_property_152 F 0 (nI r) (nI p) (fun r4 M2 => ((r4 = 0 → wp_L_property_16 F 0 (nI r) (nI p) 89 1 (fun r2 M1 => wp_M_property F 71 (nI r) (nI p) M1 (fun r4 M3 => lt_b II r2 r4 M3)) M2 89 0 0) ∧ (¬ r4 = 0 → wp_L_property_16 F 0 (nI r) (nI p) 89 1 (fun r2 M1 => wp_M_property F 71 (nI r) (nI p) M1 (fun r4 M3 => lt_b II r2 r4 M3)) M2 89 0 1))) (fun k M3 => ((k = 0 → wp_M_property F 71 (nI r) (nI p) M3 (fun r4 M3 => lt_b II 1 r4 M3)) ∧ (¬ k = 0 → False))) (om_up M1 0 4 x) := by
    intro M1 x N br c1 hx hmod
    have run : ∀ v : Int64, (x = -1 → v = 1) → (¬ x = -1 → v = 0) → wp_M_property F 71 (nI r) (nI p) (om_ul (om_up M1 0 4 x) 89 0 v) (fun r4 M3 => lt_b II 0 r4 M3) := by
      intro v v1 v0
      refine sp_misRule (fun _ _ _ => ⟨fun e => absurd e (by decide), fun _ => ?_⟩) (fun q => absurd rfl (q r hr))
      refine sp_win0 (n := 4) rfl (by omega) (fun _ _ _ => ⟨fun e => absurd e (by decide), fun _ => ?_⟩) (fun q => absurd rfl (q p (by omega)))
      refine sp_goes (fun e => absurd e (by decide)) (fun _ e => absurd e (by decide)) (fun _ _ => ⟨fun e => absurd e (by decide), fun _ => ?_⟩)
      have hM1 : RM (om_ul (om_up M1 0 4 x) 89 0 v) P := by
        have o : ∀ q, 71 ≤ q → (om_ul (om_up M1 0 4 x) 89 0 v).1 q = M.1 q := fun q hq => by
          show (om_up M1 0 4 x).1 q = _
          rw [om_up_n _ _ (by omega)]
          exact c1.1 q (by omega)
        exact hM.congr (fun q _ _ => o q (by omega)) (by rw [o 71 (by omega)]) (by rw [o 71 (by omega)])
      refine hmod _ _ (RM.up0 hM1) (fun M2 y m1 hy => ?_)
      have exy : y = x := hy.uniq hx
      subst exy
      have e0 : (om_up M2 71 23 y).1 71 0 = 0 := by rw [pu_up2 (by decide), m1.2]; exact pu_up1
      have e2 : (om_up M2 71 23 y).2 89 0 = v := by
        show M2.2 89 0 = v
        rw [m1.1.2.2]; exact ul_out (M := om_up M1 0 4 y)
      have eI := h.witnessed c1 m1
      unfold wp_M_property_65
      rw [pu_up1]
      exact ⟨fun e => lbt_ok e0 (fun z => absurd z (by decide)) (fun _ => by rw [e2]; exact v1 e) eI, fun ne => lbt_ok e0 (fun _ => by rw [e2]; exact v0 ne) (fun z => absurd rfl z) eI⟩
    unfold wp_D_property_152
    rw [pu_up1]
    refine ⟨fun e => ⟨fun z => absurd z (by decide), fun _ => ⟨pk_in 0 1 (by decide), run 1 (fun _ => rfl) (fun z => absurd e z)⟩⟩, fun ne => ⟨fun _ => ⟨pk_in 0 1 (by decide), run 0 (fun z => absurd z ne) (fun _ => rfl)⟩, fun z => absurd rfl z⟩⟩
  have lv : (p = 4) → wp_W_loserThatHarmsByLeaving F 21 1 (nI r) M (fun r5 M4 => wp_D_property_152 F 0 (nI r) (nI p) (fun r4 M2 => ((r4 = 0 → wp_L_property_16 F 0 (nI r) (nI p) 89 1 (fun r2 M1 => wp_M_property F 71 (nI r) (nI p) M1 (fun r4 M3 => lt_b II r2 r4 M3)) M2 89 0 0) ∧ (¬ r4 = 0 → wp_L_property_16 F 0 (nI r) (nI p) 89 1 (fun r2 M1 => wp_M_property F 71 (nI r) (nI p) M1 (fun r4 M3 => lt_b II r2 r4 M3)) M2 89 0 1))) (fun k M3 => ((k = 0 → wp_M_property F 71 (nI r) (nI p) M3 (fun r4 M3 => lt_b II 1 r4 M3)) ∧ (¬ k = 0 → False))) (om_up M4 0 4 r5)) := fun e => sp_leaving hP hg h.ta hr (by omega) (fun M1 x w c1 hw hx => model M1 x _ _ c1 hx (fun M2 Q hM2 hQ => pk_le 2 p (fun _ => pk_le 4 p (fun _ => sp_mleaving hM2 hg hr hF (fun M' y w' m1 hw' hy => hQ M' y m1 (by rw [hw.uniq hw']; exact hy))) (fun q => absurd q (by omega))) (fun q => absurd q (by omega))))
  refine pk_eq p 0 (fun e => ?_) (fun n0 => pk_eq p 1 (fun e => ?_) (fun n1 => pk_eq p 2 (fun e => ?_) (fun n2 => pk_eq p 3 (fun e => ?_) (fun n3 => pk_eq p 4 (fun e => lv e) (fun n4 => absurd hp (by omega))))))
  · exact sp_bestNot hP hg.gd h.ta hr (by omega) (fun M1 x c1 hx => model M1 x _ _ c1 hx (fun M2 Q hM2 hQ => pk_le 2 p (fun q => absurd q (by omega)) (fun _ => sp_mpairs hM2 hg hr (by omega) hF (fun M' y m1 hy => hQ M' y m1 (by rw [if_pos e] at hy; exact hy)))))
  · exact sp_worst hP hg.gd h.ta hr (by omega) (fun M1 x c1 hx => model M1 x _ _ c1 hx (fun M2 Q hM2 hQ => pk_le 2 p (fun q => absurd q (by omega)) (fun _ => sp_mpairs hM2 hg hr (by omega) hF (fun M' y m1 hy => hQ M' y m1 (by rw [if_neg n0] at hy; exact hy)))))
  · refine sp_theWinner hP hg.gd (Or.inl rfl) h.ta hr (by omega) (fun M1 k c1 hk => ?_)
    have hw : isW P r (P.ti k) := ⟨k, hk, rfl⟩
    have hP1 := c1.RP (Or.inl rfl) hP
    refine sp_copy hP1 hn hg.gT (fun t ht => (hg.go t ht).1) (by omega) (fun M2 k1 k2 => ?_)
    refine sp_raise (hP1.congr (fun q _ _ => k1.1 q (by omega))) k2 hg hw (c1.cw.trans k1.cw) h.ta hr (by omega) (fun M3 x c3 hx => model M3 x _ _ c3 hx (fun M4 Q hM4 hQ => pk_le 2 p (fun _ => pk_le 4 p (fun q => absurd q (by omega)) (fun _ => sp_mtypes hM4 hg hr (by omega) hF (fun M' y w' m1 hw' hy => hQ M' y m1 (by rw [if_pos e] at hy; rw [hw.uniq hw']; exact hy)))) (fun q => absurd q (by omega))))
  · refine sp_theWinner hP hg.gd (Or.inl rfl) h.ta hr (by omega) (fun M1 k c1 hk => ?_)
    have hw : isW P r (P.ti k) := ⟨k, hk, rfl⟩
    have hP1 := c1.RP (Or.inl rfl) hP
    refine sp_copy hP1 hn hg.gT (fun t ht => (hg.go t ht).1) (by omega) (fun M2 k1 k2 => ?_)
    refine sp_join (hP1.congr (fun q _ _ => k1.1 q (by omega))) k2 hg hw (c1.cw.trans k1.cw) h.ta hr (by omega) (fun M3 x c3 hx => model M3 x _ _ c3 hx (fun M4 Q hM4 hQ => pk_le 2 p (fun _ => pk_le 4 p (fun q => absurd q (by omega)) (fun _ => sp_mtypes hM4 hg hr (by omega) hF (fun M' y w' m1 hw' hy => hQ M' y m1 (by rw [if_neg n2] at hy; rw [hw.uniq hw']; exact hy)))) (fun q => absurd q (by omega))))
