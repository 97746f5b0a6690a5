/-! the best order: the model -/
theorem gdy_ex {P : pv} (hg : gd P) {L : Nat → Nat} (hL : LTp P L (2 ^ P.n)) : ∀ m, m ≤ P.n → ∃ w, ∀ k, k < m → gdy P L w k
  | 0, _ => ⟨fun _ => 0, fun k hk => absurd hk (by omega)⟩
  | m + 1, hm => by
    obtain ⟨w, hw⟩ := gdy_ex hg hL m (by omega)
    obtain ⟨⟨c, c1, c2, c3⟩, -⟩ := hL.2 _ (rst_pos hg.2.1 (w := w) (show m < P.n by omega)) (rst_lt _ _ _)
    obtain ⟨q, hq⟩ := hd.ex (p := ldr P L (rst P.n w m)) hg.2.2.2.2.2.1 c1 ⟨c2, c3.symm⟩
    refine ⟨uf w m (P.ti q), fun k hk => ?_⟩
    by_cases z : k = m
    · subst z
      refine ⟨q, ?_, by rw [uf_s]⟩
      rw [← rst_congr (w := w) (fun j hj => (uf_n (by omega)).symm)]
      exact hq
    · obtain ⟨q', q1', q2'⟩ := hw k (by omega)
      refine ⟨q', ?_, by rw [uf_n z]; exact q2'⟩
      rw [← rst_congr (w := w) (fun j hj => (uf_n (by omega)).symm)]
      exact q1'
theorem sp_firstOrder {F : Nat} {M : om_M} {Q : om_M → Prop} (hF : 10 ≤ F) (h : ∀ M', pu_off 87 M M' → (∀ k, k < 7 → M'.1 87 k = nI k) → Q M') : wp_M_firstOrder F 71 M Q := by
  refine pu_loop 7 (fun i z => z.2 = nI i ∧ pu_off 87 M z.1 ∧ ∀ k, k < i → z.1.1 87 k = nI k) (fun i z K hi hJ hK => ?_) (i := 0) (by omega) (by omega) ⟨rfl, pu_off.refl, fun k hk => absurd hk (by omega)⟩
  obtain ⟨M1, y⟩ := z
  obtain ⟨rfl, j1, j2⟩ := hJ
  refine pk_le 7 i (fun hle => h M1 j1 (fun k hk => j2 k (by omega))) (fun hlt => ⟨pk_in i 7 (by omega), hK hlt _ ⟨by rw [nI_1], j1.up, fun k hk => ?_⟩⟩)
  rw [nI_clamp (n := i) (by omega)]
  by_cases e : k = i
  · subst e; exact pu_up1
  · exact (pu_up2 e).trans (j2 k (by omega))
theorem sp_disOf {F : Nat} {P : pv} {f : Nat → Nat} {M : om_M} {Q : Int64 → om_M → Prop} (hg : gd P) (hs : M.1 71 1 = nI P.n) (hR : RT M P) (hf : isO P.n f) (hv : ∀ k, k < P.n → M.1 87 k = nI (f k)) (hF : 10 ≤ F) (h : Q (lN (dsm P f)) M) : wp_M_disagreementOf F 71 M Q := by
  have hn := hg.2.1
  refine pu_loop P.n (fun i z => z = (M, lN (su (rw1 P f) i), nI i)) (fun i z K hi hJ hK => ?_) (i := 0) (by omega) (by omega) rfl
  subst hJ
  refine pk_le P.n i (fun hle => ?_) (fun hlt => ?_) hs
  · rw [show i = P.n by omega]; exact h
  · refine pu_loop P.n (fun j z => i < j ∧ z = (M, lN (su (rw1 P f) i + su (fun j => if i < j then P.ah (f j) (f i) else 0) j), nI j)) (fun j z K2 hj hJ hK2 => ?_) (i := i + 1) (by omega) (by omega) ⟨by omega, ?_⟩
    · obtain ⟨hij, rfl⟩ := hJ
      refine pk_le P.n j (fun hle => ?_) (fun hltj => ?_) hs
      · have e : j = P.n := by omega
        subst e
        exact hK hlt _ (by rw [nI_1]; rfl)
      · have b1 := hf.1 i hlt
        have b2 := hf.1 j hltj
        have b3 := ah_le hg (f j) (f i)
        show vp_in (nI j) 7 ∧ vp_in (nI i) 7 ∧ vp_in ((7 : Int32) * M.1 87 (nI j).toNatClampNeg + M.1 87 (nI i).toNatClampNeg) 49 ∧ K2 (M, lN _ + (M.1 82 ((7 : Int32) * M.1 87 (nI j).toNatClampNeg + M.1 87 (nI i).toNatClampNeg).toNatClampNeg).toInt64, nI j + 1)
        rw [nI_clamp (n := j) (by omega), nI_clamp (n := i) (by omega), hv j hltj, hv i hlt, i7, nI_clamp (n := 7 * f j + f i) (by omega), show M.1 82 (7 * f j + f i) = _ from hR (f j) (f i) (by omega) (by omega), nI_l (by omega), lN_add, nI_1]
        refine ⟨pk_in j 7 (by omega), pk_in i 7 (by omega), pk_in (7 * f j + f i) 49 (by omega), hK2 hltj _ ⟨by omega, ?_⟩⟩
        show _ = (M, lN (_ + (su _ j + (if i < j then P.ah (f j) (f i) else 0))), nI (j + 1))
        rw [if_pos hij, Nat.add_assoc]
    · rw [nI_1, su_zero (g := fun j => if i < j then P.ah (f j) (f i) else 0) (fun j hj => if_neg (by omega))]
      rfl
theorem sp_sooner2 {F : Nat} {P : pv} {f b : Nat → Nat} {M : om_M} {Q : Int32 → om_M → Prop} (hL : RL M P) (hg : gd P) (hs : M.1 71 1 = nI P.n) (hf : isO P.n f) (hb : isO P.n b) (hv : ∀ k, k < P.n → M.1 87 k = nI (f k)) (hu : ∀ k, k < P.n → M.1 88 k = nI (b k)) (hF : 10 ≤ F) (h1 : lex P.n (tpl P) f b → Q 1 M) (h0 : ¬ lex P.n (tpl P) f b → Q 0 M) : wp_M_sooner2 F 71 M Q := by
  have hn := hg.2.1
  refine pu_loop P.n (fun i z => z = (M, nI i) ∧ ∀ k, k < i → f k = b k) (fun i z K hi hJ hK => ?_) (i := 0) (by omega) (by omega) ⟨rfl, fun k hk => absurd hk (by omega)⟩
  obtain ⟨rfl, hj⟩ := hJ
  refine pk_le P.n i (fun hle => pk_le P.n i (fun _ => h0 (fun ⟨p, p1, p2, p3⟩ => ?_)) (fun q => absurd q (by omega)) hs) (fun hlt => ⟨pk_in i 7 (by omega), ?_⟩) hs
  · rw [hj p (by omega)] at p3
    omega
  · have b1 := hf.1 i hlt
    have b2 := hb.1 i hlt
    show ((M.1 87 (nI i).toNatClampNeg = M.1 88 (nI i).toNatClampNeg → K (M, nI i + 1)) ∧ (¬ M.1 87 (nI i).toNatClampNeg = M.1 88 (nI i).toNatClampNeg → wp_M_sooner2_31 F 71 Q M (nI i)))
    rw [nI_clamp (n := i) (by omega), hv i hlt, hu i hlt]
    refine pk_eq (f i) (b i) (fun e => hK hlt _ ⟨by rw [nI_1], fun k hk => ?_⟩) (fun ne => pk_le P.n i (fun q => absurd q (by omega)) (fun _ => ⟨pk_in i 7 (by omega), ?_⟩) hs)
    · by_cases z : k = i
      · subst z; exact e
      · exact hj k (by omega)
    · show wp_M_tiePlace F 71 (M.1 87 (nI i).toNatClampNeg) M (fun r3 M2 => wp_M_tiePlace F 71 (M2.1 88 (nI i).toNatClampNeg) M2 (fun r5 M4 => ((r5 ≤ r3 → Q 0 M4) ∧ (¬ r5 ≤ r3 → Q 1 M4))))
      rw [nI_clamp (n := i) (by omega), hv i hlt]
      refine sp_tiePlace hL hg b1 hF (fun k hk ek => ?_)
      rw [hu i hlt]
      refine sp_tiePlace hL hg b2 hF (fun k' hk' ek' => ?_)
      have t1 : tpl P (f i) = k := by rw [← ek]; exact tpl_eq hg hk
      have t2 : tpl P (b i) = k' := by rw [← ek']; exact tpl_eq hg hk'
      refine pk_le k' k (fun q => h0 (fun ⟨p, p1, p2, p3⟩ => ?_)) (fun q => h1 ⟨i, hlt, hj, by omega⟩)
      rcases Nat.lt_trichotomy p i with z | z | z
      · rw [hj p z] at p3; omega
      · subst z; omega
      · exact ne (p2 i z)
theorem sp_findAgreed {F : Nat} {P : pv} {M : om_M} {Q : Int64 → om_M → Prop} (hM : RM M P) (hg : good 20 100000 P) (hF : 10000 ≤ F) (h : ∀ M' b, mq0 M M' → isO P.n b → (∀ k, k < P.n → M'.1 88 k = nI (b k)) → (∀ g, isO P.n g → le2 P b g) → Q (lN (dsm P b)) M') : wp_M_findAgreed F 71 M Q := by
  have hn := hg.gn
  have hn2 : 2 ≤ P.n := hg.1
  refine sp_load hM hn hg.gT (by omega) (fun M1 k1 k2 => sp_mtally k2 hn (by have := hg.gT; omega) (fun t ht => (hg.go t ht).1) (by omega) (fun M2 l1 l2 => sp_firstOrder (by omega) (fun M3 m1 m2 => ?_)))
  have hrun : run P.n 5040 (itn P.n 0) = true := by
    have : P.n = 2 ∨ P.n = 3 ∨ P.n = 4 ∨ P.n = 5 ∨ P.n = 6 ∨ P.n = 7 := by omega
    rcases this with e | e | e | e | e | e <;> rw [e]
    · exact run2
    · exact run3
    · exact run4
    · exact run5
    · exact run6
    · exact run7
  obtain ⟨L, -, L2, L3, L4⟩ := run_ex 5040 0 hrun
  have fo : ∀ i, i ≤ L → isO P.n (dg (itn P.n i)) := fun i hi => itn_is hn2 hn i (fun m hm => L4 m (by omega) (by omega))
  have hL3 : RL M3 P := m1.RL (by decide) (l1.RL (by decide) k2)
  have hR3 : RT M3 P := fun a b ha hb => by rw [m1.1 _ (by decide)]; exact l2 a b ha hb
  have q3 : mq0 M M3 := k1.mq0.trans ⟨(off_mq l1 (by decide)).trans (off_mq m1 (by decide)), by rw [m1.1 71 (by decide), l1.1 71 (by decide)]⟩
  have s3 : M3.1 71 1 = nI P.n := (q3.1.RM hM).1
  /- what two arrays may differ in -/
  have keep : ∀ M', (∀ q, q ≠ 87 → q ≠ 88 → M'.1 q = M3.1 q) → M'.2 = M3.2 → RL M' P ∧ RT M' P ∧ M'.1 71 1 = nI P.n ∧ mq0 M M' := fun M' e1 e2 => ⟨hL3.congr (fun q _ _ => e1 q (by omega) (by omega)) (by rw [e1 71 (by decide) (by decide)]) (by rw [e1 71 (by decide) (by decide)]), fun a b ha hb => by rw [e1 _ (by decide) (by decide)]; exact hR3 a b ha hb, by rw [e1 71 (by decide) (by decide)]; exact s3, q3.trans ⟨⟨fun q hq => e1 q (by omega) (by omega), fun k _ _ _ => by rw [e1 71 (by decide) (by decide)], by rw [e2]⟩, by rw [e1 71 (by decide) (by decide)]⟩⟩
  refine pu_loop (L + 1) (fun i z => (∀ q, q ≠ 87 → q ≠ 88 → z.1.1 q = M3.1 q) ∧ z.1.2 = M3.2 ∧ ((z.2.2 = 1 ∧ i ≤ L ∧ (∀ k, k < P.n → z.1.1 87 k = nI (dg (itn P.n i) k)) ∧ ((i = 0 ∧ z.2.1 = -1) ∨ ∃ b, z.2.1 = lN (dsm P b) ∧ isO P.n b ∧ (∀ k, k < P.n → z.1.1 88 k = nI (b k)) ∧ ∀ g, isO P.n g → lex P.n id g (dg (itn P.n i)) → le2 P b g)) ∨ (z.2.2 = 0 ∧ ∃ b, z.2.1 = lN (dsm P b) ∧ isO P.n b ∧ (∀ k, k < P.n → z.1.1 88 k = nI (b k)) ∧ ∀ g, isO P.n g → le2 P b g))) (fun i z K hi hJ hK => ?_) (i := 0) (by omega) (by omega) ⟨fun _ _ _ => rfl, rfl, Or.inl ⟨rfl, Nat.zero_le _, fun k hk => by rw [itn_0 hn hk]; exact m2 k (by omega), Or.inl ⟨rfl, rfl⟩⟩⟩
  obtain ⟨M4, j1, x3⟩ := z
  obtain ⟨a1, a2, a3⟩ := hJ
  simp only at a1 a2 a3
  obtain ⟨c1, c2, c3, c4⟩ := keep M4 a1 a2
  refine ⟨fun e => ?_, fun ne => ?_⟩
  · have e : x3 = 0 := e
    obtain ⟨b, d1, d2, d3, d4⟩ := (a3.resolve_left (fun q => absurd (q.1.symm.trans e) (by decide))).2
    have := h M4 b c4 d2 d3 d4
    rw [← d1] at this
    exact this
  · have ne : ¬ x3 = 0 := ne
    obtain ⟨-, hiL, hrow, hst⟩ := a3.resolve_right (fun q => ne q.1)
    have hf := fo i hiL
    refine sp_disOf hg.gd c3 c2 hf hrow (by omega) ?_
    /- go on with b at 88, which is no worse than all up to here -/
    have next : ∀ (M5 : om_M) (b : Nat → Nat), (∀ q, q ≠ 87 → q ≠ 88 → M5.1 q = M3.1 q) → M5.2 = M3.2 → (∀ k, k < P.n → M5.1 87 k = nI (dg (itn P.n i) k)) → isO P.n b → (∀ k, k < P.n → M5.1 88 k = nI (b k)) → (∀ g, isO P.n g → ((∀ k, k < P.n → g k = dg (itn P.n i) k) ∨ lex P.n id g (dg (itn P.n i))) → le2 P b g) → wp_M_findAgreed_88 F 71 Q K M5 (lN (dsm P b)) := by
      intro M5 b e1 e2 e3 e4 e5 e6
      obtain ⟨-, -, f3, -⟩ := keep M5 e1 e2
      refine sp_mnext hn2 hn f3 hf e3 (by omega) (fun ht M6 p1 p2 => ?_) (fun ht => ?_)
      · have hiL2 : i < L := by
          rcases Nat.lt_or_ge i L with z | z
          · exact z
          · exact absurd (by rw [show i = L by omega]; exact L3) ht
        refine hK (by omega) _ ⟨fun q h1 h2 => by rw [p1.1 q h1]; exact e1 q h1 h2, p1.2.trans e2, Or.inl ⟨rfl, by omega, fun k hk => ?_, Or.inr ⟨b, rfl, e4, fun k hk => by rw [p1.1 88 (by decide)]; exact e5 k hk, fun g hgo hlex => ?_⟩⟩⟩
        · rw [itn_dg hn2 hn hf ht hk]; exact p2 k hk
        · have hlex2 : lex P.n id g (nxf P.n (dg (itn P.n i))) := hlex.cr (fun k hk => (itn_dg hn2 hn hf ht hk).symm)
          exact e6 g hgo (nx_step hf hgo hn2 ht hlex2)
      · exact hK (by omega) _ ⟨e1, e2, Or.inr ⟨rfl, b, rfl, e4, e5, fun g hgo => e6 g hgo (nx_end hf hgo hn2 ht)⟩⟩
    /- take the order at hand -/
    have take : (∀ g, isO P.n g → lex P.n id g (dg (itn P.n i)) → le2 P (dg (itn P.n i)) g) → wp_M_findAgreed_55 F 71 Q K M4 (lN (dsm P (dg (itn P.n i)))) := by
      intro hh
      refine pu_loop 7 (fun m z => z.2 = nI m ∧ (∀ q, q ≠ 88 → z.1.1 q = M4.1 q) ∧ z.1.2 = M4.2 ∧ ∀ k, k < m → z.1.1 88 k = M4.1 87 k) (fun m z K2 hm hJ hK2 => ?_) (i := 0) (by omega) (by omega) ⟨rfl, fun _ _ => rfl, rfl, fun k hk => absurd hk (by omega)⟩
      obtain ⟨M5, y⟩ := z
      obtain ⟨rfl, e1, e2, e3⟩ := hJ
      refine pk_le 7 m (fun hle => next M5 (dg (itn P.n i)) (fun q h1 h2 => by rw [show (M5, nI m).1.1 q = _ from e1 q h2]; exact a1 q h1 h2) (e2.trans a2) (fun k hk => by rw [show (M5, nI m).1.1 87 = _ from e1 87 (by decide)]; exact hrow k hk) hf (fun k hk => (e3 k (by omega)).trans (hrow k hk)) (fun g hgo hg2 => ?_)) (fun hlt => ⟨pk_in m 7 (by omega), hK2 hlt _ ⟨by rw [nI_1], fun q hq => by rw [om_up_n _ _ (by omega)]; exact e1 q hq, e2, fun k hk => ?_⟩⟩)
      · rcases hg2 with hg2 | hg2
        · exact Or.inr ⟨dsm_congr (fun k hk => (hg2 k hk).symm), Or.inl hg2⟩
        · exact hh g hgo hg2
      · rw [nI_clamp (n := m) (by omega)]
        show (om_up M5 88 m _).1 88 k = _
        by_cases z : k = m
        · subst z
          rw [pu_up1]
          exact congrFun (e1 87 (by decide)) k
        · rw [pu_up2 z]; exact e3 k (by omega)
    have bnd := dsm_le hg.gd (dg (itn P.n i)) (Nat.le_refl P.n)
    rcases hst with ⟨z0, hj⟩ | ⟨b, d1, d2, d3, d4⟩
    · subst z0
      have hj : j1 = -1 := hj
      subst hj
      exact ⟨fun _ => take (fun g hgo hl => (id_min hgo (fun k hk => itn_0 hn hk) hl).elim), fun q => absurd (show (-1 : Int64) < 0 by decide) q⟩
    · have d1 : j1 = lN (dsm P b) := d1
      subst d1
      have bndb := dsm_le hg.gd b (Nat.le_refl P.n)
      have bnd1 : dsm P (dg (itn P.n i)) ≤ 98000049 := bnd
      have bnd2 : dsm P b ≤ 98000049 := bndb
      have old : le2 P b (dg (itn P.n i)) → wp_M_findAgreed_88 F 71 Q K M4 (lN (dsm P b)) := fun hh => next M4 b a1 a2 hrow d2 d3 (fun g hgo hg2 => hg2.elim (fun z => hh.trans (Or.inr ⟨dsm_congr (fun k hk => (z k hk).symm), Or.inl z⟩)) (fun z => d4 g hgo z))
      refine ⟨fun q => ?_, fun _ => pkl_lt (dsm P (dg (itn P.n i))) (dsm P b) (fun q => take (fun g hgo hl => le2.trans (Or.inl q) (d4 g hgo hl))) (fun q => pkl_eq (dsm P (dg (itn P.n i))) (dsm P b) (fun e => ?_) (fun ne2 => old (Or.inl (by omega))))⟩
      · have q : lN (dsm P b) < lN 0 := q
        rw [pk_lLT (by omega) (by decide)] at q
        omega
      · refine sp_sooner2 c1 hg.gd c3 hf d2 hrow d3 (by omega) (fun hl => ⟨fun z => absurd z (by decide), fun _ => take (fun g hgo hl2 => le2.trans (Or.inr ⟨e, Or.inr hl⟩) (d4 g hgo hl2))⟩) (fun hl => ⟨fun _ => old (Or.inr ⟨e.symm, ?_⟩), fun z => absurd rfl z⟩)
        rcases lex.tot hg.gd hf d2 with z | z | z
        · exact Or.inl z
        · exact absurd z hl
        · exact Or.inr z
theorem iv_14 {F : Nat} (hF : 10000 ≤ F) (M : om_M) (a1 a2 a3 : Int32) (h : II M) : wl_14 F 0 71 89 a1 a2 a3 M II := by
  obtain ⟨⟨P, hg, hP, hM⟩, -⟩ := id h
  unfold wl_14 wp_D_disagreement
  refine sp_leastAll (F := F) hP hg.gd h.ta (by omega) (fun M1 L c1 hL => ?_)
  have hM1 : RM M1 P := hM.congr (fun q _ _ => c1.1 q (by omega)) (by rw [c1.1 71 (by omega)]) (by rw [c1.1 71 (by omega)])
  refine sp_findAgreed hM1.up0 hg hF (fun M2 b m1 hb hrow hbest => ?_)
  obtain ⟨w, hw⟩ := gdy_ex hg.gd hL P.n (Nat.le_refl _)
  have hwo := gdy.is hg.gd hw
  obtain ⟨e1, e2⟩ := gdy.best hg.gd hL hw
  have e3 := (hbest w hwo).anti (e2 b hb)
  refine ⟨fun _ => II.asked h (c1.cq h.ta) rfl (mq.th.trans m1.1), fun ne => ne ?_⟩
  rw [← e1, e3.2]
theorem iv_15 {F : Nat} (hF : 10000 ≤ F) (M : om_M) (a1 a2 a3 : Int32) (h : II M) : wl_15 F 0 71 89 a1 a2 a3 M II := by
  obtain ⟨⟨P, hg, hP, hM⟩, -⟩ := id h
  have hn := hg.gn
  unfold wl_15 wp_D_agreed
  refine sp_best (F := F) hP hg.gd h.ta (by omega) (fun M1 L w c1 hL hw => ?_)
  have hM1 : RM M1 P := hM.congr (fun q _ _ => c1.1 q (by omega)) (by rw [c1.1 71 (by omega)]) (by rw [c1.1 71 (by omega)])
  refine sp_findAgreed hM1.up0 hg hF (fun M2 b m1 hb hrow hbest => ?_)
  have hwo := gdy.is hg.gd hw
  obtain ⟨e1, e2⟩ := gdy.best hg.gd hL hw
  have e3 := (hbest w hwo).anti (e2 b hb)
  refine sp_packed (fr := 0) (f := b) hn (fun k hk => by have := hb.1 k hk; omega) (m1.1.RM hM1.up0).1 (by omega) (by decide) (by omega) (fun k hk => by rw [Nat.zero_add]; exact hrow k hk) ?_
  refine ⟨fun _ => II.asked h (c1.cq h.ta) rfl (mq.th.trans m1.1), fun ne => ne ?_⟩
  rw [pz_congr (fun k hk => e3.1 k hk)]
