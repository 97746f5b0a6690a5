/-! what a question may change, and the model's copy -/
def gd (P : pv) : Prop := 2 ≤ P.n ∧ P.n ≤ 7 ∧ P.T ≤ 21 ∧ su P.am P.T ≤ 2000001 ∧ (∀ t, t < P.T → isO P.n (P.od t)) ∧ isO P.n P.ti ∧ isO P.n P.ag ∧ ∀ k, k < P.n → P.we k ≤ 1000
theorem su_max {g : Nat → Nat} {m : Nat} : ∀ {n : Nat}, (∀ t, t < n → g t ≤ m) → su g n ≤ n * m
  | 0, _ => by simp [su]
  | n + 1, h => by
    have := su_max (n := n) (fun t ht => h t (by omega))
    have := h n (by omega)
    show su g n + g n ≤ (n + 1) * m
    rw [Nat.add_mul]
    omega
theorem good.gd {P : pv} (h : good 20 100000 P) : gd P := by
  obtain ⟨c1, c2, c3, c4, c5, c6, c7, c8⟩ := h
  refine ⟨c1, c2, by omega, ?_, c5, c6, c7, c8⟩
  have := su_max (n := P.T) c4
  have : P.T * 100000 ≤ 20 * 100000 := Nat.mul_le_mul_right _ c3
  omega
/-- a question of the class: only its scratch differs -/
def ta (M : om_M) : Prop := M.1 39 0 = 0 ∧ ∀ c, c < 7 → M.1 (41 + c) 0 = 0
def cq (M M1 : om_M) : Prop := (∀ q, (q ≤ 20 ∨ 71 ≤ q) → M1.1 q = M.1 q) ∧ M1.2 = M.2 ∧ ta M1
/-- a question of the model -/
def mq (M M' : om_M) : Prop := (∀ q, (q < 71 ∨ (72 ≤ q ∧ q ≤ 76) ∨ 89 ≤ q) → M'.1 q = M.1 q) ∧ (∀ k, k ≠ 0 → k ≠ 8 → k ≠ 9 → M'.1 71 k = M.1 71 k) ∧ M'.2 89 = M.2 89
theorem mq.trans {M M' M'' : om_M} (h : mq M M') (g : mq M' M'') : mq M M'' := ⟨fun q hq => (g.1 q hq).trans (h.1 q hq), fun k h0 h1 h2 => (g.2.1 k h0 h1 h2).trans (h.2.1 k h0 h1 h2), g.2.2.trans h.2.2⟩
theorem mq.refl {M : om_M} : mq M M := ⟨fun _ _ => rfl, fun _ _ _ _ => rfl, rfl⟩
theorem mq.th {M : om_M} {v : Int32} : mq M (om_up M 71 0 v) := ⟨fun q hq => om_up_n _ _ (by omega), fun k h0 _ _ => pu_up2 h0, rfl⟩
theorem II.asked {M M1 M1' M2 : om_M} (h : II M) (h1 : cq M M1) (e : M1'.1 = M1.1) (h2 : mq M1' M2) : II M2 := by
  obtain ⟨⟨P, hg, hP, hM⟩, a1, a2, a3, a4⟩ := h
  have o1 : ∀ q, (q ≤ 20 ∨ (72 ≤ q ∧ q ≤ 76)) → M2.1 q = M.1 q := fun q hq => by rw [h2.1 q (by omega), e]; exact h1.1 q (by omega)
  have o2 : ∀ k, k ≠ 0 → k ≠ 8 → k ≠ 9 → M2.1 71 k = M.1 71 k := fun k p q r => by rw [h2.2.1 k p q r, e, h1.1 71 (by omega)]
  refine ⟨⟨P, hg, hP.congr (fun q _ _ => o1 q (by omega)), hM.congr (fun q _ _ => o1 q (by omega)) (o2 1 (by decide) (by decide) (by decide)) (o2 2 (by decide) (by decide) (by decide))⟩, ?_, ?_, ?_, fun c hc => ?_⟩
  · rw [o1 0 (by omega), o2 22 (by decide) (by decide) (by decide)]; exact a1
  · rw [o1 0 (by omega), o2 23 (by decide) (by decide) (by decide)]; exact a2
  · rw [h2.1 39 (by omega), e]; exact h1.2.2.1
  · rw [h2.1 _ (by omega), e]; exact h1.2.2.2 c hc
theorem II.ta {M : om_M} (h : II M) : ta M := ⟨h.2.2.2.1, h.2.2.2.2⟩
theorem cq.refl {M : om_M} (h : ta M) : cq M M := ⟨fun _ _ => rfl, rfl, h⟩
/-- the model's copy -/
def RL (M : om_M) (P : pv) : Prop := M.1 71 8 = nI P.n ∧ M.1 71 9 = nI P.T ∧ (∀ t k, t < P.T → k < P.n → M.1 (71 + 6) (7 * t + k) = nI (P.od t k)) ∧ (∀ t, t < P.T → M.1 (71 + 7) t = nI (P.am t)) ∧ (∀ k, k < P.n → M.1 (71 + 8) k = nI (P.ti k)) ∧ (∀ k, k < P.n → M.1 (71 + 9) k = nI (P.ag k)) ∧ ∀ k, k < P.n → M.1 (71 + 10) k = nI (P.we k)
theorem RL.congr {M M' : om_M} {P : pv} (h : RL M P) (e : ∀ q, 77 ≤ q → q ≤ 81 → M'.1 q = M.1 q) (e1 : M'.1 71 8 = M.1 71 8) (e2 : M'.1 71 9 = M.1 71 9) : RL M' P := by
  obtain ⟨q1, q2, q3, q4, q5, q6, q7⟩ := h
  refine ⟨e1.trans q1, e2.trans q2, fun t k ht hk => ?_, fun t ht => ?_, fun t ht => ?_, fun t ht => ?_, fun t ht => ?_⟩
  · rw [e _ (by omega) (by omega)]; exact q3 t k ht hk
  · rw [e _ (by omega) (by omega)]; exact q4 t ht
  · rw [e _ (by omega) (by omega)]; exact q5 t ht
  · rw [e _ (by omega) (by omega)]; exact q6 t ht
  · rw [e _ (by omega) (by omega)]; exact q7 t ht
def ml (M M' : om_M) : Prop := (∀ q, (q < 71 ∨ (72 ≤ q ∧ q ≤ 76) ∨ 82 ≤ q) → M'.1 q = M.1 q) ∧ (∀ k, k ≠ 8 → k ≠ 9 → M'.1 71 k = M.1 71 k) ∧ M'.2 = M.2
theorem ml.mq {M M' : om_M} (h : ml M M') : mq M M' := ⟨fun q hq => h.1 q (by omega), fun k _ h1 h2 => h.2.1 k h1 h2, by rw [h.2.2]⟩
theorem ml.up {M M' : om_M} {o k : Nat} {v : Int32} (h : ml M M') (ho : 77 ≤ o ∧ o ≤ 81) : ml M (om_up M' o k v) := ⟨fun q hq => by rw [om_up_n _ _ (by omega)]; exact h.1 q hq, fun j h1 h2 => by rw [om_up_n _ _ (by omega)]; exact h.2.1 j h1 h2, h.2.2⟩
theorem ml.refl {M : om_M} : ml M M := ⟨fun _ _ => rfl, fun _ _ _ => rfl, rfl⟩
theorem sp_load {F : Nat} {P : pv} {M : om_M} {Q : om_M → Prop} (hM : RM M P) (hn : P.n ≤ 7) (hT : P.T ≤ 20) (hF : 1000 ≤ F) (h : ∀ M', ml M M' → RL M' P → Q M') : wp_M_load F 71 M Q := by
  obtain ⟨m1, m2, m3, m4, m5, m6, m7⟩ := hM
  have hs : ∀ z : om_M, ml M z → z.1 71 2 = nI P.T := fun z hz => (hz.2.1 2 (by decide) (by decide)).trans m2
  refine pu_loop (7 * P.T) (fun i z => z.2 = nI i ∧ ml M z.1 ∧ z.1.1 71 8 = nI P.n ∧ z.1.1 71 9 = nI P.T ∧ ∀ j, j < i → z.1.1 (71 + 6) j = M.1 (71 + 1) j) (fun i z K hi hJ hK => ?_) (i := 0) (by omega) (by omega) ⟨rfl, ⟨fun q hq => ?_, fun k h1 h2 => ?_, rfl⟩, ?_, ?_, fun j hj => absurd hj (by omega)⟩
  · obtain ⟨M1, y⟩ := z
    obtain ⟨rfl, j1, j2, j3, j4⟩ := hJ
    refine pk_le (7 * P.T) i (fun hle => ?_) (fun hlt => ⟨pk_in i 140 (by omega), pk_in i 154 (by omega), hK hlt _ ⟨(nI_succ i).symm, j1.up (by omega), ?_, ?_, fun j hj => ?_⟩⟩) (by rw [hs M1 j1]; exact pk_mul 7 P.T)
    · refine pu_loop P.T (fun i z => z.2 = nI i ∧ ml M z.1 ∧ z.1.1 71 8 = nI P.n ∧ z.1.1 71 9 = nI P.T ∧ (∀ j, j < 7 * P.T → z.1.1 (71 + 6) j = M.1 (71 + 1) j) ∧ ∀ j, j < i → z.1.1 (71 + 7) j = M.1 (71 + 2) j) (fun i z K hi hJ hK => ?_) (i := 0) (by omega) (by omega) ⟨rfl, j1, j2, j3, fun j hj => j4 j (by omega), fun j hj => absurd hj (by omega)⟩
      obtain ⟨M2, y⟩ := z
      obtain ⟨rfl, k1, k2, k3, k4, k5⟩ := hJ
      refine pk_le P.T i (fun hle => ?_) (fun hlt => ⟨pk_in i 20 (by omega), pk_in i 22 (by omega), hK hlt _ ⟨(nI_succ i).symm, k1.up (by omega), ?_, ?_, fun j hj => ?_, fun j hj => ?_⟩⟩) (hs M2 k1)
      · refine pu_loop 7 (fun i z => z.2 = nI i ∧ ml M z.1 ∧ z.1.1 71 8 = nI P.n ∧ z.1.1 71 9 = nI P.T ∧ (∀ j, j < 7 * P.T → z.1.1 (71 + 6) j = M.1 (71 + 1) j) ∧ (∀ j, j < P.T → z.1.1 (71 + 7) j = M.1 (71 + 2) j) ∧ (∀ j, j < i → z.1.1 (71 + 8) j = M.1 (71 + 3) j) ∧ (∀ j, j < i → z.1.1 (71 + 9) j = M.1 (71 + 4) j) ∧ ∀ j, j < i → z.1.1 (71 + 10) j = M.1 (71 + 5) j) (fun i z K hi hJ hK => ?_) (i := 0) (by omega) (by omega) ⟨rfl, k1, k2, k3, k4, fun j hj => k5 j (by omega), fun j hj => absurd hj (by omega), fun j hj => absurd hj (by omega), fun j hj => absurd hj (by omega)⟩
        obtain ⟨M3, y⟩ := z
        obtain ⟨rfl, l1, l2, l3, l4, l5, l6, l7, l8⟩ := hJ
        refine pk_le 7 i (fun hle => h M3 l1 ⟨l2, l3, fun t k ht hk => ?_, fun t ht => ?_, fun k hk => ?_, fun k hk => ?_, fun k hk => ?_⟩) (fun hlt => ⟨pk_in i 7 (by omega), hK hlt _ ?_⟩)
        · exact (l4 _ (by omega)).trans (m3 t k ht hk)
        · exact (l5 t ht).trans (m4 t ht)
        · exact (l6 k (by omega)).trans (m5 k hk)
        · exact (l7 k (by omega)).trans (m6 k hk)
        · exact (l8 k (by omega)).trans (m7 k hk)
        · rw [nI_clamp (n := i) (by omega)]
          refine ⟨(nI_succ i).symm, ((l1.up (by omega)).up (by omega)).up (by omega), ?_, ?_, fun j hj => ?_, fun j hj => ?_, fun j hj => ?_, fun j hj => ?_, fun j hj => ?_⟩
          · rw [om_up_n _ _ (by decide), om_up_n _ _ (by decide), om_up_n _ _ (by decide)]; exact l2
          · rw [om_up_n _ _ (by decide), om_up_n _ _ (by decide), om_up_n _ _ (by decide)]; exact l3
          · rw [om_up_n _ _ (by decide), om_up_n _ _ (by decide), om_up_n _ _ (by decide)]; exact l4 j hj
          · rw [om_up_n _ _ (by decide), om_up_n _ _ (by decide), om_up_n _ _ (by decide)]; exact l5 j hj
          · rw [om_up_n _ _ (by decide), om_up_n _ _ (by decide)]
            by_cases e : j = i
            · subst e; rw [pu_up1]; exact congrFun (l1.1 _ (by omega)) j
            · rw [pu_up2 e]; exact l6 j (by omega)
          · rw [om_up_n _ _ (by decide)]
            by_cases e : j = i
            · subst e; rw [pu_up1, om_up_n _ _ (by decide)]; exact congrFun (l1.1 _ (by omega)) j
            · rw [pu_up2 e, om_up_n _ _ (by decide)]; exact l7 j (by omega)
          · by_cases e : j = i
            · subst e; rw [pu_up1, om_up_n _ _ (by decide), om_up_n _ _ (by decide)]; exact congrFun (l1.1 _ (by omega)) j
            · rw [pu_up2 e, om_up_n _ _ (by decide), om_up_n _ _ (by decide)]; exact l8 j (by omega)
      · rw [om_up_n _ _ (by decide)]; exact k2
      · rw [om_up_n _ _ (by decide)]; exact k3
      · rw [om_up_n _ _ (by decide)]; exact k4 j hj
      · rw [nI_clamp (n := i) (by omega)]
        by_cases e : j = i
        · subst e; rw [pu_up1]; exact congrFun (k1.1 _ (by omega)) j
        · rw [pu_up2 e]; exact k5 j (by omega)
    · rw [om_up_n _ _ (by decide)]; exact j2
    · rw [om_up_n _ _ (by decide)]; exact j3
    · rw [nI_clamp (n := i) (by omega)]
      by_cases e : j = i
      · subst e; rw [pu_up1]; exact congrFun (j1.1 _ (by omega)) j
      · rw [pu_up2 e]; exact j4 j (by omega)
  · show (om_up (om_up M 71 8 _) 71 9 _).1 q = _
    rw [om_up_n _ _ (by omega), om_up_n _ _ (by omega)]
  · show (om_up (om_up M 71 8 _) 71 9 _).1 71 k = _
    rw [pu_up2 h2, pu_up2 h1]
  · show (om_up (om_up M 71 8 _) 71 9 _).1 71 8 = _
    rw [pu_up2 (by decide), pu_up1]; exact m1
  · show (om_up (om_up M 71 8 _) 71 9 _).1 71 9 = _
    rw [pu_up1, pu_up2 (by decide)]; exact m2
/-- the model's pairs -/
def RT (M : om_M) (P : pv) : Prop := ∀ a b, a < 7 → b < 7 → M.1 (71 + 11) (7 * a + b) = nI (P.ah a b)
theorem pu_off.RL {o : Nat} {M M' : om_M} {P : pv} (h : pu_off o M M') (ho : 82 ≤ o) (g : RL M P) : RL M' P := g.congr (fun q _ _ => h.1 q (by omega)) (by rw [h.1 71 (by omega)]) (by rw [h.1 71 (by omega)])
theorem i7 (a b : Nat) : (7 : Int32) * nI a + nI b = nI (7 * a + b) := by
  show nI 7 * nI a + nI b = _
  rw [pk_mul, nI_add]
theorem sp_mtally {F : Nat} {P : pv} {M : om_M} {Q : om_M → Prop} (hL : RL M P) (hn : P.n ≤ 7) (hT : P.T ≤ 21) (ho : ∀ t, t < P.T → ∀ k, k < P.n → P.od t k < P.n) (hF : 1000 ≤ F) (h : ∀ M', pu_off 82 M M' → RT M' P → Q M') : wp_M_tally F 71 M Q := by
  obtain ⟨q1, q2, q3, q4, -⟩ := id hL
  refine pu_loop 49 (fun i z => z.2 = nI i ∧ pu_off 82 M z.1 ∧ ∀ j, j < i → z.1.1 (71 + 11) j = 0) (fun i z K hi hJ hK => ?_) (i := 0) (by omega) (by omega) ⟨rfl, pu_off.refl, fun j hj => absurd hj (by omega)⟩
  obtain ⟨M1, y⟩ := z
  obtain ⟨rfl, j1, j2⟩ := hJ
  refine pk_le 49 i (fun hle => ?_) (fun hlt => ⟨pk_in i 49 (by omega), hK hlt _ ⟨(nI_succ i).symm, j1.up, fun j hj => ?_⟩⟩)
  · refine pu_loop P.T (fun t z => z.2 = nI t ∧ pu_off 82 M z.1 ∧ ∀ a b, a < 7 → b < 7 → z.1.1 (71 + 11) (7 * a + b) = nI (su (fun t => ab (P.am t) P.n (P.od t) a b) t)) (fun t z K hi hJ hK => ?_) (i := 0) (by omega) (by omega) ⟨rfl, j1, fun a b ha hb => j2 _ (by omega)⟩
    obtain ⟨M2, y⟩ := z
    obtain ⟨rfl, k1, k2⟩ := hJ
    refine pk_le P.T t (fun hle => ?_) (fun hlt => ?_) (by show M2.1 71 9 = _; rw [k1.1 71 (by decide)]; exact q2)
    · have e : t = P.T := by omega
      subst e
      exact h M2 k1 k2
    · refine pu_loop P.n (fun i z => z.2 = nI i ∧ pu_off 82 M z.1 ∧ ∀ a b, a < 7 → b < 7 → z.1.1 (71 + 11) (7 * a + b) = nI (su (fun t => ab (P.am t) P.n (P.od t) a b) t + su (fun i => su (fun j => if i < j ∧ P.od t i = a ∧ P.od t j = b then P.am t else 0) P.n) i)) (fun i z K2 hi hJ hK2 => ?_) (i := 0) (by omega) (by omega) ⟨rfl, k1, k2⟩
      obtain ⟨M3, y⟩ := z
      obtain ⟨rfl, l1, l2⟩ := hJ
      refine pk_le P.n i (fun hle => ?_) (fun hlti => ?_) (by show M3.1 71 8 = _; rw [l1.1 71 (by decide)]; exact q1)
      · have e : i = P.n := by omega
        subst e
        exact hK hlt _ ⟨(nI_succ t).symm, l1, l2⟩
      · refine pu_loop P.n (fun j z => i < j ∧ z.2 = nI j ∧ pu_off 82 M z.1 ∧ ∀ a b, a < 7 → b < 7 → z.1.1 (71 + 11) (7 * a + b) = nI (su (fun t => ab (P.am t) P.n (P.od t) a b) t + su (fun i => su (fun j => if i < j ∧ P.od t i = a ∧ P.od t j = b then P.am t else 0) P.n) i + su (fun j => if i < j ∧ P.od t i = a ∧ P.od t j = b then P.am t else 0) j)) (fun j z K3 hj hJ hK3 => ?_) (i := i + 1) (by omega) (by omega) ⟨by omega, (nI_succ i).symm, l1, fun a b ha hb => ?_⟩
        · obtain ⟨M4, y⟩ := z
          obtain ⟨hij, rfl, n1, n2⟩ := hJ
          refine pk_le P.n j (fun hle => ?_) (fun hltj => ?_) (by show M4.1 71 8 = _; rw [n1.1 71 (by decide)]; exact q1)
          · have e : j = P.n := by omega
            subst e
            exact hK2 hlti _ ⟨(nI_succ i).symm, n1, fun a b ha hb => (n2 a b ha hb).trans (congrArg nI (Nat.add_assoc _ _ _))⟩
          · have p1 : M4.1 (71 + 6) (7 * t + i) = nI (P.od t i) := by rw [n1.1 _ (by decide)]; exact q3 t i hlt hlti
            have p2 : M4.1 (71 + 6) (7 * t + j) = nI (P.od t j) := by rw [n1.1 _ (by decide)]; exact q3 t j hlt hltj
            have p3 : M4.1 (71 + 7) t = nI (P.am t) := by rw [n1.1 _ (by decide)]; exact q4 t hlt
            have b1 := ho t hlt i hlti
            have b2 := ho t hlt j hltj
            show vp_in ((7 : Int32) * nI t + nI i) 154 ∧ vp_in ((7 : Int32) * nI t + nI j) 154 ∧ vp_in ((7 : Int32) * (M4.1 (71 + 6) ((7 : Int32) * nI t + nI i).toNatClampNeg) + (M4.1 (71 + 6) ((7 : Int32) * nI t + nI j).toNatClampNeg)) 49 ∧ vp_in (nI t) 22 ∧ K3 (om_up M4 (71 + 11) ((7 : Int32) * (M4.1 (71 + 6) ((7 : Int32) * nI t + nI i).toNatClampNeg) + (M4.1 (71 + 6) ((7 : Int32) * nI t + nI j).toNatClampNeg)).toNatClampNeg (M4.1 (71 + 11) ((7 : Int32) * (M4.1 (71 + 6) ((7 : Int32) * nI t + nI i).toNatClampNeg) + (M4.1 (71 + 6) ((7 : Int32) * nI t + nI j).toNatClampNeg)).toNatClampNeg + M4.1 (71 + 7) (nI t).toNatClampNeg), nI j + 1)
            rw [i7, i7, nI_clamp (n := 7 * t + i) (by omega), nI_clamp (n := 7 * t + j) (by omega), nI_clamp (n := t) (by omega), p1, p2, p3, i7, nI_clamp (n := 7 * P.od t i + P.od t j) (by omega)]
            refine ⟨pk_in (7 * t + i) 154 (by omega), pk_in (7 * t + j) 154 (by omega), pk_in (7 * P.od t i + P.od t j) 49 (by omega), pk_in t 22 (by omega), hK3 hltj _ ⟨by omega, (nI_succ j).symm, n1.up, fun a b ha hb => ?_⟩⟩
            show _ = nI (_ + _ + (su _ j + (if i < j ∧ P.od t i = a ∧ P.od t j = b then P.am t else 0)))
            by_cases e : 7 * a + b = 7 * P.od t i + P.od t j
            · rw [e, pu_up1, ← e, show (M4, nI j).1.1 (71 + 11) (7 * a + b) = _ from n2 a b ha hb, nI_add, if_pos ⟨hij, by omega, by omega⟩]
              exact congrArg nI (Nat.add_assoc _ _ _)
            · rw [pu_up2 e, show (M4, nI j).1.1 (71 + 11) (7 * a + b) = _ from n2 a b ha hb, if_neg (fun q => e (by rw [q.2.1, q.2.2]))]
              rfl
        · rw [su_zero (g := fun j => if i < j ∧ P.od t i = a ∧ P.od t j = b then P.am t else 0) (fun j hj => if_neg (by omega))]
          exact l2 a b ha hb
  · rw [nI_clamp (n := i) (by omega)]
    by_cases e : j = i
    · subst e; exact pu_up1
    · exact (pu_up2 e).trans (j2 j (by omega))
