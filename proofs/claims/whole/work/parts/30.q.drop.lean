/-! drop -/
def sh (t i s : Nat) : Nat := if s < t then s else if s < i then s + 1 else s
theorem sp_mdrop {F T t : Nat} {M : om_M} {Q : Int32 → om_M → Prop} (hT : M.1 71 2 = nI T) (ht : t < T) (h20 : T ≤ 20) (hF : 100 ≤ F) (h : ∀ M', (∀ q, q ≠ 71 → q ≠ 72 → q ≠ 73 → M'.1 q = M.1 q) → M'.2 = M.2 → (∀ k, k ≠ 2 → M'.1 71 k = M.1 71 k) → M'.1 71 2 = nI (T - 1) → (∀ s, s < T - 1 → M'.1 (71 + 2) s = M.1 (71 + 2) (if s < t then s else s + 1)) → (∀ s k, s < T - 1 → k < 7 → M'.1 (71 + 1) (7 * s + k) = M.1 (71 + 1) (7 * (if s < t then s else s + 1) + k)) → Q (nI (T - 1)) M') : wp_M_drop_17 F 71 (nI t) Q M (nI t) := by
  refine pu_loop (T - 1) (fun i z => t ≤ i ∧ z.2 = nI i ∧ (∀ q, q ≠ 72 → q ≠ 73 → z.1.1 q = M.1 q) ∧ z.1.2 = M.2 ∧ (∀ s, s < T → z.1.1 (71 + 2) s = M.1 (71 + 2) (sh t i s)) ∧ ∀ s k, s < T → k < 7 → z.1.1 (71 + 1) (7 * s + k) = M.1 (71 + 1) (7 * sh t i s + k)) (fun i z K hi hJ hK => ?_) (i := t) (by omega) (by omega) ⟨by omega, rfl, fun _ _ _ => rfl, rfl, fun s hs => ?_, fun s k hs hk => ?_⟩
  · obtain ⟨M1, y⟩ := z
    obtain ⟨hti, rfl, j1, j2, j3, j4⟩ := hJ
    have e71 : M1.1 71 = M.1 71 := j1 71 (by decide) (by decide)
    refine pk_le T (i + 1) (fun hle => ?_) (fun hlt => ⟨pk_in (i + 1) 20 (by omega) (nI_1 i), pk_in i 20 (by omega), ?_⟩) (by rw [e71]; exact hT) (nI_1 i)
    · have e : i = T - 1 := by omega
      subst e
      unfold wp_M_drop_86
      rw [pu_up1, e71, hT, show nI T - 1 = nI (T - 1) from pk_sub (a := T) (b := 1) (by omega)]
      refine h _ (fun q h1 h2 h3 => by rw [om_up_n _ _ h1]; exact j1 q h2 h3) j2 (fun k hk => by rw [pu_up2 hk, e71]) pu_up1 (fun s hs => ?_) (fun s k hs hk => ?_)
      · rw [om_up_n _ _ (by decide)]
        have q := j3 s (by omega)
        simp only [sh] at q
        rw [if_pos (show s < T - 1 from hs)] at q
        exact q
      · rw [om_up_n _ _ (by decide)]
        have q := j4 s k (by omega) hk
        simp only [sh] at q
        rw [if_pos (show s < T - 1 from hs)] at q
        exact q
    · rw [nI_1, nI_clamp (n := i) (by omega), nI_clamp (n := i + 1) (by omega)]
      refine pu_loop 7 (fun k z => z.2 = nI k ∧ (∀ q, q ≠ 72 → q ≠ 73 → z.1.1 q = M.1 q) ∧ z.1.2 = M.2 ∧ (∀ s, s < T → z.1.1 (71 + 2) s = M.1 (71 + 2) (sh t (i + 1) s)) ∧ ∀ s j, s < T → j < 7 → z.1.1 (71 + 1) (7 * s + j) = M.1 (71 + 1) (if s = i ∧ j < k then 7 * (i + 1) + j else 7 * sh t i s + j)) (fun k z K2 hk hJ hK2 => ?_) (i := 0) (by omega) (by omega) ⟨rfl, fun q h1 h2 => ?_, j2, fun s hs => ?_, fun s j hs hj => ?_⟩
      · obtain ⟨M2, y⟩ := z
        obtain ⟨rfl, l1, l2, l3, l4⟩ := hJ
        refine pk_le 7 k (fun hle => ?_) (fun hlt7 => ?_)
        · have e : k = 7 := by omega
          subst e
          refine hK (by omega) _ ⟨by omega, (nI_succ i).symm, l1, l2, l3, fun s j hs hj => ?_⟩
          rw [show (M2, nI i + 1).1.1 (71 + 1) (7 * s + j) = _ from l4 s j hs hj]
          by_cases e : s = i
          · subst e
            rw [if_pos ⟨rfl, hj⟩, show sh t (s + 1) s = s + 1 by unfold sh; rw [if_neg (by omega), if_pos (by omega)]]
          · rw [if_neg (fun q => e q.1), show sh t (i + 1) s = sh t i s by
              unfold sh
              by_cases e1 : s < t
              · rw [if_pos e1, if_pos e1]
              · rw [if_neg e1, if_neg e1]
                by_cases e2 : s < i
                · rw [if_pos e2, if_pos (by omega)]
                · rw [if_neg e2, if_neg (by omega)]]
        · have ea : ((7 : Int32) * nI i) + 7 + nI k = nI (7 * (i + 1) + k) := by
            show nI 7 * nI i + nI 7 + nI k = _
            rw [pk_mul, nI_add, nI_add, Nat.mul_add]
          have eb : ((7 : Int32) * nI i) + nI k = nI (7 * i + k) := by
            show nI 7 * nI i + nI k = _
            rw [pk_mul, nI_add]
          refine ⟨pk_in _ 140 (by omega) ea, pk_in _ 140 (by omega) eb, hK2 hlt7 _ ?_⟩
          rw [ea, eb, nI_clamp (n := 7 * (i + 1) + k) (by omega), nI_clamp (n := 7 * i + k) (by omega)]
          refine ⟨(nI_succ k).symm, fun q h1 h2 => by rw [om_up_n _ _ (by omega)]; exact l1 q h1 h2, l2, fun s hs => by rw [om_up_n _ _ (by decide)]; exact l3 s hs, fun s j hs hj => ?_⟩
          by_cases e : s = i ∧ j = k
          · obtain ⟨rfl, rfl⟩ := e
            rw [pu_up1, if_pos ⟨rfl, by omega⟩]
            have q := l4 (s + 1) j (by omega) hj
            rw [if_neg (by omega), show sh t s (s + 1) = s + 1 by unfold sh; rw [if_neg (by omega), if_neg (by omega)]] at q
            exact q
          · rw [pu_up2 (by omega), show (M2, nI k).1.1 (71 + 1) (7 * s + j) = _ from l4 s j hs hj]
            by_cases e2 : s = i ∧ j < k
            · rw [if_pos e2, if_pos ⟨e2.1, by omega⟩]
            · rw [if_neg e2, if_neg (by omega)]
      · show (om_up M1 (71 + 2) i _).1 q = _
        rw [om_up_n _ _ (by omega)]; exact j1 q h1 h2
      · show (om_up M1 (71 + 2) i _).1 (71 + 2) s = _
        by_cases e : s = i
        · subst e
          rw [pu_up1, show (M1, nI s).1.1 (71 + 2) (s + 1) = _ from j3 (s + 1) (by omega)]
          unfold sh
          rw [if_neg (by omega), if_neg (by omega), if_neg (by omega), if_pos (by omega)]
        · rw [pu_up2 e, show (M1, nI i).1.1 (71 + 2) s = _ from j3 s hs]
          unfold sh
          by_cases e1 : s < t
          · rw [if_pos e1, if_pos e1]
          · rw [if_neg e1, if_neg e1]
            by_cases e2 : s < i
            · rw [if_pos e2, if_pos (by omega)]
            · rw [if_neg e2, if_neg (by omega)]
      · show (om_up M1 (71 + 2) i _).1 (71 + 1) (7 * s + j) = _
        rw [om_up_n _ _ (by decide), if_neg (by omega)]; exact j4 s j hs hj
  · unfold sh
    by_cases e1 : s < t
    · rw [if_pos e1]
    · rw [if_neg e1, if_neg e1]
  · unfold sh
    by_cases e1 : s < t
    · rw [if_pos e1]
    · rw [if_neg e1, if_neg e1]
theorem wl_3_eq {F : Nat} {a1 a2 a3 : Int32} {M : om_M} {I : om_M → Prop} : wl_3 F 0 71 89 a1 a2 a3 M I = wp_L_drop F 0 a1 89 1 M (fun r2 M1 => wp_M_drop F 71 a1 M1 (fun r4 M3 => lt_i I r2 r4 M3)) := rfl
theorem iv_3 {F : Nat} (hF : 10000 ≤ F) (M : om_M) (a1 a2 a3 : Int32) (h : II M) : wl_3 F 0 71 89 a1 a2 a3 M II := by
  rw [wl_3_eq]
  obtain ⟨⟨P, hg, hP, hM⟩, -⟩ := id h
  have hn := hg.gn
  have hT := hg.gT
  have m1 : M.1 71 1 = nI P.n := hM.1
  have m2 : M.1 71 2 = nI P.T := hM.2.1
  refine sp_isType hP.2.1 (by omega) (fun t ht e => ⟨fun e => absurd e (by decide), fun _ => ?_⟩) (fun hb => ⟨fun _ => ⟨fun _ => ?_, fun e => absurd rfl e⟩, fun e => absurd rfl e⟩)
  · subst e
    refine sp_remove (o := 0 + 1) hP hn (hg.go t ht).1 ht (by omega) (by omega) (fun M1 k1 k2 => ⟨pk_in 0 1 (by decide), ?_⟩)
    rw [show M1.1 (0 + 1) 6 = nI (P.T - 1) from k2.2.1]
    show wp_M_drop F 71 (nI t) (om_ul M1 89 0 (nI (P.T - 1)).toInt64) _
    have e71 : (om_ul M1 89 0 (nI (P.T - 1)).toInt64).1 71 = M.1 71 := k1.1 71 (by decide)
    refine sp_misType (T := P.T) (by rw [e71]; exact m2) (by omega) (fun _ _ _ => ?_) (fun q => absurd rfl (q t ht))
    refine sp_goes (fun e => absurd e (by decide)) (fun _ e => absurd e (by decide)) (fun _ _ => ⟨fun e => absurd e (by decide), fun _ => ?_⟩)
    refine sp_mdrop (T := P.T) (by rw [pu_up2 (by decide), e71]; exact m2) ht hT (by omega) (fun M2 l1 l2 l3 l4 l5 l6 => ?_)
    refine lt_ok ?_ ?_ (II.made (M1 := M1) (v := (nI (P.T - 1)).toInt64) (P := P.rem t) h (pf.s1 k1) ?_ ?_ k2 ?_)
    · rw [l3 0 (by decide)]; exact pu_up1
    · rw [l2]; exact ul_out (M := M1)
    · refine (s2.up0 s2.refl (k := 0) (v := 0) (by omega)).trans ⟨fun q hq => l1 q (by omega) (by omega) (by omega), fun k hk => l3 k (by omega), l2⟩
    · obtain ⟨c1, c2, c3, c4, c5, c6, c7, c8⟩ := hg
      refine ⟨c1, c2, by show P.T - 1 ≤ 20; omega, fun s (hs : s < P.T - 1) => ?_, fun s (hs : s < P.T - 1) => ?_, c6, c7, c8⟩
      · show sf P.am t s ≤ _
        unfold sf
        split
        · exact c4 s (by omega)
        · exact c4 _ (by omega)
      · show isO P.n (sf P.od t s)
        unfold sf
        split
        · exact c5 s (by omega)
        · exact c5 _ (by omega)
    · obtain ⟨-, -, m3, m4, m5, m6, m7⟩ := hM
      have o1 : ∀ q, 72 ≤ q → q ≤ 76 → (om_up (om_ul M1 89 0 (nI (P.T - 1)).toInt64) 71 0 0).1 q = M.1 q := fun q h1 h2 => by
        rw [om_up_n _ _ (by omega)]; exact k1.1 q (by omega)
      refine ⟨?_, l4, fun s k (hs : s < P.T - 1) (hk : k < P.n) => ?_, fun s (hs : s < P.T - 1) => ?_, fun k hk => ?_, fun k hk => ?_, fun k hk => ?_⟩
      · rw [l3 1 (by decide), pu_up2 (by decide), e71]; exact m1
      · rw [l6 s k hs (by omega), o1 _ (by decide) (by decide)]
        show _ = nI (sf P.od t s k)
        unfold sf
        split
        · exact m3 s k (by omega) hk
        · exact m3 _ k (by omega) hk
      · rw [l5 s hs, o1 _ (by decide) (by decide)]
        show _ = nI (sf P.am t s)
        unfold sf
        split
        · exact m4 s (by omega)
        · exact m4 _ (by omega)
      · rw [l1 _ (by decide) (by decide) (by decide), o1 _ (by decide) (by decide)]; exact m5 k hk
      · rw [l1 _ (by decide) (by decide) (by decide), o1 _ (by decide) (by decide)]; exact m6 k hk
      · rw [l1 _ (by decide) (by decide) (by decide), o1 _ (by decide) (by decide)]; exact m7 k hk
  · refine sp_misType (T := P.T) m2 (by omega) (fun t ht e => absurd e (hb t ht)) (fun _ => ?_)
    exact sp_goes (fun _ => ⟨fun _ => lt_bad (by decide) pu_up1 h.thrown, fun e => absurd rfl e⟩) (fun e => absurd rfl e) (fun e => absurd rfl e)
