/-! agreement: the model -/
theorem ul_s {M : om_M} {o k : Nat} {v : Int64} : (om_ul M o k v).2 o k = v := by simp [om_ul, vp_updL]
theorem ul_n {M : om_M} {o k j : Nat} {v : Int64} (h : j ≠ k) : (om_ul M o k v).2 o j = M.2 o j := by simp [om_ul, vp_updL, h]
theorem ul_o {M : om_M} {o o' k : Nat} {v : Int64} (h : o' ≠ o) : (om_ul M o k v).2 o' = M.2 o' := by simp [om_ul, h]
def lo (M M' : om_M) : Prop := M'.1 = M.1 ∧ ∀ q, q ≠ 86 → M'.2 q = M.2 q
theorem lo.up {M M' : om_M} {k : Nat} {v : Int64} (h : lo M M') : lo M (om_ul M' 86 k v) := ⟨h.1, fun q hq => by rw [ul_o hq]; exact h.2 q hq⟩
theorem lo.mq {M M' : om_M} (h : lo M M') : mq M M' := ⟨fun q _ => by rw [h.1], fun k _ _ _ => by rw [h.1], h.2 89 (by decide)⟩
theorem lo.RL {M M' : om_M} {P : pv} (h : lo M M') (g : RL M P) : RL M' P := g.congr (fun q _ _ => by rw [h.1]) (by rw [h.1]) (by rw [h.1])
theorem lo.RT {M M' : om_M} {P : pv} (h : lo M M') (g : RT M P) : RT M' P := fun a b ha hb => by rw [h.1]; exact g a b ha hb
theorem sp_over {F c s : Nat} {P : pv} {M : om_M} {Q : Int64 → om_M → Prop} (hL : RL M P) (hR : RT M P) (hg : gd P) (hc : c < P.n) (hs : s < 2 ^ P.n) (hF : 10 ≤ F) (h : Q (lN (ov P c s)) M) : wp_M_over F 71 (nI c) (nI s) M Q := by
  have hn := hg.2.1
  refine pu_loop P.n (fun i z => z = (M, lN (su (fun b => if s.testBit b = true then P.ah b c else 0) i), nI i)) (fun b z K hi hJ hK => ?_) (i := 0) (by omega) (by omega) rfl
  subst hJ
  refine pk_le P.n b (fun hle => ?_) (fun hb => ?_) hL.1
  · rw [show b = P.n by omega]; exact h
  · refine (iS.num hs).br1 hn hb (fun hp => ?_) (fun np => hK hb _ ?_)
    · have := ah_le hg b c
      show vp_in ((7 : Int32) * nI b + nI c) 49 ∧ K (M, lN _ + (M.1 (71 + 11) ((7 : Int32) * nI b + nI c).toNatClampNeg).toInt64, nI b + 1)
      rw [i7, nI_clamp (n := 7 * b + c) (by omega), hR b c (by omega) (by omega), nI_l (by omega), lN_add, nI_1]
      refine ⟨pk_in (7 * b + c) 49 (by omega), hK hb _ ?_⟩
      show _ = (M, lN (su _ b + (if s.testBit b = true then P.ah b c else 0)), nI (b + 1))
      rw [if_pos (show s.testBit b = true from hp)]
    · show (M, lN _, nI b + 1) = (M, lN (su _ b + (if s.testBit b = true then P.ah b c else 0)), nI (b + 1))
      rw [if_neg (show ¬ s.testBit b = true from np), nI_1]
      rfl
theorem sp_findLeast {F : Nat} {P : pv} {M : om_M} {Q : om_M → Prop} (hL : RL M P) (hR : RT M P) (hg : gd P) (hF : 1000 ≤ F) (h : ∀ M' L, lo M M' → (∀ s, s < 2 ^ P.n → M'.2 86 s = lN (L s)) → LTp P L (2 ^ P.n) → Q M') : wp_M_findLeast F 71 M Q := by
  have hn := hg.2.1
  have hb := p2n hg
  refine ⟨pk_in 0 128 (by decide), ?_⟩
  refine pu_loop (2 ^ P.n) (fun k z => ∃ L, z.2 = nI k ∧ 1 ≤ k ∧ lo M z.1 ∧ (∀ s, s < k → z.1.2 86 s = lN (L s)) ∧ LTp P L k) (fun k z K hi hJ hK => ?_) (i := 1) (by omega) (by omega) ⟨fun _ => 0, rfl, by omega, (show lo M M from ⟨rfl, fun _ _ => rfl⟩).up, fun s hs => ?_, rfl, fun s h1 h2 => absurd h1 (by omega)⟩
  · obtain ⟨M2, y⟩ := z
    obtain ⟨L, rfl, hk1, k1, k3, k4⟩ := hJ
    have hL2 := k1.RL hL
    show ((((1 : Int32) <<< ((M2.1 71 8) &&& 31)) - 1) < nI k → Q M2) ∧ (¬ (((1 : Int32) <<< ((M2.1 71 8) &&& 31)) - 1) < nI k → wp_M_findLeast_21 F 71 Q (nI k) K M2 1 0)
    rw [hL2.1, mb_all (by omega)]
    refine pk_lt (2 ^ P.n - 1) k (fun hgt => ?_) (fun hle2 => ?_)
    · have e : k = 2 ^ P.n := by omega
      subst e
      exact h M2 L k1 k3 k4
    · refine pu_loop P.n (fun j z => ∃ x : Int32, z.2 = (x, nI j) ∧ lo M z.1 ∧ (∀ s, s < k → z.1.2 86 s = lN (L s)) ∧ ((x = 1 ∧ ∀ c, c < j → k.testBit c = false) ∨ (x = 0 ∧ ∃ b, z.1.2 86 k = lN b ∧ (∀ c, c < j → k.testBit c = true → b ≤ L (k - 2 ^ c) + ov P c (k - 2 ^ c)) ∧ ∃ c, c < j ∧ k.testBit c = true ∧ b = L (k - 2 ^ c) + ov P c (k - 2 ^ c)))) (fun c z K2 hj hJ hK2 => ?_) (i := 0) (by omega) (by omega) ⟨1, rfl, k1, k3, Or.inl ⟨rfl, fun c hc => absurd hc (by omega)⟩⟩
      obtain ⟨M3, y⟩ := z
      obtain ⟨x, rfl, l1, l2, l3⟩ := hJ
      have hL3 := l1.RL hL
      refine pk_le P.n c (fun hle3 => ?_) (fun hc => ?_) hL3.1
      · rcases l3 with ⟨-, l3⟩ | ⟨-, b, q1, q2, d, q3, q4, q5⟩
        · exfalso
          obtain ⟨d, q1, q2⟩ := ex7 k (by omega) hk1
          have hd : d < P.n := bt_n P.n (by omega) k (by omega) (by omega) d q1 q2
          have := l3 d (by omega)
          rw [this] at q2
          cases q2
        · refine hK (by omega) _ ⟨uf L k b, by rw [nI_1], by omega, l1, fun s hs => ?_, k4.ext hg hk1 (by omega) ⟨d, by omega, q4, q5⟩ (fun e he => q2 e (by omega))⟩
          by_cases e : s = k
          · subst e; rw [uf_s]; exact q1
          · rw [uf_n e]; exact l2 s (by omega)
      · rw [mb_one (by omega), mb_del]
        rcases hbt : k.testBit c with _ | _
        · rw [nb7 k (by omega) c (by omega) hbt]
          refine ⟨fun _ => hK2 hc _ ⟨x, by rw [nI_1], l1, l2, ?_⟩, fun e => absurd rfl e⟩
          rcases l3 with ⟨q0, l3⟩ | ⟨q0, b, q1, q2, d, q3, q4, q5⟩
          · refine Or.inl ⟨q0, fun d hd => ?_⟩
            by_cases e : d = c
            · subst e; exact hbt
            · exact l3 d (by omega)
          · refine Or.inr ⟨q0, b, q1, fun d hd hdb => ?_, d, by omega, q4, q5⟩
            by_cases e : d = c
            · subst e; rw [hbt] at hdb; cases hdb
            · exact q2 d (by omega) hdb
        · have t7 := tb7 k (by omega) c (by omega) hbt
          have lt := lt_sub (by omega) (by omega) hbt
          have v := k4.val hg (by omega) (by omega) hc hbt lt
          rw [t7.2]
          refine pk_eq (k - 2 ^ c) k (fun e => absurd e (by omega)) (fun _ => sp_over hL3 (l1.RT hR) hg hc (by omega) (by omega) ⟨pk_in (k - 2 ^ c) 128 (by omega), ?_⟩)
          rw [nI_clamp (n := k - 2 ^ c) (by omega), nI_clamp (n := k) (by omega), show (M3, x, nI c).1.2 (71 + 15) (k - 2 ^ c) = _ from l2 _ lt, lN_add, Nat.add_comm (ov P c (k - 2 ^ c))]
          have put : ∀ b, (∀ d, d < c + 1 → k.testBit d = true → b ≤ L (k - 2 ^ d) + ov P d (k - 2 ^ d)) → (∃ d, d < c + 1 ∧ k.testBit d = true ∧ b = L (k - 2 ^ d) + ov P d (k - 2 ^ d)) → wp_M_findLeast_93 F 71 Q (nI k) K K2 M3 (nI c) (71 + 15) (nI k) (lN b) := fun b h1 h2 => by
            refine ⟨pk_in k 128 (by omega), ?_⟩
            rw [nI_clamp (n := k) (by omega)]
            refine hK2 hc _ ⟨0, by rw [nI_1], l1.up, fun s hs => ?_, Or.inr ⟨rfl, b, ul_s, h1, h2⟩⟩
            exact (ul_n (by omega)).trans (l2 s hs)
          rcases l3 with ⟨q0, l3⟩ | ⟨q0, b, q1, q2, d, q3, q4, q5⟩
          · refine ⟨fun e => absurd (q0.symm.trans e) (by decide), fun _ => put _ (fun d hd hdb => ?_) ⟨c, by omega, hbt, rfl⟩⟩
            by_cases e : d = c
            · subst e; exact Nat.le_refl _
            · have := l3 d (by omega)
              rw [this] at hdb
              cases hdb
          · refine ⟨fun _ => ⟨pk_in k 128 (by omega), ?_⟩, fun e => absurd q0 e⟩
            rw [show (M3, x, nI c).1.2 (71 + 15) k = lN b from q1]
            have vb : b ≤ 42000021 := by
              rw [q5]
              exact k4.val hg (by omega) (by omega) (by omega) q4 (lt_sub (by omega) (by omega) q4)
            refine pkl_lt (L (k - 2 ^ c) + ov P c (k - 2 ^ c)) b (fun w => put _ (fun e he heb => ?_) ⟨c, by omega, hbt, rfl⟩) (fun w => put b (fun e he heb => ?_) ⟨d, by omega, q4, q5⟩)
            · by_cases z : e = c
              · subst z; exact Nat.le_refl _
              · have := q2 e (by omega) heb
                omega
            · by_cases z : e = c
              · subst z; exact w
              · exact q2 e (by omega) heb
  · have : s = 0 := by omega
    subst this
    exact ul_s
theorem sp_agreeing {F : Nat} {P : pv} {M : om_M} {Q : Int32 → om_M → Prop} (hL : RL M P) (hR : RT M P) (hg : gd P) (hF : 1000 ≤ F) (h : ∀ M' x, lo M M' → iS P.n x (Wag P) → Q x M') : wp_M_agreeing F 71 M Q := by
  have hn := hg.2.1
  have hb := p2n hg
  refine sp_findLeast hL hR hg hF (fun M1 L j1 j2 j3 => ?_)
  have hL1 := j1.RL hL
  refine pu_loop P.n (fun i z => ∃ x, z = (M1, x, nI i) ∧ iS P.n x (fun c => c < i ∧ Wag P c)) (fun c z K hi hJ hK => ?_) (i := 0) (by omega) (by omega) ⟨0, rfl, iS.no.congr (fun c _ => ⟨fun q => absurd q.1 (by omega), fun q => q.elim⟩)⟩
  obtain ⟨x, rfl, hx⟩ := hJ
  refine pk_le P.n c (fun hle => h M1 x j1 (hx.congr (fun d hd => ⟨fun q => ⟨by omega, q⟩, fun q => q.2⟩))) (fun hc => ?_) hL1.1
  have hbt : (2 ^ P.n - 1).testBit c = true := by
    rw [Nat.testBit_two_pow_sub_one, decide_eq_true_eq]; exact hc
  have t7 := tb7 (2 ^ P.n - 1) (by omega) c (by omega) hbt
  have lt := lt_sub (by omega) (by omega) hbt
  have v := j3.val hg (Nat.le_refl _) (by omega) hc hbt (by omega)
  have v2 := (j3.2 (2 ^ P.n - 1) (by omega) (by omega)).2 c hc hbt
  show wp_M_over F 71 (nI c) ((((1 : Int32) <<< ((M1.1 71 8) &&& 31)) - 1) &&& (((1 : Int32) <<< (nI c &&& 31)) ^^^ (-1))) M1 _
  rw [hL1.1, mb_all (by omega), mb_one (by omega), mb_del, t7.2]
  refine sp_over hL1 (j1.RT hR) hg hc (by omega) (by omega) ⟨pk_in (2 ^ P.n - 1 - 2 ^ c) 128 (by omega), ?_⟩
  show vp_in (((1 : Int32) <<< ((M1.1 71 8) &&& 31)) - 1) 128 ∧ ((lN (ov P c (2 ^ P.n - 1 - 2 ^ c)) + M1.2 (71 + 15) (nI (2 ^ P.n - 1 - 2 ^ c)).toNatClampNeg = M1.2 (71 + 15) (((1 : Int32) <<< ((M1.1 71 8) &&& 31)) - 1).toNatClampNeg → K (M1, x ||| nI (2 ^ c), nI c + 1)) ∧ (¬ lN (ov P c (2 ^ P.n - 1 - 2 ^ c)) + M1.2 (71 + 15) (nI (2 ^ P.n - 1 - 2 ^ c)).toNatClampNeg = M1.2 (71 + 15) (((1 : Int32) <<< ((M1.1 71 8) &&& 31)) - 1).toNatClampNeg → K (M1, x, nI c + 1)))
  rw [hL1.1, mb_all (by omega), nI_clamp (n := 2 ^ P.n - 1) (by omega), nI_clamp (n := 2 ^ P.n - 1 - 2 ^ c) (by omega), j2 _ (by omega), j2 _ (by omega), lN_add, Nat.add_comm (ov P c _)]
  refine ⟨pk_in (2 ^ P.n - 1) 128 (by omega), pkl_eq (L (2 ^ P.n - 1 - 2 ^ c) + ov P c (2 ^ P.n - 1 - 2 ^ c)) (L (2 ^ P.n - 1)) (fun e => hK hc _ ⟨x ||| nI (2 ^ c), by rw [nI_1], by rw [← mb_one (c := c) (by omega)]; exact (hx.ins hn hc).congr (fun d hd => ⟨fun q => by
      by_cases z : d = c
      · exact Or.inr z
      · exact Or.inl ⟨by have := q.1; omega, q.2⟩, fun q => by
      rcases q with q | q
      · exact ⟨by have := q.1; omega, q.2⟩
      · subst q
        exact ⟨by omega, (Wag.iff hg j3 d).mpr ⟨hbt, e⟩⟩⟩)⟩) (fun ne => hK hc _ ⟨x, by rw [nI_1], hx.congr (fun d hd => ⟨fun q => ⟨?_, q.2⟩, fun q => ⟨by have := q.1; omega, q.2⟩⟩)⟩)⟩
  · have : d ≠ c := fun z => by subst z; exact ne ((Wag.iff hg j3 d).mp q.2).2
    have := q.1
    omega
