/-! circle -/
def crc (P : pv) (a b c : Nat) : Prop := P.bt a b ∧ P.bt b c ∧ P.bt c a
def nc (P : pv) (k : Nat) : Prop := ∀ a b c, a < P.n → b < P.n → c < P.n → 49 * a + 7 * b + c < k → ¬ crc P a b c
theorem sp_leastCircle {F o : Nat} {P : pv} {M : om_M} {Q : Int32 → om_M → Prop} (hP : RP o M P) (hg : gd P) (hF : 10 ≤ F) (h0 : nc P 343 → Q (-1) M) (h1 : ∀ a b c, a < P.n → b < P.n → c < P.n → crc P a b c → nc P (49 * a + 7 * b + c) → Q ((nI a ||| (nI b <<< ((3 : Int32) &&& 31))) ||| (nI c <<< ((6 : Int32) &&& 31))) M) : wp_P_leastCircle F o M Q := by
  have hn := hg.2.1
  refine pu_loop P.n (fun a z => z = (M, nI a) ∧ nc P (49 * a)) (fun a z K hi hJ hK => ?_) (i := 0) (by omega) (by omega) ⟨rfl, fun _ _ _ _ _ _ q => absurd q (by omega)⟩
  obtain ⟨rfl, ha0⟩ := hJ
  refine pk_le P.n a (fun hle => h0 (fun x y z hx hy hz q => ha0 x y z hx hy hz (by omega))) (fun ha => ?_) hP.1
  refine pu_loop P.n (fun b z => z = (M, nI b) ∧ nc P (49 * a + 7 * b)) (fun b z K2 hi2 hJ hK2 => ?_) (i := 0) (by omega) (by omega) ⟨rfl, ha0⟩
  obtain ⟨rfl, hb0⟩ := hJ
  refine pk_le P.n b (fun hle => hK ha _ ⟨by rw [nI_1], fun x y z hx hy hz q => hb0 x y z hx hy hz (by omega)⟩) (fun hb => ?_) hP.1
  refine pu_loop P.n (fun c z => z = (M, nI c) ∧ nc P (49 * a + 7 * b + c)) (fun c z K3 hi3 hJ hK3 => ?_) (i := 0) (by omega) (by omega) ⟨rfl, hb0⟩
  obtain ⟨rfl, hc0⟩ := hJ
  refine pk_le P.n c (fun hle => hK2 hb _ ⟨by rw [nI_1], fun x y z hx hy hz q => hc0 x y z hx hy hz (by omega)⟩) (fun hc => ?_) hP.1
  have nx : ¬ crc P a b c → wp_P_leastCircle_68 F o Q (nI a) (nI b) K K2 K3 M (nI c) := fun hn2 => hK3 hc _ ⟨by rw [nI_1], fun x y z hx hy hz q w => by
    by_cases e : x = a ∧ y = b ∧ z = c
    · obtain ⟨rfl, rfl, rfl⟩ := e; exact hn2 w
    · exact hc0 x y z hx hy hz (by omega) w⟩
  refine sp_beats hP hg (by omega) (by omega) (fun q1 => ⟨fun e => absurd e (by decide), fun _ => ?_⟩) (fun q1 => ⟨fun _ => nx (fun w => q1 w.1), fun e => absurd rfl e⟩)
  refine sp_beats hP hg (by omega) (by omega) (fun q2 => ⟨fun e => absurd e (by decide), fun _ => ?_⟩) (fun q2 => ⟨fun _ => nx (fun w => q2 w.2.1), fun e => absurd rfl e⟩)
  exact sp_beats hP hg (by omega) (by omega) (fun q3 => ⟨fun e => absurd e (by decide), fun _ => h1 a b c ha hb hc ⟨q1, q2, q3⟩ hc0⟩) (fun q3 => ⟨fun _ => nx (fun w => q3 w.2.2), fun e => absurd rfl e⟩)
theorem crc_num {a b c : Nat} (ha : a < 7) (hb : b < 7) (hc : c < 7) : (nI a ||| (nI b <<< ((3 : Int32) &&& 31))) ||| (nI c <<< ((6 : Int32) &&& 31)) = nI (a + 8 * b + 64 * c) := by
  have key : ∀ a, a < 7 → ∀ b, b < 7 → ∀ c, c < 7 → (nI a ||| (nI b <<< ((3 : Int32) &&& 31))) ||| (nI c <<< ((6 : Int32) &&& 31)) = nI (a + 8 * b + 64 * c) := by decide +kernel
  exact key a ha b hb c hc
theorem dv343 (p : Nat) (hp : p < 343) : nI p / 49 = nI (p / 49) ∧ (nI p / 7) - (nI p / 7) / 7 * 7 = nI (p / 7 % 7) ∧ nI p - nI p / 7 * 7 = nI (p % 7) := by
  refine ⟨pk_div (a := p) (d := 49) (by omega) (by omega) (by omega), ?_, pk_rem (a := p) (d := 7) (by omega) (by omega) (by omega)⟩
  rw [show nI p / 7 = nI (p / 7) from pk_div (a := p) (d := 7) (by omega) (by omega) (by omega)]
  exact pk_rem (a := p / 7) (d := 7) (by omega) (by omega) (by omega)
theorem iv_20 {F : Nat} (hF : 10000 ≤ F) (M : om_M) (a1 a2 a3 : Int32) (h : II M) : wl_20 F 0 71 89 a1 a2 a3 M II := by
  show wp_L_circle F 0 a1 89 1 M (fun r2 M1 => wp_M_circle F 71 a1 M1 (fun r4 M3 => lt_i II r2 r4 M3))
  obtain ⟨⟨P, hg, hP, hM⟩, -⟩ := id h
  have hn := hg.gn
  have bad : (∀ c, c ≤ 2 → a1 ≠ nI c) → wp_D_circle_13 F 0 a1 (fun r3 M1 => vp_in 0 1 ∧ wp_M_circle F 71 a1 (om_ul M1 89 (0 : Int32).toNatClampNeg ((r3 : Int32).toInt64)) (fun r4 M3 => lt_i II 0 r4 M3)) (fun k M2 => ((k = 0 → wp_M_circle F 71 a1 M2 (fun r4 M3 => lt_i II 1 r4 M3)) ∧ (¬ k = 0 → False))) M := by
    intro hb
    refine ⟨fun _ => ⟨fun _ => ?_, fun e => absurd rfl e⟩, fun e => absurd rfl e⟩
    refine sp_win0 (n := 2) rfl (by omega) (fun c hc e => absurd e (hb c hc)) (fun _ => ?_)
    exact sp_goes (fun _ => ⟨fun _ => lt_bad (by decide) pu_up1 h.thrown, fun e => absurd rfl e⟩) (fun e => absurd rfl e) (fun e => absurd rfl e)
  refine ⟨fun q => bad (fun t ht e => absurd q (e ▸ nI_pos (by omega))), fun q => ?_⟩
  obtain ⟨k, hk2, rfl⟩ := nI_of q
  refine pk_le 3 k (fun hle => bad (fun s hs e => by have := (nI_eq hk2 (by omega)).mp e; omega)) (fun hk => ⟨fun e => absurd e (by decide), fun _ => ?_⟩)
  have model : ∀ v : Int32, (∀ M5 : om_M, M5.1 71 0 = 0 → M5.2 89 0 = v.toInt64 → II M5 → ∀ M6 : om_M, RM M6 P → M6.1 71 1 = nI P.n → True) → ((v = -1 ∧ nc P 343) ∨ ∃ a b c, a < P.n ∧ b < P.n ∧ c < P.n ∧ crc P a b c ∧ nc P (49 * a + 7 * b + c) ∧ v = nI (if k = 0 then a else if k = 1 then b else c)) → wp_M_circle F 71 (nI k) (om_ul M 89 0 v.toInt64) (fun r4 M3 => lt_i II 0 r4 M3) := by
    intro v _ hv
    have hM1 : RM (om_ul M 89 0 v.toInt64) P := hM
    refine sp_win0 (n := 2) rfl (by omega) (fun _ _ _ => ?_) (fun q => absurd rfl (q k (by omega)))
    refine sp_goes (fun e => absurd e (by decide)) (fun _ e => absurd e (by decide)) (fun _ _ => ⟨fun e => absurd e (by decide), fun _ => ?_⟩)
    refine sp_load (P := P) (RM.up0 hM1) hn hg.gT (by omega) (fun M2 k1 k2 => ?_)
    refine sp_mtally k2 hn (by have := hg.gT; omega) (fun t ht => (hg.go t ht).1) (by omega) (fun M3 l1 l2 => ?_)
    have e0 : M3.1 71 0 = 0 := by rw [l1.1 71 (by decide), k1.2.1 0 (by decide) (by decide)]; exact pu_up1
    have e1 : M3.1 71 1 = nI P.n := by rw [l1.1 71 (by decide), k1.2.1 1 (by decide) (by decide), pu_up2 (by decide)]; exact hM.1
    have e2 : M3.2 89 0 = v.toInt64 := by rw [l1.2, k1.2.2]; exact ul_out (M := M)
    have eI : II M3 := II.asked (M1' := om_ul M 89 0 v.toInt64) h (cq.refl h.ta) rfl ((mq.th.trans k1.mq).trans (off_mq l1 (by decide)))
    refine pu_loop 343 (fun p z => z = (M3, nI p) ∧ nc P p) (fun p z K hi hJ hK => ?_) (i := 0) (by omega) (by omega) ⟨rfl, fun _ _ _ _ _ _ q => absurd q (by omega)⟩
    obtain ⟨rfl, hp0⟩ := hJ
    refine pk_le 343 p (fun hle => ?_) (fun hp => ?_)
    · rcases hv with ⟨rfl, -⟩ | ⟨a, b, c, ha, hb, hc, q1, q2, -⟩
      · exact lt_ok e0 e2 eI
      · exact absurd q1 (hp0 a b c ha hb hc (by omega))
    · have nx : ¬ (p / 49 < P.n ∧ p / 7 % 7 < P.n ∧ p % 7 < P.n ∧ crc P (p / 49) (p / 7 % 7) (p % 7)) → wp_M_circle_131 F 71 (nI k) (fun r4 M3 => lt_i II 0 r4 M3) K M3 (nI p) := fun hne => hK hp _ ⟨by rw [nI_1], fun x y z hx hy hz q w => by
        by_cases e : 49 * x + 7 * y + z = p
        · refine hne ?_
          rw [show p / 49 = x by omega, show p / 7 % 7 = y by omega, show p % 7 = z by omega]
          exact ⟨hx, hy, hz, w⟩
        · exact hp0 x y z hx hy hz (by omega) w⟩
      dsimp only
      rw [(dv343 p hp).1, (dv343 p hp).2.1, (dv343 p hp).2.2]
      refine pk_le P.n (p / 49) (fun q => nx (fun w => by omega)) (fun ha => pk_le P.n (p / 7 % 7) (fun q => nx (fun w => by omega)) (fun hb => pk_le P.n (p % 7) (fun q => nx (fun w => by omega)) (fun hc => ?_) e1) e1) e1
      refine sp_mbeats l2 hg.gd (by omega) (by omega) (fun q1 => ⟨fun e => absurd e (by decide), fun _ => ?_⟩) (fun q1 => ⟨fun _ => nx (fun w => q1 w.2.2.2.1), fun e => absurd rfl e⟩)
      refine sp_mbeats l2 hg.gd (by omega) (by omega) (fun q2 => ⟨fun e => absurd e (by decide), fun _ => ?_⟩) (fun q2 => ⟨fun _ => nx (fun w => q2 w.2.2.2.2.1), fun e => absurd rfl e⟩)
      refine sp_mbeats l2 hg.gd (by omega) (by omega) (fun q3 => ⟨fun e => absurd e (by decide), fun _ => ?_⟩) (fun q3 => ⟨fun _ => nx (fun w => q3 w.2.2.2.2.2), fun e => absurd rfl e⟩)
      rcases hv with ⟨-, hv⟩ | ⟨a, b, c, ha', hb', hc', w1, w2, w3⟩
      · exact absurd ⟨q1, q2, q3⟩ (hv _ _ _ ha hb hc (by omega))
      · have hpe : 49 * a + 7 * b + c = p := by
          rcases Nat.lt_trichotomy (49 * a + 7 * b + c) p with z | z | z
          · exact absurd w1 (hp0 a b c ha' hb' hc' z)
          · exact z
          · exact absurd ⟨q1, q2, q3⟩ (w2 _ _ _ ha hb hc (by omega))
        have r1 : p / 49 = a := by omega
        have r2 : p / 7 % 7 = b := by omega
        have r3 : p % 7 = c := by omega
        rw [r1, r2, r3]
        refine pk_eq k 0 (fun e => ?_) (fun n0 => pk_eq k 1 (fun e => ?_) (fun n1 => ?_))
        · rw [if_pos e] at w3
          exact lt_ok e0 (by rw [e2, w3]) eI
        · rw [if_neg n0, if_pos e] at w3
          exact lt_ok e0 (by rw [e2, w3]) eI
        · rw [if_neg n0, if_neg n1] at w3
          exact lt_ok e0 (by rw [e2, w3]) eI
  refine sp_leastCircle (o := 0 + 1) hP hg.gd (by omega) (fun hnc => ⟨fun _ => ⟨pk_in 0 1 (by decide), model (-1) (fun _ _ _ _ _ _ _ => trivial) (Or.inl ⟨rfl, hnc⟩)⟩, fun e => absurd rfl e⟩) (fun a b c ha hb hc q1 q2 => ?_)
  rw [crc_num (by omega) (by omega) (by omega)]
  refine ⟨fun e => absurd (e ▸ (show (-1 : Int32) < 0 by decide)) (nI_pos (by omega)), fun _ => ?_⟩
  show vp_in 0 1 ∧ wp_M_circle F 71 (nI k) (om_ul M 89 0 ((nI (a + 8 * b + 64 * c) >>> (((3 : Int32) * nI k) &&& 31)) &&& 7).toInt64) _
  rw [pa_at (by omega) (by omega), show (a + 8 * b + 64 * c) / 8 ^ k % 8 = (if k = 0 then a else if k = 1 then b else c) by
    have : k = 0 ∨ k = 1 ∨ k = 2 := by omega
    rcases this with rfl | rfl | rfl
    · rw [if_pos rfl]; omega
    · rw [if_neg (by decide), if_pos rfl]; omega
    · rw [if_neg (by decide), if_neg (by decide)]; omega]
  exact ⟨pk_in 0 1 (by decide), model _ (fun _ _ _ _ _ _ _ => trivial) (Or.inr ⟨a, b, c, ha, hb, hc, q1, q2, rfl⟩)⟩
