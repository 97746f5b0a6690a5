/-! scores -/
theorem pkl_lt {x y : Int64} {A B : Prop} (a b : Nat) (f : a < b → A) (g : b ≤ a → B) (hx : x = lN a := by rfl) (hy : y = lN b := by rfl) (ha : a < 2 ^ 63 := by omega) (hb : b < 2 ^ 63 := by omega) : (x < y → A) ∧ (¬ x < y → B) := by
  subst hx hy
  rw [pk_lLT ha hb]
  exact ⟨f, fun h => g (by omega)⟩
theorem pkl_eq {x y : Int64} {A B : Prop} (a b : Nat) (f : a = b → A) (g : a ≠ b → B) (hx : x = lN a := by rfl) (hy : y = lN b := by rfl) (ha : a < 2 ^ 63 := by omega) (hb : b < 2 ^ 63 := by omega) : (x = y → A) ∧ (¬ x = y → B) := by
  subst hx hy
  rw [pk_lEQ ha hb]
  exact ⟨f, g⟩
theorem su_add {g h : Nat → Nat} : ∀ {n : Nat}, su (fun t => g t + h t) n = su g n + su h n
  | 0 => rfl
  | n + 1 => by
    show su (fun t => g t + h t) n + (g n + h n) = su g n + g n + (su h n + h n)
    rw [su_add]
    omega
theorem su_comm {g : Nat → Nat → Nat} {m : Nat} : ∀ {n : Nat}, su (fun i => su (fun j => g i j) m) n = su (fun j => su (fun i => g i j) n) m
  | 0 => (su_zero (fun _ _ => rfl)).symm
  | n + 1 => by
    show su (fun i => su (fun j => g i j) m) n + su (fun j => g n j) m = su (fun j => su (fun i => g i j) n + g n j) m
    rw [su_add, su_comm]
noncomputable def pv.ld (P : pv) (p : Nat → Prop) (c : Nat) : Nat := su (fun t => ci (∃ k, hd P.n (P.od t) p k ∧ P.od t k = c) (P.am t)) P.T
theorem ci_le {p : Prop} {v : Nat} : ci p v ≤ v := by
  by_cases h : p
  · rw [ci_pos h]; exact Nat.le_refl _
  · rw [ci_neg h]; exact Nat.zero_le _
theorem ld_le {P : pv} (hg : gd P) (p : Nat → Prop) (c : Nat) : P.ld p c ≤ 2000001 := Nat.le_trans (su_le (fun t _ => ci_le)) hg.2.2.2.1
theorem sp_mahead {F c : Nat} {x : Int32} {p : Nat → Prop} {P : pv} {M : om_M} {Q : Int32 → om_M → Prop} (hL : RL M P) (hg : gd P) (hx : iS P.n x p) (hne : ∃ d, d < P.n ∧ p d) (hc : c < P.n) (hF : 100 ≤ F) (h : Q (nI (P.ld p c)) M) : wp_M_ahead F 71 (nI c) x M Q := by
  have hn := hg.2.1
  have hT := hg.2.2.1
  refine pu_loop P.T (fun i z => z = (M, nI (su (fun t => ci (∃ k, hd P.n (P.od t) p k ∧ P.od t k = c) (P.am t)) i), nI i)) (fun t z K hi hJ hK => ?_) (i := 0) (by omega) (by omega) rfl
  subst hJ
  refine pk_le P.T t (fun hle => ?_) (fun ht => ?_) hL.2.1
  · rw [show t = P.T by omega]; exact h
  · have ho := hg.2.2.2.2.1 t ht
    obtain ⟨d, hd1, hd2⟩ := hne
    obtain ⟨k0, hk0⟩ := hd.ex ho hd1 hd2
    have := hk0.1
    refine pu_loop k0 (fun i z => z = (M, nI i) ∧ ∀ j, j < i → ¬ p (P.od t j)) (fun i z K2 hi2 hJ hK2 => ?_) (i := 0) (by omega) (by omega) ⟨rfl, fun j hj => absurd hj (by omega)⟩
    obtain ⟨rfl, hj⟩ := hJ
    unfold wp_M_ahead_17b
    rw [i7, nI_clamp (n := 7 * t + i) (by omega), show (M, nI i).1.1 (71 + 6) (7 * t + i) = _ from hL.2.2.1 t i ht (by omega)]
    refine ⟨pk_in (7 * t + i) 154 (by omega), hx.br0 hn (ho.1 i (by omega)) (fun np => hK2 ?_ _ ⟨by rw [nI_1], fun j hj2 => by
      by_cases e : j = i
      · subst e; exact np
      · exact hj j (by omega)⟩) (fun hp => ?_)⟩
    · rcases Nat.lt_or_ge i k0 with g | g
      · exact g
      · exact absurd (by rw [show i = k0 by omega]; exact hk0.2.1) np
    · unfold wp_M_ahead_43
      rw [i7, nI_clamp (n := 7 * t + i) (by omega), show (M, nI i).1.1 (71 + 6) (7 * t + i) = _ from hL.2.2.1 t i ht (by omega)]
      have hdi : hd P.n (P.od t) p i := ⟨by omega, hp, hj⟩
      have h1 := ho.1 i (by omega)
      refine ⟨pk_in (7 * t + i) 154 (by omega), pk_eq (P.od t i) c (fun e => ⟨pk_in t 22 (by omega), hK ht _ ?_⟩) (fun ne => hK ht _ ?_)⟩
      · show (M, nI _ + M.1 (71 + 7) (nI t).toNatClampNeg, nI t + 1) = (M, nI (su _ t + ci _ _), nI (t + 1))
        rw [ci_pos ⟨i, hdi, e⟩, nI_clamp (n := t) (by omega), hL.2.2.2.1 t ht, nI_add, nI_1]
      · show (M, nI _, nI t + 1) = (M, nI (su _ t + ci _ _), nI (t + 1))
        rw [ci_neg (fun ⟨k, q1, q2⟩ => ne (by rw [hdi.uniq q1]; exact q2)), nI_1]
        rfl
def pv.df (P : pv) (c : Nat) : Nat → Nat
  | 0 => 0
  | b + 1 => if P.ah c b < P.ah b c ∧ P.df c b < P.ah b c then P.ah b c else P.df c b
def pv.w1 (P : pv) (c b : Nat) : Nat := if b = c then 0 else if P.ah b c < P.ah c b then 2 else if P.ah c b < P.ah b c then 0 else 1
def pv.sc (P : pv) (r c : Nat) : Nat := if r = 0 then P.pl c 0 else if r = 1 then P.pl c (P.n - 1) else if r = 2 then su (fun k => P.we k * P.pl c k) P.n else if r = 5 then P.df c P.n else su (P.w1 c) P.n
theorem df_le {P : pv} (hg : gd P) (c : Nat) : ∀ b, P.df c b ≤ 2000001
  | 0 => Nat.zero_le _
  | b + 1 => by
    show (if P.ah c b < P.ah b c ∧ P.df c b < P.ah b c then P.ah b c else P.df c b) ≤ _
    split
    · exact ah_le hg b c
    · exact df_le hg c b
theorem w1_le {P : pv} (c b : Nat) : P.w1 c b ≤ 2 := by
  unfold pv.w1
  split
  · omega
  · split
    · omega
    · split <;> omega
theorem w1_2 {P : pv} {c b : Nat} (ne : b ≠ c) (h : P.bt c b) : P.w1 c b = 2 := by
  unfold pv.w1
  rw [if_neg ne]
  exact if_pos h
theorem w1_0 {P : pv} {c b : Nat} (ne : b ≠ c) (h : P.bt b c) : P.w1 c b = 0 := by
  unfold pv.w1
  rw [if_neg ne, if_neg (show ¬ P.ah b c < P.ah c b from fun q => bt_asym h q)]
  exact if_pos h
theorem w1_1 {P : pv} {c b : Nat} (ne : b ≠ c) (h1 : ¬ P.bt c b) (h2 : ¬ P.bt b c) : P.w1 c b = 1 := by
  unfold pv.w1
  rw [if_neg ne, if_neg (show ¬ P.ah b c < P.ah c b from h1)]
  exact if_neg h2
theorem wn_le {P : pv} (c n : Nat) : su (P.w1 c) n ≤ n * 2 := su_max (fun t _ => w1_le c t)
theorem pt_le {P : pv} (hg : gd P) (c : Nat) {m : Nat} (hm : m ≤ P.n) : su (fun k => P.we k * P.pl c k) m ≤ 14000007000 := by
  have h1 := su_max (n := m) (g := fun k => P.we k * P.pl c k) (m := 1000 * 2000001) (fun k hk => Nat.mul_le_mul (hg.2.2.2.2.2.2.2 k (by omega)) (pl_le hg c k))
  have := hg.2.1
  have h2 : m * (1000 * 2000001) ≤ 7 * (1000 * 2000001) := Nat.mul_le_mul_right _ (by omega)
  omega
theorem sc_le {P : pv} (hg : gd P) (r c : Nat) : P.sc r c ≤ 14000007000 := by
  have hn := hg.2.1
  unfold pv.sc
  split
  · have := pl_le hg c 0; omega
  · split
    · have := pl_le hg c (P.n - 1); omega
    · split
      · exact pt_le hg c (Nat.le_refl _)
      · split
        · have := df_le hg c P.n; omega
        · have := wn_le (P := P) c P.n; omega
theorem sp_Cpoints {F o c : Nat} {P : pv} {M : om_M} {Q : Int64 → om_M → Prop} (hP : RP o M P) (hg : gd P) (hc : c < P.n) (hF : 10 ≤ F) (h : Q (lN (su (fun k => P.we k * P.pl c k) P.n)) M) : wp_C_points F o (nI c) M Q := by
  have hn := hg.2.1
  refine pu_loop P.n (fun i z => z = (M, lN (su (fun k => P.we k * P.pl c k) i), nI i)) (fun i z K hi hJ hK => ?_) (i := 0) (by omega) (by omega) rfl
  subst hJ
  refine pk_le P.n i (fun hle => ?_) (fun hlt => ⟨pk_in i 7 (by omega), pk_in c 7 (by omega), hK hlt _ ?_⟩) hP.1
  · rw [show i = P.n by omega]; exact h
  · have := hg.2.2.2.2.2.2.2 i hlt
    have := pl_le hg c i
    show (M, lN _ + (M.1 (o + 3) (nI i).toNatClampNeg).toInt64 * (M.1 (o + 4 + 1 + (nI c).toNatClampNeg) (nI i).toNatClampNeg).toInt64, nI i + 1) = (M, lN (su _ i + P.we i * P.pl c i), nI (i + 1))
    rw [nI_clamp (n := i) (by omega), nI_clamp (n := c) (by omega), hP.2.2.2.2.2.2.1 i hlt, hP.2.2.2.2.2.2.2.1 c i (by omega) (by omega), nI_l (by omega), nI_l (by omega), lN_mul, lN_add, nI_1]
theorem sp_Cdefeat {F o c : Nat} {P : pv} {M : om_M} {Q : Int64 → om_M → Prop} (hP : RP o M P) (hg : gd P) (hc : c < P.n) (hF : 10 ≤ F) (h : Q (lN (P.df c P.n)) M) : wp_C_greatestDefeat F o (nI c) M Q := by
  have hn := hg.2.1
  refine pu_loop P.n (fun i z => z = (M, nI (P.df c i), nI i)) (fun i z K hi hJ hK => ?_) (i := 0) (by omega) (by omega) rfl
  subst hJ
  have b1 := df_le hg c i
  have b2 := ah_le hg i c
  refine pk_le P.n i (fun hle => ?_) (fun hlt => ?_) hP.1
  · have e : i = P.n := by omega
    subst e
    show Q ((nI (P.df c P.n)).toInt64) M
    rw [nI_l (by omega)]; exact h
  · refine sp_beats hP hg (by omega) (by omega) (fun hb => ⟨fun e => absurd e (by decide), fun _ => ⟨pk_in i 7 (by omega), pk_in c 7 (by omega), ?_⟩⟩) (fun hb => ⟨fun _ => hK hlt _ ?_, fun e => absurd rfl e⟩)
    · rw [nI_clamp (n := i) (by omega), nI_clamp (n := c) (by omega), hP.2.2.2.2.2.2.2.2 i c (by omega) (by omega)]
      refine hK hlt _ ?_
      show (M, (if nI (P.df c i) < nI (P.ah i c) then nI (P.ah i c) else nI (P.df c i)), nI i + 1) = (M, nI (if P.ah c i < P.ah i c ∧ P.df c i < P.ah i c then P.ah i c else P.df c i), nI (i + 1))
      rw [nI_1]
      by_cases q : P.df c i < P.ah i c
      · rw [if_pos (nI_lt q (by omega)), if_pos ⟨hb, q⟩]
      · rw [if_neg (nI_nlt (by omega) (by omega)), if_neg (fun z => q z.2)]
    · show (M, nI (P.df c i), nI i + 1) = (M, nI (if P.ah c i < P.ah i c ∧ P.df c i < P.ah i c then P.ah i c else P.df c i), nI (i + 1))
      rw [if_neg (fun z => hb z.1), nI_1]
theorem sp_Cwins {F o c : Nat} {P : pv} {M : om_M} {Q : Int64 → om_M → Prop} (hP : RP o M P) (hg : gd P) (hc : c < P.n) (hF : 10 ≤ F) (h : Q (lN (su (P.w1 c) P.n)) M) : wp_C_wins F o (nI c) M Q := by
  have hn := hg.2.1
  refine pu_loop P.n (fun i z => z = (M, nI (su (P.w1 c) i), nI i)) (fun i z K hi hJ hK => ?_) (i := 0) (by omega) (by omega) rfl
  subst hJ
  have b1 := wn_le (P := P) c i
  have fin : ∀ v : Nat, v = P.w1 c i → (M, nI (su (P.w1 c) i) + nI v, nI i + 1) = (M, nI (su (P.w1 c) (i + 1)), nI (i + 1)) := fun v hv => by
    subst hv
    rw [nI_add, nI_1]; rfl
  refine pk_le P.n i (fun hle => ?_) (fun hlt => pk_eq i c (fun e => hK hlt _ ?_) (fun ne => ?_)) hP.1
  · have e : i = P.n := by omega
    subst e
    show Q ((nI (su (P.w1 c) P.n)).toInt64) M
    rw [nI_l (by omega)]; exact h
  · have := fin 0 (by unfold pv.w1; rw [if_pos e])
    rw [← this]
    show (M, nI (su (P.w1 c) i), nI i + 1) = (M, nI (su (P.w1 c) i) + 0, nI i + 1)
    rw [Int32.add_zero]
  · refine sp_beats hP hg (by omega) (by omega) (fun hb => ⟨fun e => absurd e (by decide), fun _ => hK hlt _ ?_⟩) (fun hb => ⟨fun _ => ?_, fun e => absurd rfl e⟩)
    · have := fin 0 (w1_0 ne hb).symm
      rw [← this]
      show (M, nI (su (P.w1 c) i), nI i + 1) = (M, nI (su (P.w1 c) i) + 0, nI i + 1)
      rw [Int32.add_zero]
    · refine sp_beats hP hg (by omega) (by omega) (fun hb2 => ⟨fun e => absurd e (by decide), fun _ => hK hlt _ ?_⟩) (fun hb2 => ⟨fun _ => hK hlt _ ?_, fun e => absurd rfl e⟩)
      · exact fin 2 (w1_2 ne hb2).symm
      · exact fin 1 (w1_1 ne hb2 hb).symm
theorem sp_Cof {F o r c : Nat} {P : pv} {M : om_M} {Q : Int64 → om_M → Prop} (hP : RP o M P) (hg : gd P) (hr : r < 12) (hc : c < P.n) (hF : 10 ≤ F) (h : Q (lN (P.sc r c)) M) : wp_C_of F o (nI r) (nI c) M Q := by
  have hn := hg.2.1
  have hn2 : 2 ≤ P.n := hg.1
  have b1 := pl_le hg c 0
  have b2 := pl_le hg c (P.n - 1)
  have e1 : M.1 o 5 - 1 = nI (P.n - 1) := by rw [hP.1]; exact pk_sub (a := P.n) (b := 1) (by omega)
  have wn : r ≠ 0 → r ≠ 1 → r ≠ 2 → r ≠ 5 → wp_C_wins F o (nI c) M Q := fun n0 n1 n2 n5 => sp_Cwins hP hg hc hF (by
    unfold pv.sc at h
    rw [if_neg n0, if_neg n1, if_neg n2, if_neg n5] at h
    exact h)
  refine pk_eq r 0 (fun e => ?_) (fun n0 => pk_eq r 1 (fun e => ?_) (fun n1 => pk_eq r 2 (fun e => ?_) (fun n2 => pk_eq r 3 (fun e => wn n0 n1 n2 (by omega)) (fun n3 => pk_eq r 4 (fun e => wn n0 n1 n2 (by omega)) (fun n4 => pk_eq r 5 (fun e => ?_) (fun n5 => wn n0 n1 n2 n5))))))
  · unfold pv.sc at h
    rw [if_pos e] at h
    refine ⟨pk_in c 7 (by omega), pk_in 0 7 (by omega), ?_⟩
    rw [nI_clamp (n := c) (by omega), show (0 : Int32).toNatClampNeg = 0 from rfl, hP.2.2.2.2.2.2.2.1 c 0 (by omega) (by omega), nI_l (by omega)]
    exact h
  · unfold pv.sc at h
    rw [if_neg n0, if_pos e] at h
    rw [e1]
    refine ⟨pk_in c 7 (by omega), pk_in (P.n - 1) 7 (by omega), ?_⟩
    rw [nI_clamp (n := c) (by omega), nI_clamp (n := P.n - 1) (by omega), hP.2.2.2.2.2.2.2.1 c (P.n - 1) (by omega) (by omega), nI_l (by omega)]
    exact h
  · unfold pv.sc at h
    rw [if_neg n0, if_neg n1, if_pos e] at h
    exact sp_Cpoints hP hg hc hF h
  · unfold pv.sc at h
    rw [if_neg n0, if_neg n1, if_neg n2, if_pos e] at h
    exact sp_Cdefeat hP hg hc hF h
