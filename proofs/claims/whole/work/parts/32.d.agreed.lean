/-! the best order: pure -/
def rst (n : Nat) (w : Nat → Nat) : Nat → Nat
  | 0 => 2 ^ n - 1
  | k + 1 => md (rst n w k) (w k)
theorem rst_lt (n : Nat) (w : Nat → Nat) : ∀ k, rst n w k < 2 ^ n
  | 0 => by
    show 2 ^ n - 1 < 2 ^ n
    have := Nat.pow_pos (n := n) (show 0 < 2 by decide)
    omega
  | k + 1 => Nat.lt_of_le_of_lt md_le (rst_lt n w k)
theorem rst_bit {n : Nat} (hn : n ≤ 7) (w : Nat → Nat) (c : Nat) : ∀ k, (rst n w k).testBit c = true ↔ (c < n ∧ ∀ j, j < k → w j ≠ c)
  | 0 => by
    show (2 ^ n - 1).testBit c = true ↔ _
    rw [Nat.testBit_two_pow_sub_one, decide_eq_true_eq]
    exact ⟨fun h => ⟨h, fun j hj => absurd hj (by omega)⟩, fun h => h.1⟩
  | k + 1 => by
    have h1 := p2b hn (rst_lt n w k)
    show (md (rst n w k) (w k)).testBit c = true ↔ _
    rw [md_bit (by omega), Bool.and_eq_true, decide_eq_true_eq, rst_bit hn w c k]
    constructor
    · rintro ⟨⟨q1, q2⟩, q3⟩
      refine ⟨q1, fun j hj => ?_⟩
      by_cases e : j = k
      · subst e; exact fun z => q3 z.symm
      · exact q2 j (by omega)
    · rintro ⟨q1, q2⟩
      exact ⟨⟨q1, fun j hj => q2 j (by omega)⟩, fun z => q2 k (by omega) z.symm⟩
theorem rst_congr {n : Nat} {w v : Nat → Nat} : ∀ {k : Nat}, (∀ j, j < k → w j = v j) → rst n w k = rst n v k
  | 0, _ => rfl
  | k + 1, h => by
    show md (rst n w k) (w k) = md (rst n v k) (v k)
    rw [rst_congr (fun j hj => h j (by omega)), h k (by omega)]
theorem rst_pos {n : Nat} (hn : n ≤ 7) {w : Nat → Nat} {k : Nat} (hk : k < n) : 0 < rst n w k := by
  rcases Nat.eq_zero_or_pos (rst n w k) with z | z
  · exfalso
    have hs : ∀ c, ∃ j, c < n → (j < k ∧ w j = c) := fun c => by
      by_cases hc : c < n
      · apply Classical.byContradiction
        intro q
        have : (rst n w k).testBit c = true := (rst_bit hn w c k).mpr ⟨hc, fun j hj e => q ⟨j, fun _ => ⟨hj, e⟩⟩⟩
        rw [z] at this
        simp at this
      · exact ⟨0, fun q => absurd q hc⟩
    have := pg_inj k n (fun c => (hs c).choose) (fun c hc => ((hs c).choose_spec hc).1) (fun a b ha hb e => by
      have h1 := ((hs a).choose_spec ha).2
      have h2 := ((hs b).choose_spec hb).2
      have e : (hs a).choose = (hs b).choose := e
      rw [e] at h1
      exact h1.symm.trans h2)
    omega
  · exact z
theorem rst_mem {n : Nat} (hn : n ≤ 7) {f : Nat → Nat} (hf : isO n f) {i : Nat} (hi : i < n) : (rst n f i).testBit (f i) = true := (rst_bit hn f (f i) i).mpr ⟨hf.1 i hi, fun j hj e => by
  have := hf.2 j i (by omega) hi e
  omega⟩
theorem rst_next {n : Nat} (hn : n ≤ 7) {f : Nat → Nat} {i c : Nat} (hc : c < 7) (hm : (rst n f i).testBit c = true) (e : f i = c) : rst n f (i + 1) = rst n f i - 2 ^ c := by
  subst e
  exact (tb7 _ (p2b hn (rst_lt n f i)) (f i) hc hm).2
theorem rst_end {n : Nat} (hn : n ≤ 7) {f : Nat → Nat} (hf : isO n f) : rst n f n = 0 := by
  rcases Nat.eq_zero_or_pos (rst n f n) with z | z
  · exact z
  · exfalso
    have h1 := p2b hn (rst_lt n f n)
    obtain ⟨c, hc, hb⟩ := ex7 _ h1 z
    obtain ⟨q1, q2⟩ := (rst_bit hn f c n).mp hb
    obtain ⟨k, hk, e⟩ := hf.onto q1
    exact q2 k hk e
def rw1 (P : pv) (f : Nat → Nat) (i : Nat) : Nat := su (fun j => if i < j then P.ah (f j) (f i) else 0) P.n
def dsm (P : pv) (f : Nat → Nat) : Nat := su (rw1 P f) P.n
theorem rw1_ov {P : pv} (hg : gd P) {f : Nat → Nat} (hf : isO P.n f) {i : Nat} (hi : i < P.n) : rw1 P f i = ov P (f i) (rst P.n f (i + 1)) := by
  have hn := hg.2.1
  unfold rw1 ov
  rw [← su_perm hf (fun b => if (rst P.n f (i + 1)).testBit b = true then P.ah b (f i) else 0)]
  refine su_congr (fun j hj => ?_)
  have : (rst P.n f (i + 1)).testBit (f j) = true ↔ i < j := by
    rw [rst_bit hn]
    constructor
    · rintro ⟨-, q⟩
      rcases Nat.lt_or_ge i j with z | z
      · exact z
      · exact absurd rfl (q j (by omega))
    · intro z
      exact ⟨hf.1 j hj, fun k hk e => by
        have := hf.2 k j (by omega) hj e
        omega⟩
  by_cases z : i < j
  · rw [if_pos z, if_pos (this.mpr z)]
  · rw [if_neg z, if_neg (fun y => z (this.mp y))]
/-- the sum of what was paid and of the least that is left only grows -/
theorem pay_step {P : pv} (hg : gd P) {L : Nat → Nat} (hL : LTp P L (2 ^ P.n)) {f : Nat → Nat} (hf : isO P.n f) {i : Nat} (hi : i < P.n) : su (rw1 P f) i + L (rst P.n f i) ≤ su (rw1 P f) (i + 1) + L (rst P.n f (i + 1)) ∧ (su (rw1 P f) i + L (rst P.n f i) = su (rw1 P f) (i + 1) + L (rst P.n f (i + 1)) ↔ ldr P L (rst P.n f i) (f i)) := by
  have hn := hg.2.1
  have hm := rst_mem hn hf hi
  have hfi := hf.1 i hi
  have en := rst_next hn (by omega) hm rfl
  have h1 := (hL.2 _ (rst_pos hn hi) (rst_lt _ _ _)).2 (f i) hfi hm
  have e1 : su (rw1 P f) (i + 1) = su (rw1 P f) i + rw1 P f i := rfl
  rw [e1, rw1_ov hg hf hi, en]
  refine ⟨by omega, ⟨fun q => ⟨hm, by omega⟩, fun q => ?_⟩⟩
  have := q.2
  omega
theorem pay_mono {P : pv} (hg : gd P) {L : Nat → Nat} (hL : LTp P L (2 ^ P.n)) {f : Nat → Nat} (hf : isO P.n f) {i : Nat} : ∀ j, i ≤ j → j ≤ P.n → su (rw1 P f) i + L (rst P.n f i) ≤ su (rw1 P f) j + L (rst P.n f j)
  | 0, h1, h2 => by rw [show i = 0 by omega]; exact Nat.le_refl _
  | j + 1, h1, h2 => by
    by_cases e : i = j + 1
    · rw [e]; exact Nat.le_refl _
    · exact Nat.le_trans (pay_mono hg hL hf j (by omega) (by omega)) (pay_step hg hL hf (by omega)).1
theorem pay_end {P : pv} (hg : gd P) {L : Nat → Nat} (hL : LTp P L (2 ^ P.n)) {f : Nat → Nat} (hf : isO P.n f) : su (rw1 P f) P.n + L (rst P.n f P.n) = dsm P f := by
  rw [rst_end hg.2.1 hf, hL.1]
  rfl
theorem dsm_ge {P : pv} (hg : gd P) {L : Nat → Nat} (hL : LTp P L (2 ^ P.n)) {f : Nat → Nat} (hf : isO P.n f) : L (2 ^ P.n - 1) ≤ dsm P f := by
  have := pay_mono hg hL hf (i := 0) P.n (Nat.zero_le _) (Nat.le_refl _)
  rw [pay_end hg hL hf] at this
  simpa [su, rst] using this
theorem dsm_ldr {P : pv} (hg : gd P) {L : Nat → Nat} (hL : LTp P L (2 ^ P.n)) {f : Nat → Nat} (hf : isO P.n f) (e : dsm P f = L (2 ^ P.n - 1)) {i : Nat} (hi : i < P.n) : ldr P L (rst P.n f i) (f i) := by
  have h1 := pay_mono hg hL hf (i := 0) i (Nat.zero_le _) (by omega)
  have h2 := pay_step hg hL hf hi
  have h3 := pay_mono hg hL hf (i := i + 1) P.n (by omega) (Nat.le_refl _)
  rw [pay_end hg hL hf] at h3
  have h0 : su (rw1 P f) 0 + L (rst P.n f 0) = L (2 ^ P.n - 1) := by simp [su, rst]
  rw [h0] at h1
  exact h2.2.mp (by omega)
theorem dsm_eq {P : pv} (hg : gd P) {L : Nat → Nat} (hL : LTp P L (2 ^ P.n)) {f : Nat → Nat} (hf : isO P.n f) (h : ∀ i, i < P.n → ldr P L (rst P.n f i) (f i)) : dsm P f = L (2 ^ P.n - 1) := by
  have key : ∀ i, i ≤ P.n → su (rw1 P f) i + L (rst P.n f i) = L (2 ^ P.n - 1) := by
    intro i
    induction i with
    | zero => intro _; simp [su, rst]
    | succ i ih =>
      intro hi
      rw [← (pay_step hg hL hf (by omega)).2.mpr (h i (by omega))]
      exact ih (by omega)
  rw [← pay_end hg hL hf]
  exact key P.n (Nat.le_refl _)
theorem dsm_congr {P : pv} {f g : Nat → Nat} (h : ∀ k, k < P.n → f k = g k) : dsm P f = dsm P g := su_congr (fun i hi => su_congr (fun j hj => by rw [h i hi, h j hj]))
theorem rw1_le {P : pv} (hg : gd P) (f : Nat → Nat) (i m : Nat) (hm : m ≤ P.n) : su (fun j => if i < j then P.ah (f j) (f i) else 0) m ≤ 14000007 := by
  have h1 := su_max (n := m) (g := fun j => if i < j then P.ah (f j) (f i) else 0) (m := 2000001) (fun j _ => by
    have := ah_le hg (f j) (f i)
    split <;> omega)
  have hn := hg.2.1
  have h2 : m * 2000001 ≤ 7 * 2000001 := Nat.mul_le_mul_right _ (by omega)
  omega
theorem dsm_le {P : pv} (hg : gd P) (f : Nat → Nat) {m : Nat} (hm : m ≤ P.n) : su (rw1 P f) m ≤ 98000049 := by
  have h1 := su_max (n := m) (g := rw1 P f) (m := 14000007) (fun i _ => rw1_le hg f i P.n (Nat.le_refl _))
  have hn := hg.2.1
  have h2 : m * 14000007 ≤ 7 * 14000007 := Nat.mul_le_mul_right _ (by omega)
  omega
/-- b is no worse than g -/
def le2 (P : pv) (b g : Nat → Nat) : Prop := dsm P b < dsm P g ∨ (dsm P b = dsm P g ∧ ((∀ k, k < P.n → g k = b k) ∨ lex P.n (tpl P) b g))
theorem lex.trans {n : Nat} {v a b c : Nat → Nat} (h : lex n v a b) (g : lex n v b c) : lex n v a c := by
  obtain ⟨p, p1, p2, p3⟩ := h
  obtain ⟨q, q1, q2, q3⟩ := g
  rcases Nat.lt_trichotomy p q with z | z | z
  · exact ⟨p, p1, fun k hk => (p2 k hk).trans (q2 k (by omega)), by rw [← q2 p z]; exact p3⟩
  · subst z
    exact ⟨p, p1, fun k hk => (p2 k hk).trans (q2 k hk), by omega⟩
  · exact ⟨q, q1, fun k hk => (p2 k (by omega)).trans (q2 k hk), by rw [p2 q z]; exact q3⟩
theorem lex.irr {n : Nat} {v a : Nat → Nat} (h : lex n v a a) : False := by
  obtain ⟨p, -, -, p3⟩ := h
  omega
theorem lex.cr {n : Nat} {v a b c : Nat → Nat} (h : lex n v a b) (e : ∀ k, k < n → c k = b k) : lex n v a c := by
  obtain ⟨p, p1, p2, p3⟩ := h
  exact ⟨p, p1, fun k hk => (p2 k hk).trans (e k (by omega)).symm, by rw [e p p1]; exact p3⟩
theorem lex.cl {n : Nat} {v a b c : Nat → Nat} (h : lex n v a b) (e : ∀ k, k < n → c k = a k) : lex n v c b := by
  obtain ⟨p, p1, p2, p3⟩ := h
  exact ⟨p, p1, fun k hk => (e k (by omega)).trans (p2 k hk), by rw [e p p1]; exact p3⟩
theorem lex.tot {P : pv} (hg : gd P) {a b : Nat → Nat} (ha : isO P.n a) (hb : isO P.n b) : (∀ k, k < P.n → a k = b k) ∨ lex P.n (tpl P) a b ∨ lex P.n (tpl P) b a := by
  by_cases e : ∀ k, k < P.n → a k = b k
  · exact Or.inl e
  · obtain ⟨p, h1, h2, h3⟩ := df_ex e
    obtain ⟨l1, e1⟩ := tpl_lt hg (ha.1 p h1)
    obtain ⟨l2, e2⟩ := tpl_lt hg (hb.1 p h1)
    have : tpl P (a p) ≠ tpl P (b p) := fun z => h3 (by rw [← e1, z, e2])
    rcases Nat.lt_or_gt_of_ne this with z | z
    · exact Or.inr (Or.inl ⟨p, h1, h2, z⟩)
    · exact Or.inr (Or.inr ⟨p, h1, fun k hk => (h2 k hk).symm, z⟩)
theorem le2.trans {P : pv} {a b c : Nat → Nat} (h : le2 P a b) (g : le2 P b c) : le2 P a c := by
  rcases h with h | ⟨h1, h2⟩
  · rcases g with g | ⟨g1, -⟩
    · exact Or.inl (by omega)
    · exact Or.inl (by omega)
  · rcases g with g | ⟨g1, g2⟩
    · exact Or.inl (by omega)
    · refine Or.inr ⟨by omega, ?_⟩
      rcases h2 with h2 | h2
      · rcases g2 with g2 | g2
        · exact Or.inl (fun k hk => (g2 k hk).trans (h2 k hk))
        · exact Or.inr (g2.cl (fun k hk => (h2 k hk).symm))
      · rcases g2 with g2 | g2
        · exact Or.inr (h2.cr g2)
        · exact Or.inr (h2.trans g2)
theorem le2.anti {P : pv} {a b : Nat → Nat} (h : le2 P a b) (g : le2 P b a) : (∀ k, k < P.n → a k = b k) ∧ dsm P a = dsm P b := by
  rcases h with h | ⟨h1, h2⟩
  · rcases g with g | ⟨g1, -⟩ <;> omega
  · refine ⟨?_, h1⟩
    rcases h2 with h2 | h2
    · exact fun k hk => (h2 k hk).symm
    · rcases g with g | ⟨-, g⟩
      · omega
      · rcases g with g | g
        · exact g
        · exact (h2.trans g).irr.elim
/-- the greedy order -/
def gdy (P : pv) (L : Nat → Nat) (w : Nat → Nat) (k : Nat) : Prop := ∃ q, hd P.n P.ti (ldr P L (rst P.n w k)) q ∧ P.ti q = w k
theorem gdy.is {P : pv} (hg : gd P) {L w : Nat → Nat} (h : ∀ k, k < P.n → gdy P L w k) : isO P.n w := by
  have hn := hg.2.1
  have key : ∀ k, k < P.n → w k < P.n ∧ ∀ j, j < k → w j ≠ w k := fun k hk => by
    obtain ⟨q, q1, q2⟩ := h k hk
    have := (rst_bit hn w _ k).mp q1.2.1.1
    rw [q2] at this
    exact this
  refine ⟨fun k hk => (key k hk).1, fun a b ha hb e => ?_⟩
  rcases Nat.lt_trichotomy a b with z | z | z
  · exact absurd e ((key b hb).2 a z)
  · exact z
  · exact absurd e.symm ((key a ha).2 b z)
theorem gdy.best {P : pv} (hg : gd P) {L w : Nat → Nat} (hL : LTp P L (2 ^ P.n)) (h : ∀ k, k < P.n → gdy P L w k) : dsm P w = L (2 ^ P.n - 1) ∧ ∀ g, isO P.n g → le2 P w g := by
  have hw := gdy.is hg h
  have e := dsm_eq hg hL hw (fun i hi => by
    obtain ⟨q, q1, q2⟩ := h i hi
    rw [← q2]; exact q1.2.1)
  refine ⟨e, fun g hgo => ?_⟩
  have hge := dsm_ge hg hL hgo
  by_cases z : dsm P g = L (2 ^ P.n - 1)
  · refine Or.inr ⟨by omega, ?_⟩
    by_cases y : ∀ k, k < P.n → g k = w k
    · exact Or.inl y
    · obtain ⟨p, h1, h2, h3⟩ := df_ex y
      refine Or.inr ⟨p, h1, fun k hk => (h2 k hk).symm, ?_⟩
      have hl := dsm_ldr hg hL hgo z h1
      rw [rst_congr (v := w) h2] at hl
      obtain ⟨q, q1, q2⟩ := h p h1
      obtain ⟨l1, e1⟩ := tpl_lt hg (hgo.1 p h1)
      have tq : tpl P (w p) = q := by rw [← q2]; exact tpl_eq hg q1.1
      rw [tq]
      rcases Nat.lt_trichotomy (tpl P (g p)) q with x | x | x
      · exact absurd (by rw [e1]; exact hl) (q1.2.2 _ x)
      · exact absurd (by rw [← e1, x, q2]) h3
      · exact x
  · exact Or.inl (by omega)
theorem sp_best {F : Nat} {P : pv} {M : om_M} {Q : Int32 → om_M → Prop} (hP : RP 1 M P) (hg : gd P) (ht : ta M) (hF : 1000 ≤ F) (h : ∀ M' L w, cr M M' → LTp P L (2 ^ P.n) → (∀ k, k < P.n → gdy P L w k) → Q (nI (pz w P.n)) M') : wp_A_bestOrder F 38 1 M Q := by
  have hn := hg.2.1
  have hb := p2n hg
  have hti := hg.2.2.2.2.2.1
  refine sp_weigh hP hg (Or.inl rfl) ht hF (fun M1 L j1 j2 j3 j4 => ?_)
  have hP1 := j1.RP (Or.inl rfl) hP
  show wp_A_bestOrder_15 F 38 1 Q M1 0 (((1 : Int32) <<< ((M1.1 1 5) &&& 31)) - 1) 0
  rw [hP1.1, mb_all (by omega)]
  refine pu_loop P.n (fun i z => ∃ w, z = (M1, nI (pz w i), nI (rst P.n w i), nI i) ∧ ∀ k, k < i → gdy P L w k) (fun i z K hi hJ hK => ?_) (i := 0) (by omega) (by omega) ⟨fun _ => 0, rfl, fun k hk => absurd hk (by omega)⟩
  obtain ⟨w, rfl, hw⟩ := hJ
  refine pk_le P.n i (fun hle => ?_) (fun hlt => ?_) hP1.1
  · have e : i = P.n := by omega
    subst e
    exact h M1 L w j1 j4 hw
  · rw [show (M1, nI (pz w i), nI (rst P.n w i), nI i).1.1 1 5 = nI P.n from hP1.1]
    refine sp_bestLeaders hg j2 j3 j4 (rst_lt _ _ _) (by omega) (fun x hx => ?_)
    refine sp_firstInTie hP1 hg hx (by omega) (fun q hq => hK hlt _ ⟨uf w i (P.ti q), ?_, fun k hk => ?_⟩) (fun z => ?_)
    · have hq7 := hti.1 q hq.1
      have pre : ∀ j, j < i → w j = uf w i (P.ti q) j := fun j hj => (uf_n (by omega)).symm
      have b8 : ∀ j, j < i + 1 → uf w i (P.ti q) j < 8 := fun j hj => by
        by_cases z : j = i
        · subst z; rw [uf_s]; omega
        · rw [uf_n z]
          obtain ⟨q', q1', q2'⟩ := hw j (by omega)
          have := hti.1 q' q1'.1
          omega
      have e1 : nI (pz w i) ||| nI (P.ti q) <<< (((3 : Int32) * nI i) &&& 31) = nI (pz (uf w i (P.ti q)) (i + 1)) := by
        have := pa_put (f := uf w i (P.ti q)) (k := i) b8 (by omega)
        rw [uf_s, ← pz_congr pre] at this
        exact this
      rw [mb_one (by omega), mb_del, e1, nI_1]
      show _ = (M1, nI (pz (uf w i (P.ti q)) (i + 1)), nI (md (rst P.n (uf w i (P.ti q)) i) (uf w i (P.ti q) i)), nI (i + 1))
      rw [uf_s, ← rst_congr pre]
    · by_cases z : k = i
      · subst z
        refine ⟨q, ?_, by rw [uf_s]⟩
        rw [← rst_congr (w := w) (fun j hj => (uf_n (by omega)).symm)]
        exact hq
      · obtain ⟨q', q1', q2'⟩ := hw k (by omega)
        refine ⟨q', ?_, by rw [uf_n z]; exact q2'⟩
        rw [← rst_congr (w := w) (fun j hj => (uf_n (by omega)).symm)]
        exact q1'
    · obtain ⟨⟨c, c1, c2, c3⟩, -⟩ := j4.2 _ (rst_pos hn (w := w) hlt) (rst_lt _ _ _)
      exact absurd ⟨c2, c3.symm⟩ (z c c1)
theorem sp_leastAll {F : Nat} {P : pv} {M : om_M} {Q : Int64 → om_M → Prop} (hP : RP 1 M P) (hg : gd P) (ht : ta M) (hF : 1000 ≤ F) (h : ∀ M' L, cr M M' → LTp P L (2 ^ P.n) → Q (lN (L (2 ^ P.n - 1))) M') : wp_A_leastOfAll F 38 1 M Q := by
  have hn := hg.2.1
  have hb := p2n hg
  refine sp_weigh hP hg (Or.inl rfl) ht hF (fun M1 L j1 j2 j3 j4 => ?_)
  have hP1 := j1.RP (Or.inl rfl) hP
  show vp_in (((1 : Int32) <<< ((M1.1 1 5) &&& 31)) - 1) 128 ∧ Q ((M1.1 (38 + 1) (((1 : Int32) <<< ((M1.1 1 5) &&& 31)) - 1).toNatClampNeg).toInt64) M1
  rw [hP1.1, mb_all (by omega), nI_clamp (n := 2 ^ P.n - 1) (by omega), j3 _ (by omega)]
  have h1 := j4.le hg (Nat.le_refl _) (2 ^ P.n - 1) (by omega)
  have h2 := pc_le (2 ^ P.n - 1) (by omega)
  have h3 : tri (pc (2 ^ P.n - 1)) ≤ 21 := by
    have : ∀ k, k ≤ 7 → tri k ≤ 21 := by decide
    exact this _ h2
  have h4 : tri (pc (2 ^ P.n - 1)) * 2000001 ≤ 21 * 2000001 := Nat.mul_le_mul_right _ h3
  rw [nI_l (by omega)]
  exact ⟨pk_in (2 ^ P.n - 1) 128 (by omega), h M1 L j1 j4⟩
