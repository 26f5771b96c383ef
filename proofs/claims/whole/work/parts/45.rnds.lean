/-! MATHEMATICS 15: rounds: walks with the set of rooms one has been in -/
def wkR (E : Nat → Nat → Prop) (a : Nat) : Nat → Nat → Nat → Prop
  | 0, S, r => S = 2 ^ a ∧ r = a
  | k + 1, S, r => ∃ T q, wkR E a k T q ∧ E q r ∧ S = T ||| 2 ^ r
theorem tb_or {S r i : Nat} : (S ||| 2 ^ r).testBit i = (S.testBit i || decide (r = i)) := by rw [Nat.testBit_or, Nat.testBit_two_pow]
theorem tb_all {n i : Nat} : (2 ^ n - 1).testBit i = decide (i < n) := Nat.testBit_two_pow_sub_one n i
theorem or_lt {S r n : Nat} (hS : S < 2 ^ n) (hr : r < n) : S ||| 2 ^ r < 2 ^ n := Nat.or_lt_two_pow hS (Nat.pow_lt_pow_right (by decide) hr)
theorem or_gt {S r : Nat} (h : S.testBit r = false) : S < S ||| 2 ^ r := by
  have h1 : S ≤ S ||| 2 ^ r := Nat.left_le_or
  rcases Nat.lt_or_eq_of_le h1 with h2 | h2
  · exact h2
  · have := congrArg (fun z => Nat.testBit z r) h2
    simp only [tb_or, h, decide_true, Bool.or_true] at this
    cases this
theorem tb_up {S n : Nat} (hS : S < 2 ^ n) {i : Nat} (h : S.testBit i = true) : i < n := by
  apply Classical.byContradiction
  intro z
  rw [Nat.testBit_lt_two_pow (Nat.lt_of_lt_of_le hS (Nat.pow_le_pow_right (by decide) (by omega)))] at h
  cases h
theorem wk_in {u : MU} {s : SU} (hu : UW u) {a : Nat} (ha : a < uN u) : ∀ {k S r}, wkR (ed u s) a k S r → S < 2 ^ uN u ∧ r < uN u ∧ S.testBit r = true := by
  intro k
  induction k with
  | zero =>
    rintro S r ⟨rfl, rfl⟩
    exact ⟨Nat.pow_lt_pow_right (by decide) ha, ha, by rw [Nat.testBit_two_pow]; simp⟩
  | succ k ih =>
    rintro S r ⟨T, q, h1, h2, rfl⟩
    have hr := (ed_lt hu h2).2.1
    exact ⟨or_lt (ih h1).1 hr, hr, by rw [tb_or]; simp⟩
/-- what must hold of the reference's table -/
def DR (u : MU) (s : SU) (f : Nat → Nat → Nat) (a : Nat) (D : Nat → Nat → Nat) (S0 r0 s0 : Nat) : Prop :=
  (∀ S r, S < 2 ^ uN u → r < uN u → D S r ≤ 999) ∧
  (∀ S r, S < 2 ^ uN u → r < uN u → D S r < 999 → S.testBit r = true ∧ D S r + 10 ≤ 10 * cnt (Nat.testBit S) (uN u) ∧ ∃ k T, k ≤ D S r ∧ (∀ i, S.testBit i = true → T.testBit i = true) ∧ wkR (ed u s) a k T r) ∧
  D (2 ^ a) a = 0 ∧
  ∀ S r q, S < 2 ^ uN u → r < uN u → q < uN u → S.testBit q = false → D S r < 999 → (S < S0 ∨ (S = S0 ∧ (r < r0 ∨ (r = r0 ∧ q < s0)))) → D (S ||| 2 ^ q) q ≤ D S r + f r q
theorem wk_go {u : MU} {s : SU} (hu : UW u) {a : Nat} (ha : a < uN u) {k T q : Nat} (h : wkR (ed u s) a k T q) : ∀ {j r}, bt (rkF (nbA u s) (bi q) j) r = true → ∃ k' T', k' ≤ k + j ∧ (∀ i, T.testBit i = true → T'.testBit i = true) ∧ wkR (ed u s) a k' T' r := by
  intro j
  have hn := hu.1
  have hq := (wk_in hu ha h).2.1
  induction j with
  | zero =>
    intro r h1
    rw [show rkF (nbA u s) (bi q) 0 = bi q from rfl, b_bi (by omega), decide_eq_true_eq] at h1
    subst h1
    exact ⟨k, T, Nat.le_refl _, fun _ z => z, h⟩
  | succ j ih =>
    intro r h1
    rw [rkF, b_or, Bool.or_eq_true] at h1
    rcases h1 with h1 | h1
    · obtain ⟨k', T', h2, h3, h4⟩ := ih h1
      exact ⟨k', T', by omega, h3, h4⟩
    · obtain ⟨c, h2, h3⟩ := (b_nbA hu).mp h1
      obtain ⟨k', T', h4, h5, h6⟩ := ih h2
      exact ⟨k' + 1, T' ||| 2 ^ r, by omega, fun i z => by rw [tb_or, h5 i z]; rfl, T', c, h6, h3, rfl⟩
theorem cnt_or {S q n : Nat} (hq : q < n) (h : S.testBit q = false) : cnt (Nat.testBit (S ||| 2 ^ q)) n = cnt (Nat.testBit S) n + 1 := by
  have : ∀ m, cnt (Nat.testBit (S ||| 2 ^ q)) m = cnt (Nat.testBit S) m + if q < m then 1 else 0 := by
    intro m
    induction m with
    | zero => rfl
    | succ m ih =>
      simp only [cnt]
      rw [ih, tb_or]
      by_cases e : q = m
      · subst e
        simp [h]
      · by_cases c : q < m
        · simp [e, c, show q < m + 1 by omega]; omega
        · simp [e, c, show ¬ q < m + 1 by omega]
  rw [this, if_pos hq]
/-- what the table says of the end -/
def RES (u : MU) (s : SU) (a : Nat) (x y : Int32) : Prop := (∃ k r, k ≤ 100 ∧ r < uN u ∧ x = nI k ∧ y = nI r ∧ wkR (ed u s) a k (2 ^ uN u - 1) r ∧ (∀ j, j < k → ∀ q, ¬ wkR (ed u s) a j (2 ^ uN u - 1) q) ∧ ∀ q, q < r → ¬ wkR (ed u s) a k (2 ^ uN u - 1) q) ∨ (x = -1 ∧ y = -1 ∧ ∀ k r, k ≤ 100 → ¬ wkR (ed u s) a k (2 ^ uN u - 1) r)
theorem RES.eq {u : MU} {s : SU} {a : Nat} {x y x' y' : Int32} (h : RES u s a x y) (h' : RES u s a x' y') : x = x' ∧ y = y' := by
  rcases h with ⟨k, r, a1, a2, rfl, rfl, a5, a6, a7⟩ | ⟨rfl, rfl, a3⟩
  · rcases h' with ⟨k', r', b1, b2, rfl, rfl, b5, b6, b7⟩ | ⟨rfl, rfl, b3⟩
    · have ek : k = k' := by
        rcases Nat.lt_trichotomy k k' with z | z | z
        · exact absurd a5 (b6 k z r)
        · exact z
        · exact absurd b5 (a6 k' z r')
      subst ek
      have er : r = r' := by
        rcases Nat.lt_trichotomy r r' with z | z | z
        · exact absurd a5 (b7 r z)
        · exact z
        · exact absurd b5 (a7 r' z)
      subst er
      exact ⟨rfl, rfl⟩
    · exact absurd a5 (b3 k r a1)
  · rcases h' with ⟨k', r', b1, b2, rfl, rfl, b5, b6, b7⟩ | ⟨rfl, rfl, b3⟩
    · exact absurd b5 (a3 k' r' b1)
    · exact ⟨rfl, rfl⟩
theorem DR.low {u : MU} {s : SU} {f : Nat → Nat → Nat} {a : Nat} {D : Nat → Nat → Nat} (hu : UW u) (hf : FW u s f) (ha : a < uN u) (h : DR u s f a D (2 ^ uN u) 0 0) : ∀ {k S r}, k < 900 → wkR (ed u s) a k S r → ∃ q, q < uN u ∧ D S q + f q r ≤ k := by
  have hn := hu.1
  intro k
  induction k with
  | zero =>
    rintro S r _ ⟨rfl, rfl⟩
    exact ⟨r, ha, by rw [h.2.2.1, hf.2.2.1 r (by omega)]; omega⟩
  | succ k ih =>
    rintro S r hk ⟨T, q, h1, h2, rfl⟩
    obtain ⟨p, h3, h4⟩ := ih (by omega) h1
    have hT := wk_in hu ha h1
    have hr := (ed_lt hu h2).2.1
    have e1 := hf.2.2.2.1 q r (by omega) (by omega) h2
    have e2 := hf.2.2.2.2 p q r (by omega) (by omega) (by omega)
    cases c : T.testBit r
    · have := h.2.2.2 T p r hT.1 h3 hr c (by omega) (Or.inl hT.1)
      exact ⟨r, hr, by rw [hf.2.2.1 r (by omega)]; omega⟩
    · have : T ||| 2 ^ r = T := by
        apply Nat.eq_of_testBit_eq
        intro i
        rw [tb_or]
        by_cases e : r = i
        · subst e; rw [c]; rfl
        · rw [decide_eq_false e, Bool.or_false]
      rw [this]
      exact ⟨p, h3, by omega⟩
/-- the least of a row, the first such -/
def agM (g : Nat → Nat) : Nat → Nat
  | 0 => 0
  | k + 1 => if k = 0 then 0 else if g (agM g k) ≤ g k then agM g k else k
theorem agM_ok {g : Nat → Nat} : ∀ n, 0 < n → agM g n < n ∧ (∀ q, q < n → g (agM g n) ≤ g q) ∧ ∀ q, q < agM g n → g (agM g n) < g q := by
  intro n
  induction n with
  | zero => intro h; omega
  | succ n ih =>
    intro _
    rw [agM]
    by_cases e : n = 0
    · subst e
      simp only [if_true]
      exact ⟨by omega, fun q hq => by rw [show q = 0 by omega]; exact Nat.le_refl _, fun q hq => by omega⟩
    · obtain ⟨h1, h2, h3⟩ := ih (by omega)
      simp only [e, if_false]
      by_cases c : g (agM g n) ≤ g n
      · simp only [c, if_true]
        refine ⟨by omega, fun q hq => ?_, h3⟩
        by_cases e2 : q = n
        · subst e2; exact c
        · exact h2 q (by omega)
      · simp only [c, if_false]
        refine ⟨by omega, fun q hq => ?_, fun q hq => ?_⟩
        · by_cases e2 : q = n
          · subst e2; exact Nat.le_refl _
          · have := h2 q (by omega); omega
        · have := h2 q hq; omega
theorem DR.res {u : MU} {s : SU} {f : Nat → Nat → Nat} {a : Nat} {D : Nat → Nat → Nat} (hu : UW u) (hf : FW u s f) (ha : a < uN u) (h : DR u s f a D (2 ^ uN u) 0 0) : RES u s a (orN (D (2 ^ uN u - 1) (agM (D (2 ^ uN u - 1)) (uN u)))) (if D (2 ^ uN u - 1) (agM (D (2 ^ uN u - 1)) (uN u)) < 999 then nI (agM (D (2 ^ uN u - 1)) (uN u)) else -1) := by
  have hn := hu.1
  have hall : 2 ^ uN u - 1 < 2 ^ uN u := Nat.sub_lt (Nat.two_pow_pos _) (by decide)
  obtain ⟨m1, m2, m3⟩ := agM_ok (g := D (2 ^ uN u - 1)) (uN u) (by omega)
  generalize agM (D (2 ^ uN u - 1)) (uN u) = m at m1 m2 m3
  have up : ∀ r, r < uN u → D (2 ^ uN u - 1) r < 999 → D (2 ^ uN u - 1) r ≤ 90 ∧ ∃ k, k ≤ D (2 ^ uN u - 1) r ∧ wkR (ed u s) a k (2 ^ uN u - 1) r := by
    intro r hr hl
    obtain ⟨_, h2, k, T, h3, h4, h5⟩ := h.2.1 (2 ^ uN u - 1) r hall hr hl
    have := cnt_le (Nat.testBit (2 ^ uN u - 1)) (uN u)
    refine ⟨by omega, k, h3, ?_⟩
    have hT := (wk_in hu ha h5).1
    have : T = 2 ^ uN u - 1 := by
      apply Nat.eq_of_testBit_eq
      intro i
      rw [tb_all]
      by_cases c : i < uN u
      · rw [decide_eq_true c]
        exact h4 i (by rw [tb_all, decide_eq_true c])
      · rw [decide_eq_false c]
        apply Bool.eq_false_iff.mpr
        intro z
        exact c (tb_up hT z)
    rw [← this]; exact h5
  by_cases c : D (2 ^ uN u - 1) m < 999
  · obtain ⟨c90, k, h1, h2⟩ := up m m1 c
    have low : ∀ {j q}, j < 900 → wkR (ed u s) a j (2 ^ uN u - 1) q → D (2 ^ uN u - 1) m ≤ j ∧ (j = D (2 ^ uN u - 1) m → D (2 ^ uN u - 1) q = j) := by
      intro j q hj hw
      obtain ⟨p, p1, p2⟩ := h.low hu hf ha hj hw
      have := m2 p p1
      have hq := (wk_in hu ha hw).2.1
      refine ⟨by omega, fun e => ?_⟩
      have e0 : f p q = 0 := by omega
      have : p = q := by
        have := hf.2.1 p q (by omega) (by omega) (by omega)
        rw [e0, show rkF (nbA u s) (bi p) 0 = bi p from rfl, b_bi (by omega), decide_eq_true_eq] at this
        exact this.symm
      subst this
      omega
    have ek : k = D (2 ^ uN u - 1) m := by have := (low (by omega) h2).1; omega
    subst ek
    left
    refine ⟨_, m, by omega, m1, by rw [orN, if_pos c], by rw [if_pos c], h2, fun j hj q hw => ?_, fun q hq hw => ?_⟩
    · have := (low (by omega) hw).1; omega
    · have := (low (by omega) hw).2 rfl
      have := m3 q hq
      omega
  · right
    refine ⟨by rw [orN, if_neg c], by rw [if_neg c], fun k r hk hw => ?_⟩
    obtain ⟨p, p1, p2⟩ := h.low hu hf ha (by omega) hw
    have := m2 p p1
    omega
/-! the reference's table -/
def rR (c _ : Nat) : Prop := 533 ≤ c ∧ c < 1557
def Rd (u : MU) (D : Nat → Nat → Nat) (M : Mem) : Prop := ∀ S r, S < 2 ^ uN u → r < uN u → rd M (533 + S) r = nI (D S r)
theorem pow10 {n : Nat} (h : n ≤ 10) : 2 ^ n ≤ 1024 := Nat.pow_le_pow_right (n := 2) (i := n) (j := 10) (by decide) h
theorem bi_nI {r : Nat} (h : r < 31) : bi r = nI (2 ^ r) := bi_num r h
theorem nI_orN {a b : Nat} : nI a ||| nI b = nI (a ||| b) := by
  apply Int32.toBitVec_inj.1
  show BitVec.ofNat 32 a ||| BitVec.ofNat 32 b = BitVec.ofNat 32 (a ||| b)
  apply BitVec.eq_of_getLsbD_eq
  intro i hi
  simp [hi]
theorem r_allN {u : MU} {M : Mem} (hp : RP u M) : F_12_allRooms_0 M = nI (2 ^ uN u - 1) := by rw [r_allRooms hp, all_num _ (by have := hp.1.1; omega)]
theorem wr_Rd {M : Mem} {T j : Nat} {v : Int32} (S r : Nat) : rd (wr M (533 + T) j v) (533 + S) r = if S = T ∧ r = j then v else rd M (533 + S) r := by
  rw [rd_wr]
  by_cases e : S = T ∧ r = j
  · rw [if_pos e, if_pos ⟨by omega, e.2⟩]
  · rw [if_neg e, if_neg (fun z => e ⟨by omega, z.2⟩)]
theorem RP.kR {u : MU} {M M' : Mem} (h : RP u M) (hk : Kp rR M M') : RP u M' := h.k hk (fun a j z => by unfold rR at z; omega)
def upD (D : Nat → Nat → Nat) (T t v X y : Nat) : Nat := if X = T ∧ y = t then v else D X y
theorem upD_s {D : Nat → Nat → Nat} {T t v : Nat} : upD D T t v T t = v := if_pos ⟨rfl, rfl⟩
theorem upD_n {D : Nat → Nat → Nat} {T t v X y : Nat} (h : ¬ (X = T ∧ y = t)) : upD D T t v X y = D X y := if_neg h
theorem upD_le {D : Nat → Nat → Nat} {T t v : Nat} (hv : v ≤ D T t) (X y : Nat) : upD D T t v X y ≤ D X y := by
  by_cases e : X = T ∧ y = t
  · obtain ⟨rfl, rfl⟩ := e
    rw [upD_s]; exact hv
  · rw [upD_n e]; exact Nat.le_refl _
theorem d_in {u : MU} {s : SU} {f : Nat → Nat → Nat} {a : Nat} {M M1 : Mem} {D : Nat → Nat → Nat} (hp : RP u M) (hF : FR f M) (hf : FW u s f) (ha : a < uN u) {k62 : Int32 → Mem → Mem} {pk62 : Int32 → Mem → Prop} {k72 : Int32 → Int32 → Mem → Mem} {pk72 : Int32 → Int32 → Mem → Prop} {Q : Mem → Prop} {S r : Nat} (hS : S < 2 ^ uN u) (hr : r < uN u) (hK : Kp rR M M1) (hD : DR u s f a D S r 0) (hR : Rd u D M1) (hl : D S r < 999)
    (hn' : ∀ M2 D2, Kp rR M M2 → DR u s f a D2 S (r + 1) 0 → Rd u D2 M2 → pk72 (nI S) (nI r + 1) M2 ∧ Q (k72 (nI S) (nI r + 1) M2)) : P_12_laysRounds_102 pk62 pk72 FU (nI S) (nI r) 0 M1 ∧ Q (F_12_laysRounds_102 k62 k72 FU (nI S) (nI r) 0 M1) := by
  have hu := hp.1
  have hn := hu.1
  have h1024 := pow10 hn
  refine lq (S := Mem) (F := fun n i q => F_12_laysRounds_102 k62 k72 n (nI S) (nI r) i q) (P := fun n i q => P_12_laysRounds_102 pk62 pk72 n (nI S) (nI r) i q) (Q := Q) (uN u) (fun t q => Kp rR M q ∧ ∃ D, DR u s f a D S r t ∧ Rd u D q ∧ D S r < 999) ?_ ?_ FU 0 M1 ⟨hK, D, hD, hR, hl⟩ (Nat.zero_le _) (FU_ge (by omega))
  · rintro n t M2 ht ⟨hK2, D2, hD2, hR2, hl2⟩ ih
    try dsimp only at ih ⊢
    have q1 : ¬ nI (uN u) ≤ nI t := nI_ge ht (by omega)
    have hp2 := hp.kR hK2
    have hh := r_has M2 (nI S) (i := t) (by omega)
    rw [b_nI (by omega)] at hh
    have f1 : rd M2 (497 + r) t = nI (f r t) := by rw [hK2.g (by unfold rR; omega)]; exact hF r t (by omega) (by omega)
    have b1 := hf.1 r t (by omega) (by omega)
    have v1 : vp_in (nI t) 10 := (vp_iff (by omega)).mpr (by omega)
    have v2 : vp_in (nI r) 10 := (vp_iff (by omega)).mpr (by omega)
    have v3 : vp_in (nI S) 1024 := (vp_iff (by omega)).mpr (by omega)
    rw [P_12_laysRounds_102, F_12_laysRounds_102, cl0, hp2.2.1]
    simp only [q1, hh, ib0, if_true, if_false, true_imp_iff, false_imp_iff, not_true_eq_false, not_false_eq_true, true_and, and_true, implies_true, reduceIte, P_12_laysRounds_171, F_12_laysRounds_171, bi_of, bi_nI (r := t) (by omega), nI_orN]
    cases c : S.testBit t
    · have hT := or_lt (r := t) hS ht
      have hgt := or_gt c
      have v4 : vp_in (nI (S ||| 2 ^ t)) 1024 := (vp_iff (by omega)).mpr (by omega)
      have b2 := hD2.1 (S ||| 2 ^ t) t hT ht
      simp only [v1, v2, v3, v4, nI_clamp (n := S ||| 2 ^ t) (by omega), nI_clamp (n := S) (by omega), nI_clamp (n := r) (by omega), nI_clamp (n := t) (by omega), hR2 (S ||| 2 ^ t) t hT ht, hR2 S r hS hr, f1, nI_add, if_true, if_false, true_imp_iff, false_imp_iff, not_true_eq_false, not_false_eq_true, true_and, and_true, implies_true, reduceIte]
      rw [r_less (by omega) (by omega)]
      generalize hv : (if D2 S r + f r t < D2 (S ||| 2 ^ t) t then D2 S r + f r t else D2 (S ||| 2 ^ t) t) = v
      have v5 : v ≤ D2 (S ||| 2 ^ t) t ∧ v ≤ D2 S r + f r t ∧ (v = D2 S r + f r t ∨ v = D2 (S ||| 2 ^ t) t) := by rw [← hv]; split <;> omega
      have hg := ih (wr M2 (533 + (S ||| 2 ^ t)) t (nI v)) ⟨hK2.w ⟨by omega, by omega⟩, upD D2 (S ||| 2 ^ t) t v, ?_, ?_, ?_⟩
      · exact hg
      · have le := upD_le (D := D2) v5.1
        have eqS : ∀ X y, X ≤ S → upD D2 (S ||| 2 ^ t) t v X y = D2 X y := fun X y hX => upD_n (fun z => by omega)
        refine ⟨fun X y hX hy => Nat.le_trans (le X y) (hD2.1 X y hX hy), fun X y hX hy hlt => ?_, ?_, fun X y q hX hy hq hb hlt ho => ?_⟩
        · by_cases e : X = S ||| 2 ^ t ∧ y = t
          · obtain ⟨rfl, rfl⟩ := e
            rw [upD_s] at hlt ⊢
            rcases v5.2.2 with e2 | e2
            · obtain ⟨g1, g2, k, T, g3, g4, g5⟩ := hD2.2.1 S r hS hr hl2
              have t10 := hf.ten hu (a := r) (b := y) (by omega) (by omega) (by omega)
              obtain ⟨k', T', g6, g7, g8⟩ := wk_go hu ha g5 (hf.2.1 r y (by omega) (by omega) (by omega))
              refine ⟨by rw [tb_or]; simp, by rw [cnt_or hy c]; omega, k', T', by omega, fun i hi => ?_, g8⟩
              rw [tb_or, Bool.or_eq_true, decide_eq_true_eq] at hi
              rcases hi with hi | hi
              · exact g7 i (g4 i hi)
              · subst hi; exact (wk_in hu ha g8).2.2
            · rw [e2] at hlt ⊢
              exact hD2.2.1 _ _ hX hy hlt
          · rw [upD_n e] at hlt ⊢
            exact hD2.2.1 X y hX hy hlt
        · have := le (2 ^ a) a
          rw [hD2.2.2.1] at this
          omega
        · have hXS : X ≤ S := by omega
          rw [eqS X y hXS] at hlt ⊢
          by_cases e : X = S ∧ y = r ∧ q = t
          · obtain ⟨rfl, rfl, rfl⟩ := e
            rw [upD_s]
            exact v5.2.1
          · exact Nat.le_trans (le _ _) (hD2.2.2.2 X y q hX hy hq hb hlt (by omega))
      · intro X y hX hy
        rw [wr_Rd, hR2 X y hX hy]
        by_cases e : X = S ||| 2 ^ t ∧ y = t
        · rw [if_pos e, e.1, e.2, upD_s]
        · rw [if_neg e, upD_n e]
      · rw [upD_n (fun z => by omega)]; exact hl2
    · have hg := ih M2 ⟨hK2, D2, ⟨hD2.1, hD2.2.1, hD2.2.2.1, fun X y q hX hy hq hb hlt ho => hD2.2.2.2 X y q hX hy hq hb hlt (by
        by_cases e : X = S ∧ y = r ∧ q = t
        · rw [e.1, e.2.2, c] at hb; cases hb
        · omega)⟩, hR2, hl2⟩
      simpa using hg
  · rintro n M2 ⟨hK2, D2, hD2, hR2, hl2⟩
    try dsimp only
    have q1 : nI (uN u) ≤ nI (uN u) := nI_le (Nat.le_refl _) (by omega)
    rw [P_12_laysRounds_102, F_12_laysRounds_102, cl0, (hp.kR hK2).2.1]
    simp only [q1, if_true, if_false, true_imp_iff, false_imp_iff, not_true_eq_false, not_false_eq_true, true_and, and_true, implies_true, reduceIte, P_12_laysRounds_177, F_12_laysRounds_177]
    exact hn' M2 D2 hK2 ⟨hD2.1, hD2.2.1, hD2.2.2.1, fun X y q hX hy hq hb hlt ho => hD2.2.2.2 X y q hX hy hq hb hlt (by omega)⟩ hR2
theorem d_mid {u : MU} {s : SU} {f : Nat → Nat → Nat} {a : Nat} {M M1 : Mem} {D : Nat → Nat → Nat} (hp : RP u M) (hF : FR f M) (hf : FW u s f) (ha : a < uN u) {k62 : Int32 → Mem → Mem} {pk62 : Int32 → Mem → Prop} {Q : Mem → Prop} {S : Nat} (hS : S < 2 ^ uN u) (hK : Kp rR M M1) (hD : DR u s f a D S 0 0) (hR : Rd u D M1)
    (hn' : ∀ M2 D2, Kp rR M M2 → DR u s f a D2 (S + 1) 0 0 → Rd u D2 M2 → pk62 (nI S + 1) M2 ∧ Q (k62 (nI S + 1) M2)) : P_12_laysRounds_72 pk62 FU (nI S) 0 M1 ∧ Q (F_12_laysRounds_72 k62 FU (nI S) 0 M1) := by
  have hu := hp.1
  have hn := hu.1
  have h1024 := pow10 hn
  refine lq (S := Mem) (F := fun n i q => F_12_laysRounds_72 k62 n (nI S) i q) (P := fun n i q => P_12_laysRounds_72 pk62 n (nI S) i q) (Q := Q) (uN u) (fun r q => Kp rR M q ∧ ∃ D, DR u s f a D S r 0 ∧ Rd u D q) ?_ ?_ FU 0 M1 ⟨hK, D, hD, hR⟩ (Nat.zero_le _) (FU_ge (by omega))
  · rintro n r M2 hr ⟨hK2, D2, hD2, hR2⟩ ih
    try dsimp only at ih ⊢
    have q1 : ¬ nI (uN u) ≤ nI r := nI_ge hr (by omega)
    have hp2 := hp.kR hK2
    have v2 : vp_in (nI r) 10 := (vp_iff (by omega)).mpr (by omega)
    have v3 : vp_in (nI S) 1024 := (vp_iff (by omega)).mpr (by omega)
    have b1 := hD2.1 S r hS hr
    have e1 : (nI (D2 S r) < 999) ↔ D2 S r < 999 := nI_ltI (b := 999) (by omega) (by omega)
    rw [P_12_laysRounds_72, F_12_laysRounds_72, cl0, hp2.2.1]
    simp only [q1, v2, v3, nI_clamp (n := S) (by omega), nI_clamp (n := r) (by omega), hR2 S r hS hr, e1, if_true, if_false, true_imp_iff, false_imp_iff, not_true_eq_false, not_false_eq_true, true_and, and_true, implies_true, reduceIte]
    by_cases c : D2 S r < 999
    · simp only [c, if_true, if_false, true_imp_iff, false_imp_iff, not_true_eq_false, not_false_eq_true, true_and, and_true, implies_true, reduceIte]
      exact d_in hp hF hf ha hS hr hK2 hD2 hR2 c (fun M3 D3 h1 h2 h3 => ih M3 ⟨h1, D3, h2, h3⟩)
    · simp only [c, if_true, if_false, true_imp_iff, false_imp_iff, not_true_eq_false, not_false_eq_true, true_and, and_true, implies_true, reduceIte, P_12_laysRounds_177, F_12_laysRounds_177]
      exact ih M2 ⟨hK2, D2, ⟨hD2.1, hD2.2.1, hD2.2.2.1, fun X y q hX hy hq hb hlt ho => hD2.2.2.2 X y q hX hy hq hb hlt (by
        by_cases e : X = S ∧ y = r
        · rw [e.1, e.2] at hlt; omega
        · omega)⟩, hR2⟩
  · rintro n M2 ⟨hK2, D2, hD2, hR2⟩
    try dsimp only
    have q1 : nI (uN u) ≤ nI (uN u) := nI_le (Nat.le_refl _) (by omega)
    rw [P_12_laysRounds_72, F_12_laysRounds_72, cl0, (hp.kR hK2).2.1]
    simp only [q1, if_true, if_false, true_imp_iff, false_imp_iff, not_true_eq_false, not_false_eq_true, true_and, and_true, implies_true, reduceIte]
    exact hn' M2 D2 hK2 ⟨hD2.1, hD2.2.1, hD2.2.2.1, fun X y q hX hy hq hb hlt ho => hD2.2.2.2 X y q hX hy hq hb hlt (by omega)⟩ hR2
theorem r_rounds {u : MU} {s : SU} {f : Nat → Nat → Nat} {a : Nat} {M : Mem} (hp : RP u M) (hF : FR f M) (hf : FW u s f) (ha : a < uN u) : P_12_laysRounds_4 (nI a) M ∧ ∃ M', F_12_laysRounds_4 (nI a) M = M' ∧ Kp rR M M' ∧ ∃ D, DR u s f a D (2 ^ uN u) 0 0 ∧ Rd u D M' := by
  have hu := hp.1
  have hn := hu.1
  have h1024 := pow10 hn
  have h1 := Nat.two_pow_pos (uN u)
  have hal : 2 ^ a < 2 ^ uN u := Nat.pow_lt_pow_right (by decide) ha
  have second : ∀ M1 D, Kp rR M M1 → DR u s f a D 0 0 0 → Rd u D M1 → P_12_laysRounds_62 FU 0 M1 ∧ ∃ M', F_12_laysRounds_62 FU 0 M1 = M' ∧ Kp rR M M' ∧ ∃ D, DR u s f a D (2 ^ uN u) 0 0 ∧ Rd u D M' := by
    intro M1 D hK hD hR
    refine lq (S := Mem) (F := fun n i q => F_12_laysRounds_62 n i q) (P := fun n i q => P_12_laysRounds_62 n i q) (Q := fun z => ∃ M', z = M' ∧ Kp rR M M' ∧ ∃ D, DR u s f a D (2 ^ uN u) 0 0 ∧ Rd u D M') (2 ^ uN u) (fun S q => Kp rR M q ∧ ∃ D, DR u s f a D S 0 0 ∧ Rd u D q) ?_ ?_ FU 0 M1 ⟨hK, D, hD, hR⟩ (Nat.zero_le _) (FU_ge (by omega))
    · rintro n S M2 hS ⟨hK2, D2, hD2, hR2⟩ ih
      try dsimp only at ih ⊢
      have q1 : ¬ nI (2 ^ uN u - 1) < nI S := nI_nlt (by omega) (by omega)
      rw [P_12_laysRounds_62, F_12_laysRounds_62, r_allN (hp.kR hK2)]
      simp only [q1, if_true, if_false, true_imp_iff, false_imp_iff, not_true_eq_false, not_false_eq_true, true_and, and_true, implies_true, reduceIte]
      exact d_mid (Q := fun z => ∃ M', z = M' ∧ Kp rR M M' ∧ ∃ D, DR u s f a D (2 ^ uN u) 0 0 ∧ Rd u D M') hp hF hf ha hS hK2 hD2 hR2 (fun M3 D3 h1 h2 h3 => ih M3 ⟨h1, D3, h2, h3⟩)
    · rintro n M2 ⟨hK2, D2, hD2, hR2⟩
      try dsimp only
      have q1 : nI (2 ^ uN u - 1) < nI (2 ^ uN u) := nI_lt (by omega) (by omega)
      rw [P_12_laysRounds_62, F_12_laysRounds_62, r_allN (hp.kR hK2)]
      simp only [q1, if_true, if_false, true_imp_iff, false_imp_iff, not_true_eq_false, not_false_eq_true, true_and, and_true, implies_true, reduceIte]
      exact ⟨M2, rfl, hK2, D2, hD2, hR2⟩
  rw [P_12_laysRounds_4, F_12_laysRounds_4]
  refine lq (S := Mem) (F := fun n i q => F_12_laysRounds_6 n (nI a) i q) (P := fun n i q => P_12_laysRounds_6 n (nI a) i q) (Q := fun z => ∃ M', z = M' ∧ Kp rR M M' ∧ ∃ D, DR u s f a D (2 ^ uN u) 0 0 ∧ Rd u D M') (2 ^ uN u) (fun S q => Kp rR M q ∧ ∀ X r, X < S → r < uN u → rd q (533 + X) r = 999) ?_ ?_ FU 0 M ⟨Kp.rf, fun X r h => by omega⟩ (Nat.zero_le _) (FU_ge (by omega))
  · rintro nn S M2 hS ⟨hK2, hR2⟩ ih
    try dsimp only at ih ⊢
    have q1 : ¬ nI (2 ^ uN u - 1) < nI S := nI_nlt (by omega) (by omega)
    rw [P_12_laysRounds_6, F_12_laysRounds_6, r_allN (hp.kR hK2)]
    simp only [q1, if_true, if_false, true_imp_iff, false_imp_iff, not_true_eq_false, not_false_eq_true, true_and, and_true, implies_true, reduceIte]
    refine lq (S := Mem) (F := fun n i q => F_12_laysRounds_16 (F_12_laysRounds_6 nn) n (nI a) (nI S) i q) (P := fun n i q => P_12_laysRounds_16 (P_12_laysRounds_6 nn) n (nI a) (nI S) i q) (Q := fun z => ∃ M', z = M' ∧ Kp rR M M' ∧ ∃ D, DR u s f a D (2 ^ uN u) 0 0 ∧ Rd u D M') (uN u) (fun t q => Kp rR M q ∧ (∀ X r, X < S → r < uN u → rd q (533 + X) r = 999) ∧ ∀ r, r < t → rd q (533 + S) r = 999) ?_ ?_ FU 0 M2 ⟨hK2, hR2, fun r h => by omega⟩ (Nat.zero_le _) (FU_ge (by omega))
    · rintro n t M3 ht ⟨hK3, hR3, hT3⟩ ih3
      try dsimp only at ih3 ⊢
      have q2 : ¬ nI (uN u) ≤ nI t := nI_ge ht (by omega)
      have v1 : vp_in (nI t) 10 := (vp_iff (by omega)).mpr (by omega)
      have v3 : vp_in (nI S) 1024 := (vp_iff (by omega)).mpr (by omega)
      rw [P_12_laysRounds_16, F_12_laysRounds_16, cl0, (hp.kR hK3).2.1]
      simp only [q2, v1, v3, nI_clamp (n := S) (by omega), nI_clamp (n := t) (by omega), if_true, if_false, true_imp_iff, false_imp_iff, not_true_eq_false, not_false_eq_true, true_and, and_true, implies_true, reduceIte]
      refine ih3 _ ⟨hK3.w ⟨by omega, by omega⟩, fun X r hX hr => ?_, fun r hr => ?_⟩
      · rw [wr_Rd, if_neg (by omega)]; exact hR3 X r hX hr
      · rw [wr_Rd]
        by_cases e : r = t
        · rw [if_pos ⟨rfl, e⟩]
        · rw [if_neg (fun z => e z.2)]; exact hT3 r (by omega)
    · rintro n M3 ⟨hK3, hR3, hT3⟩
      try dsimp only
      have q2 : nI (uN u) ≤ nI (uN u) := nI_le (Nat.le_refl _) (by omega)
      rw [P_12_laysRounds_16, F_12_laysRounds_16, cl0, (hp.kR hK3).2.1]
      simp only [q2, if_true, if_false, true_imp_iff, false_imp_iff, not_true_eq_false, not_false_eq_true, true_and, and_true, implies_true, reduceIte]
      refine ih M3 ⟨hK3, fun X r hX hr => ?_⟩
      by_cases e : X = S
      · subst e; exact hT3 r hr
      · exact hR3 X r (by omega) hr
  · rintro n M2 ⟨hK2, hR2⟩
    try dsimp only
    have q1 : nI (2 ^ uN u - 1) < nI (2 ^ uN u) := nI_lt (by omega) (by omega)
    have v1 : vp_in (nI a) 10 := (vp_iff (by omega)).mpr (by omega)
    have v3 : vp_in (nI (2 ^ a)) 1024 := (vp_iff (by omega)).mpr (by omega)
    rw [P_12_laysRounds_6, F_12_laysRounds_6, r_allN (hp.kR hK2)]
    simp only [q1, v1, v3, bi_of, bi_nI (r := a) (by omega), nI_clamp (n := a) (by omega), nI_clamp (n := 2 ^ a) (by omega), if_true, if_false, true_imp_iff, false_imp_iff, not_true_eq_false, not_false_eq_true, true_and, and_true, implies_true, reduceIte]
    refine second _ (upD (fun _ _ => 999) (2 ^ a) a 0) (hK2.w ⟨Nat.le_add_right _ _, by omega⟩) ⟨fun X r _ _ => upD_le (D := fun _ _ => 999) (by omega) X r, fun X r hX hr hl => ?_, upD_s, fun X r q _ _ _ _ _ ho => by omega⟩ (fun X r hX hr => ?_)
    · by_cases e : X = 2 ^ a ∧ r = a
      · obtain ⟨rfl, rfl⟩ := e
        rw [upD_s]
        have : 1 ≤ cnt (Nat.testBit (2 ^ r)) (uN u) := by
          have := cnt_or (S := 0) hr (Nat.zero_testBit r)
          rw [Nat.zero_or] at this
          omega
        exact ⟨by rw [Nat.testBit_two_pow]; simp, by omega, 0, 2 ^ r, Nat.le_refl _, fun _ z => z, rfl, rfl⟩
      · rw [upD_n e] at hl; omega
    · rw [wr_Rd]
      by_cases e : X = 2 ^ a ∧ r = a
      · rw [if_pos e, e.1, e.2, upD_s]; rfl
      · rw [if_neg e, upD_n e, hR2 X r hX hr]; rfl
theorem r_roundTo {u : MU} {D : Nat → Nat → Nat} {M : Mem} (hp : RP u M) (hR : Rd u D M) (h9 : ∀ S r, S < 2 ^ uN u → r < uN u → D S r ≤ 999) (h0 : 0 < uN u) : P_12_roundTo_0 M ∧ F_12_roundTo_0 M = nI (agM (D (2 ^ uN u - 1)) (uN u)) := by
  have hu := hp.1
  have hn := hu.1
  have h1024 := pow10 hn
  have h1 := Nat.two_pow_pos (uN u)
  rw [P_12_roundTo_0, F_12_roundTo_0]
  refine lq (S := Int32) (F := fun n i q => F_12_roundTo_4 M n q i) (P := fun n i q => P_12_roundTo_4 M n q i) (Q := fun z => z = nI (agM (D (2 ^ uN u - 1)) (uN u))) (uN u) (fun i q => 1 ≤ i ∧ q = nI (agM (D (2 ^ uN u - 1)) i)) ?_ ?_ FU 1 0 ⟨Nat.le_refl _, rfl⟩ h0 (FU_ge (by omega))
  · rintro n i q hi ⟨hi1, hI⟩ ih
    try dsimp only at ih ⊢
    have q1 : ¬ nI (uN u) ≤ nI i := nI_ge hi (by omega)
    have ok := agM_ok (g := D (2 ^ uN u - 1)) i hi1
    have v1 : vp_in (nI i) 10 := (vp_iff (by omega)).mpr (by omega)
    have v2 : vp_in (nI (agM (D (2 ^ uN u - 1)) i)) 10 := (vp_iff (by omega)).mpr (by omega)
    have v3 : vp_in (nI (2 ^ uN u - 1)) 1024 := (vp_iff (by omega)).mpr (by omega)
    have b1 := h9 (2 ^ uN u - 1) i (by omega) hi
    have b2 := h9 (2 ^ uN u - 1) (agM (D (2 ^ uN u - 1)) i) (by omega) (by omega)
    have e1 : (nI (D (2 ^ uN u - 1) (agM (D (2 ^ uN u - 1)) i)) ≤ nI (D (2 ^ uN u - 1) i)) ↔ D (2 ^ uN u - 1) (agM (D (2 ^ uN u - 1)) i) ≤ D (2 ^ uN u - 1) i := nI_leI (by omega) (by omega)
    have hg := ih (nI (agM (D (2 ^ uN u - 1)) (i + 1))) ⟨by omega, rfl⟩
    rw [agM, if_neg (by omega)] at hg
    rw [P_12_roundTo_4, F_12_roundTo_4, cl0, hp.2.1, r_allN hp, hI]
    simp only [q1, v1, v2, v3, nI_clamp (n := i) (by omega), nI_clamp (n := 2 ^ uN u - 1) (by omega), nI_clamp (n := agM (D (2 ^ uN u - 1)) i) (by omega), hR (2 ^ uN u - 1) i (by omega) hi, hR (2 ^ uN u - 1) (agM (D (2 ^ uN u - 1)) i) (by omega) (by omega), e1, if_true, if_false, true_imp_iff, false_imp_iff, not_true_eq_false, not_false_eq_true, true_and, and_true, implies_true, reduceIte, P_12_roundTo_44, F_12_roundTo_44]
    by_cases c : D (2 ^ uN u - 1) (agM (D (2 ^ uN u - 1)) i) ≤ D (2 ^ uN u - 1) i
    · rw [if_pos c] at hg; simpa [c] using hg
    · rw [if_neg c] at hg; simpa [c] using hg
  · rintro n q ⟨hi1, hI⟩
    try dsimp only
    have q1 : nI (uN u) ≤ nI (uN u) := nI_le (Nat.le_refl _) (by omega)
    rw [P_12_roundTo_4, F_12_roundTo_4, cl0, hp.2.1]
    simp only [q1, if_true, if_false, true_imp_iff, false_imp_iff, not_true_eq_false, not_false_eq_true, true_and, and_true, implies_true, reduceIte]
    exact hI
/-- round and last, both -/
theorem r_roundBoth {u : MU} {s : SU} {a : Nat} {M : Mem} (hp : RP u M) (hr : RR u s (rd M 20)) (ha : a < uN u) : P_12_laysRounds_0 (nI a) M ∧ ∃ M', F_12_laysRounds_0 (nI a) M = M' ∧ Kp (fun c j => rW c j ∨ rR c j) M M' ∧ ∃ x y, RES u s a x y ∧ (P_12_round_34 M' ∧ F_12_round_34 M' = (x, M')) ∧ (P_12_last_34 M' ∧ F_12_last_34 M' = (y, M')) := by
  have hu := hp.1
  have hn := hu.1
  have h1024 := pow10 hn
  have h1 := Nat.two_pow_pos (uN u)
  have hf := farW_FW (s := s) hu
  obtain ⟨a1, M1, a2, a3, a4⟩ := r_laysWays hp hr
  have hp1 := hp.k a3 (fun a j z => by unfold rW at z; omega)
  obtain ⟨b1, M2, b2, b3, D, b4, b5⟩ := r_rounds hp1 a4 hf ha
  have hp2 := hp1.kR b3
  obtain ⟨c1, c2⟩ := r_roundTo hp2 b5 b4.1 (by omega)
  have ok := agM_ok (g := D (2 ^ uN u - 1)) (uN u) (by omega)
  have bb := b4.1 (2 ^ uN u - 1) (agM (D (2 ^ uN u - 1)) (uN u)) (by omega) (by omega)
  have v2 : vp_in (nI (agM (D (2 ^ uN u - 1)) (uN u))) 10 := (vp_iff (by omega)).mpr (by omega)
  have v3 : vp_in (nI (2 ^ uN u - 1)) 1024 := (vp_iff (by omega)).mpr (by omega)
  rw [P_12_laysRounds_0, F_12_laysRounds_0, a2, b2]
  refine ⟨⟨a1, b1⟩, M2, rfl, (a3.mono (fun c j z => Or.inl z)).tr (b3.mono (fun c j z => Or.inr z)), _, _, b4.res hu hf ha, ?_, ?_⟩
  · rw [P_12_round_34, F_12_round_34, r_allN hp2, c2, nI_clamp (n := 2 ^ uN u - 1) (by omega), nI_clamp (n := agM (D (2 ^ uN u - 1)) (uN u)) (by omega), b5 (2 ^ uN u - 1) (agM (D (2 ^ uN u - 1)) (uN u)) (by omega) (by omega), r_orNone (by omega)]
    exact ⟨⟨v3, c1, v2⟩, rfl⟩
  · have e1 : (nI (D (2 ^ uN u - 1) (agM (D (2 ^ uN u - 1)) (uN u))) < 999) ↔ D (2 ^ uN u - 1) (agM (D (2 ^ uN u - 1)) (uN u)) < 999 := nI_ltI (b := 999) (by omega) (by omega)
    rw [P_12_last_34, F_12_last_34, r_allN hp2, c2, nI_clamp (n := 2 ^ uN u - 1) (by omega), nI_clamp (n := agM (D (2 ^ uN u - 1)) (uN u)) (by omega), b5 (2 ^ uN u - 1) (agM (D (2 ^ uN u - 1)) (uN u)) (by omega) (by omega)]
    refine ⟨⟨v3, c1, v2, fun _ => c1, fun _ => trivial⟩, ?_⟩
    by_cases c : D (2 ^ uN u - 1) (agM (D (2 ^ uN u - 1)) (uN u)) < 999
    · rw [if_pos (e1.mpr c), if_pos c]
    · rw [if_neg (fun z => c (e1.mp z)), if_neg c]
