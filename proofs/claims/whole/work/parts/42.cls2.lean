/-! MATHEMATICS 12: the class's askings by plan, as the matrix says -/
theorem and_bi {x : Int32} {r : Nat} (hr : r < 32) : (x &&& bi r = 0) ↔ bt x r = false := by
  rw [b_0iff]
  constructor
  · intro h
    have := h r hr
    rw [b_and, b_bi hr, decide_eq_true rfl, Bool.and_true] at this
    exact this
  · intro h i hi
    rw [b_and, b_bi hr]
    by_cases e : i = r
    · subst e; rw [h]; rfl
    · rw [decide_eq_false e, Bool.and_false]
theorem few_orN {u : MU} {s : SU} {x y : Int32} {m : Nat} (h : ∀ k, k < 11 → ((¬ rkF (nbA u s) x k &&& y = 0) ↔ m ≤ k)) (hm : m < 999 → m ≤ 10) : orM (few u s x y) = orN m := by
  unfold few
  by_cases c : m ≤ 10
  · have : fst? (fun k => !decide (rkF (nbA u s) x k &&& y = 0)) 11 0 = some m := by
      rw [fst_some]
      refine ⟨Nat.zero_le _, by omega, ?_, fun j _ hj => ?_⟩
      · have := (h m (by omega)).mpr (Nat.le_refl _)
        simp [this]
      · have := mt (h j (by omega)).mp (by omega)
        simp only [Classical.not_not] at this
        simp [this]
    rw [this, orN, if_pos (by omega)]
    rfl
  · have : fst? (fun k => !decide (rkF (nbA u s) x k &&& y = 0)) 11 0 = none := by
      rw [fst_none]
      intro j _ hj
      have := mt (h j (by omega)).mp (by omega)
      simp only [Classical.not_not] at this
      simp [this]
    rw [this, orN, if_neg (by omega)]
    rfl
theorem few_bb {u : MU} {s : SU} {f : Nat → Nat → Nat} (hu : UW u) (hf : FW u s f) {a b : Nat} (ha : a < 10) (hb : b < 10) : orM (few u s (bi a) (bi b)) = orN (f a b) := by
  refine few_orN (fun k hk => ?_) (hf.ten hu ha hb)
  rw [and_bi (by omega), Bool.not_eq_false, hf.iff hu ha hb (by omega)]
theorem mn_ten {p : Nat → Bool} {g : Nat → Nat} {n : Nat} (h : ∀ k, k < n → p k = true → g k < 999 → g k ≤ 10) : mnF p g n < 999 → mnF p g n ≤ 10 := by
  intro h1
  obtain ⟨k, h2, h3, h4⟩ := (mnF_iff (j := mnF p g n) h1 n).mp (Nat.le_refl _)
  exact (mnF_iff (by omega) n).mpr ⟨k, h2, h3, h k h2 h3 (by omega)⟩
theorem stT_iff {u : MU} {s : SU} {f : Nat → Nat → Nat} (hu : UW u) (hf : FW u s f) {r k : Nat} (hr : r < 10) (hk : k < 999) : bt (rkF (nbA u s) (uX u) k) r = true ↔ stT u f r ≤ k := by
  have hn := hu.1
  rw [rk_add (stA hu), stT, mnF_iff hk]
  constructor
  · rintro ⟨a, h1, h2⟩
    have ha : a < uN u := Nat.lt_of_not_le (fun z => by rw [hu.2.2.2.1 a z] at h1; cases h1)
    exact ⟨a, ha, h1, (hf.iff hu (by omega) hr hk).mp h2⟩
  · rintro ⟨a, ha, h1, h2⟩
    exact ⟨a, h1, (hf.iff hu (by omega) hr hk).mpr h2⟩
theorem stT_ten {u : MU} {s : SU} {f : Nat → Nat → Nat} (hu : UW u) (hf : FW u s f) {r : Nat} (hr : r < 10) : stT u f r < 999 → stT u f r ≤ 10 := by
  have hn := hu.1
  exact mn_ten (fun k hk _ h => hf.ten hu (by omega) hr h)
theorem few_xb {u : MU} {s : SU} {f : Nat → Nat → Nat} (hu : UW u) (hf : FW u s f) {r : Nat} (hr : r < 10) : orM (few u s (uX u) (bi r)) = orN (stT u f r) := by
  refine few_orN (fun k hk => ?_) (stT_ten hu hf hr)
  rw [and_bi (by omega), Bool.not_eq_false, stT_iff hu hf hr (by omega)]
theorem few_loop {u : MU} {s : SU} {f : Nat → Nat → Nat} (hu : UW u) (hf : FW u s f) {a : Nat} (ha : a < 10) : orN (lpT u s f a (uM u)) = if orM (few u s (nbA u s (bi a)) (bi a)) = -1 then -1 else orM (few u s (nbA u s (bi a)) (bi a)) + 1 := by
  have hn := hu.1
  let m := mnF (fun d => decide (uF u d = a) && !sB s d) (fun d => f (uG u d) a) (uM u)
  have hm : m < 999 → m ≤ 10 := mn_ten (fun k hk _ h => hf.ten hu (by have := (hu.2.2.2.2.1 k hk).2.1; omega) ha h)
  have h1 : orM (few u s (nbA u s (bi a)) (bi a)) = orN m := by
    refine few_orN (fun k hk => ?_) hm
    rw [and_bi (by omega), Bool.not_eq_false, rk_add (stA hu), mnF_iff (by omega)]
    constructor
    · rintro ⟨c, h1, h2⟩
      obtain ⟨a', h3, d, h4, h5, h6, h7⟩ := (b_nbA hu).mp h1
      rw [b_bi (by omega), decide_eq_true_eq] at h3
      have w := hu.2.2.2.2.1 d h4
      refine ⟨d, h4, by simp [h5, h6, h3], ?_⟩
      rw [h7]
      exact (hf.iff hu (by omega) ha (by omega)).mp h2
    · rintro ⟨d, h4, h5, h6⟩
      simp only [Bool.and_eq_true, Bool.not_eq_true', decide_eq_true_eq] at h5
      have w := hu.2.2.2.2.1 d h4
      exact ⟨uG u d, (b_nbA hu).mpr ⟨a, by rw [b_bi (by omega), decide_eq_true_eq], d, h4, h5.2, h5.1, rfl⟩, (hf.iff hu (by omega) ha (by omega)).mpr h6⟩
  have hl : ∀ j, j < 998 → (lpT u s f a (uM u) ≤ j + 1 ↔ m ≤ j) := by
    intro j hj
    rw [lpT, mnF_iff (by omega), mnF_iff (by omega)]
    constructor
    · rintro ⟨d, x1, x2, x3⟩; exact ⟨d, x1, x2, by omega⟩
    · rintro ⟨d, x1, x2, x3⟩; exact ⟨d, x1, x2, by omega⟩
  have h0 : ¬ lpT u s f a (uM u) ≤ 0 := by
    rw [lpT, mnF_iff (by omega)]
    rintro ⟨d, _, _, x3⟩; omega
  have hle : lpT u s f a (uM u) ≤ 999 := mnF_le _
  rw [h1]
  by_cases c : m < 999
  · have c10 := hm c
    have e1 := (hl m (by omega)).mpr (Nat.le_refl _)
    have e2 : ¬ lpT u s f a (uM u) ≤ m := by
      by_cases z : m = 0
      · rw [z]; exact h0
      · have := mt (hl (m - 1) (by omega)).mp (by omega)
        rwa [show m - 1 + 1 = m by omega] at this
    have e3 : lpT u s f a (uM u) = m + 1 := by omega
    rw [e3, orN, orN, if_pos c, if_pos (by omega), if_neg (nI_m1 (by omega)), nI_1]
  · have e4 : ¬ lpT u s f a (uM u) < 999 := by
      intro z
      by_cases z0 : lpT u s f a (uM u) = 0
      · omega
      · have := (hl (lpT u s f a (uM u) - 1) (by omega)).mp (by omega)
        omega
    rw [orN, orN, if_neg c, if_neg e4, if_pos rfl]
/-- reversal -/
theorem rk_front {R : Nat → Nat → Prop} {f : Int32 → Int32} (hf : StR R f) {a b k : Nat} (ha : a < 32) : bt (rkF f (bi a) (k + 1)) b = true ↔ bt (rkF f (bi a) k) b = true ∨ ∃ c, R a c ∧ bt (rkF f (bi c) k) b = true := by
  rw [Nat.add_comm, ← rk_comp, rk_add hf]
  constructor
  · rintro ⟨c, h1, h2⟩
    rw [show (1 : Nat) = 0 + 1 from rfl, rkF, b_or, Bool.or_eq_true] at h1
    rcases h1 with h1 | h1
    · rw [show rkF f (bi a) 0 = bi a from rfl, b_bi ha, decide_eq_true_eq] at h1
      subst h1; exact Or.inl h2
    · obtain ⟨a', h3, h4⟩ := (hf _ _).mp h1
      rw [show rkF f (bi a) 0 = bi a from rfl, b_bi ha, decide_eq_true_eq] at h3
      subst h3; exact Or.inr ⟨c, h4, h2⟩
  · have h0 : bt (rkF f (bi a) 0) a = true := by rw [show rkF f (bi a) 0 = bi a from rfl, b_bi ha, decide_eq_true_eq]
    rintro (h | ⟨c, h1, h2⟩)
    · exact ⟨a, rk_mono' h0 (by omega), h⟩
    · refine ⟨c, ?_, h2⟩
      rw [show (1 : Nat) = 0 + 1 from rfl, rkF, b_or, Bool.or_eq_true]
      exact Or.inr ((hf _ _).mpr ⟨a, h0, h1⟩)
theorem rk_rev {u : MU} {s : SU} (hu : UW u) {a b : Nat} (ha : a < 32) (hb : b < 32) : ∀ k, bt (rkF (nbB u s) (bi b) k) a = true ↔ bt (rkF (nbA u s) (bi a) k) b = true := by
  intro k
  induction k generalizing a with
  | zero =>
    rw [show rkF (nbB u s) (bi b) 0 = bi b from rfl, show rkF (nbA u s) (bi a) 0 = bi a from rfl, b_bi ha, b_bi hb, decide_eq_true_eq, decide_eq_true_eq]
    exact ⟨Eq.symm, Eq.symm⟩
  | succ k ih =>
    rw [rk_front (stA hu) ha, rkF, b_or, Bool.or_eq_true, ih ha, b_nbB hu]
    refine or_congr Iff.rfl ⟨?_, ?_⟩
    · rintro ⟨c, h1, h2⟩
      have hc := ed_lt hu h2
      have := hu.1
      exact ⟨c, h2, (ih (by omega)).mp h1⟩
    · rintro ⟨c, h1, h2⟩
      have hc := ed_lt hu h1
      have := hu.1
      exact ⟨c, (ih (by omega)).mpr h2, h1⟩
theorem otT_iff {u : MU} {s : SU} {f : Nat → Nat → Nat} (hu : UW u) (hf : FW u s f) {r k : Nat} (hr : r < 10) (hk : k < 999) : bt (rkF (nbB u s) (uX u) k) r = true ↔ otT u f r ≤ k := by
  have hn := hu.1
  rw [rk_add (stB hu), otT, mnF_iff hk]
  constructor
  · rintro ⟨a, h1, h2⟩
    have ha : a < uN u := Nat.lt_of_not_le (fun z => by rw [hu.2.2.2.1 a z] at h1; cases h1)
    exact ⟨a, ha, h1, (hf.iff hu hr (by omega) hk).mp ((rk_rev hu (by omega) (by omega) k).mp h2)⟩
  · rintro ⟨a, ha, h1, h2⟩
    exact ⟨a, h1, (rk_rev hu (by omega) (by omega) k).mpr ((hf.iff hu hr (by omega) hk).mpr h2)⟩
theorem otT_ten {u : MU} {s : SU} {f : Nat → Nat → Nat} (hu : UW u) (hf : FW u s f) {r : Nat} (hr : r < 10) : otT u f r < 999 → otT u f r ≤ 10 := by
  have hn := hu.1
  exact mn_ten (fun k hk _ h => hf.ten hu hr (by omega) h)
theorem b_allN {n : Nat} (hn : n ≤ 10) (i : Nat) : bt (bi n - 1) i = decide (i < n) := by
  rcases Nat.lt_or_ge i 32 with h | h
  · exact b_all n (by omega) i h
  · rw [b_big h, decide_eq_false (by omega)]
theorem lost_eq {u : MU} {s : SU} {f : Nat → Nat → Nat} (hu : UW u) (hf : FW u s f) : (bi (uN u) - 1) &&& (rkF (nbA u s) (uX u) 10 ^^^ (-1)) = lsT u f (uN u) := by
  have hn := hu.1
  apply b_ext
  intro i hi
  apply Bool.eq_iff_iff.mpr
  rw [b_and, b_not hi, b_allN hn, lsT, b_orD, Bool.and_eq_true, decide_eq_true_eq, Bool.not_eq_true']
  constructor
  · rintro ⟨h1, h2⟩
    refine ⟨i, h1, ?_⟩
    have : ¬ stT u f i < 999 := fun z => by
      have := (stT_iff hu hf (by omega) (by omega)).mpr (stT_ten hu hf (r := i) (by omega) z)
      rw [h2] at this; cases this
    rw [if_neg this, b_bi hi, decide_eq_true_eq]
  · rintro ⟨r, h1, h2⟩
    by_cases c : stT u f r < 999
    · rw [if_pos c, b_0] at h2; cases h2
    · rw [if_neg c, b_bi (by omega), decide_eq_true_eq] at h2
      subst h2
      refine ⟨h1, ?_⟩
      apply Bool.eq_false_iff.mpr
      intro z
      have := (stT_iff hu hf (by omega) (by omega)).mp z
      omega
theorem caught_eq {u : MU} {s : SU} {f : Nat → Nat → Nat} (hu : UW u) (hf : FW u s f) : (bi (uN u) - 1) &&& (rkF (nbB u s) (uX u) 10 ^^^ (-1)) = cgT u f (uN u) := by
  have hn := hu.1
  apply b_ext
  intro i hi
  apply Bool.eq_iff_iff.mpr
  rw [b_and, b_not hi, b_allN hn, cgT, b_orD, Bool.and_eq_true, decide_eq_true_eq, Bool.not_eq_true']
  constructor
  · rintro ⟨h1, h2⟩
    refine ⟨i, h1, ?_⟩
    have : ¬ otT u f i < 999 := fun z => by
      have := (otT_iff hu hf (by omega) (by omega)).mpr (otT_ten hu hf (r := i) (by omega) z)
      rw [h2] at this; cases this
    rw [if_neg this, b_bi hi, decide_eq_true_eq]
  · rintro ⟨r, h1, h2⟩
    by_cases c : otT u f r < 999
    · rw [if_pos c, b_0] at h2; cases h2
    · rw [if_neg c, b_bi (by omega), decide_eq_true_eq] at h2
      subst h2
      refine ⟨h1, ?_⟩
      apply Bool.eq_false_iff.mpr
      intro z
      have := (otT_iff hu hf (by omega) (by omega)).mp z
      omega
theorem b_wgT {f : Nat → Nat → Nat} {r n : Nat} (hn : n ≤ 10) {i : Nat} : bt (wgT f r n) i = true ↔ i < n ∧ f r i < 999 ∧ f i r < 999 := by
  rw [wgT, b_orD]
  constructor
  · rintro ⟨q, h1, h2⟩
    by_cases c : f r q < 999 ∧ f q r < 999
    · rw [if_pos c, b_bi (by omega), decide_eq_true_eq] at h2
      subst h2; exact ⟨h1, c⟩
    · rw [if_neg c, b_0] at h2; cases h2
  · rintro ⟨h1, h2⟩
    exact ⟨i, h1, by rw [if_pos h2, b_bi (by omega), decide_eq_true_eq]⟩
theorem rk_in {u : MU} {s : SU} (hu : UW u) {a b : Nat} (ha : a < uN u) : ∀ k, bt (rkF (nbA u s) (bi a) k) b = true → b < uN u := by
  intro k
  have hn := hu.1
  induction k with
  | zero =>
    intro h
    rw [show rkF (nbA u s) (bi a) 0 = bi a from rfl, b_bi (by omega), decide_eq_true_eq] at h
    omega
  | succ k ih =>
    intro h
    rw [rkF, b_or, Bool.or_eq_true] at h
    rcases h with h | h
    · exact ih h
    · obtain ⟨c, _, h2⟩ := (b_nbA hu).mp h
      exact (ed_lt hu h2).2.1
theorem wing_eq {u : MU} {s : SU} {f : Nat → Nat → Nat} (hu : UW u) (hf : FW u s f) {r : Nat} (hr : r < uN u) : rkF (nbA u s) (bi r) 10 &&& rkF (nbB u s) (bi r) 10 = wgT f r (uN u) := by
  have hn := hu.1
  apply b_ext'
  intro i
  rw [b_and, Bool.and_eq_true, b_wgT hn]
  constructor
  · rintro ⟨h1, h2⟩
    have hi := rk_in hu hr 10 h1
    have := (hf.iff hu (by omega) (by omega) (by omega)).mp h1
    have := (hf.iff hu (by omega) (by omega) (by omega)).mp ((rk_rev hu (by omega) (by omega) 10).mp h2)
    exact ⟨hi, by omega, by omega⟩
  · rintro ⟨h1, h2, h3⟩
    have a1 := hf.ten hu (by omega) (by omega) h2
    have a2 := hf.ten hu (by omega) (by omega) h3
    exact ⟨(hf.iff hu (by omega) (by omega) (by omega)).mpr a1, (rk_rev hu (by omega) (by omega) 10).mpr ((hf.iff hu (by omega) (by omega) (by omega)).mpr a2)⟩
/-! the class: meet -/
def cM (c j : Nat) : Prop := c = 1599 ∧ (j = 8 ∨ j = 9)
theorem CG.k {p : Nat → Nat → Prop} {u : MU} {s : SU} {M M' : Mem} (h : CG u s M) (hk : Kp p M M') (hp : ∀ c j, p c j → c ≠ 1600 ∧ c ≠ 1601) : CG u s M' := by
  have g1 : rd M' 1600 = rd M 1600 := hk.row (fun j z => (hp _ _ z).1 rfl)
  have g2 : rd M' 1601 = rd M 1601 := hk.row (fun j z => (hp _ _ z).2 rfl)
  unfold CG
  rw [g1, g2]
  exact h
theorem c_bring {u : MU} {s : SU} {f : Nat → Nat → Nat} {M : Mem} (hp : CP 1561 u M) (hg : CG u s M) (hf : FW u s f) {a b : Nat} (ha : a < uN u) (hb : b < uN u) : P_0_bringTogether_0 (bi a) (bi b) M ∧ ∃ M', F_0_bringTogether_0 (bi a) (bi b) M = M' ∧ Kp cM M M' ∧ rd M' 1599 8 = orN (mtB f a b (uN u)).1 ∧ rd M' 1599 9 = (mtB f a b (uN u)).2 := by
  have hu := hp.1
  have hn := hu.1
  let mx : Nat → Nat := fun r => if f a r < f b r then f b r else f a r
  have mxle : ∀ r k, mx r ≤ k ↔ f a r ≤ k ∧ f b r ≤ k := fun r k => by show (if f a r < f b r then f b r else f a r) ≤ k ↔ _; split <;> omega
  have hB : ∀ n, n ≤ uN u → ((mtB f a b n).1 = 999 ∧ (mtB f a b n).2 = -1 ∧ ∀ r, r < n → ¬ mx r < 999) ∨ (∃ r, r < n ∧ (mtB f a b n).1 = mx r ∧ (mtB f a b n).2 = nI r ∧ mx r < 999 ∧ (∀ q, q < n → mx r ≤ mx q) ∧ ∀ q, q < r → mx r < mx q) := by
    intro n
    induction n with
    | zero => intro _; exact Or.inl ⟨rfl, rfl, fun r h => by omega⟩
    | succ n ih =>
      intro hn'
      have step : mtB f a b (n + 1) = if mx n < (mtB f a b n).1 then (mx n, nI n) else mtB f a b n := rfl
      rw [step]
      rcases ih (by omega) with ⟨h1, h2, h3⟩ | ⟨r, h1, h2, h3, h4, h5, h6⟩
      · by_cases c : mx n < 999
        · right
          rw [h1, if_pos c]
          refine ⟨n, by omega, rfl, rfl, c, fun q hq => ?_, fun q hq => ?_⟩
          · by_cases e : q = n
            · subst e; exact Nat.le_refl _
            · have := h3 q (by omega); omega
          · have := h3 q (by omega); omega
        · left
          rw [h1, if_neg c]
          refine ⟨h1, h2, fun r hr => ?_⟩
          by_cases e : r = n
          · subst e; exact c
          · exact h3 r (by omega)
      · right
        by_cases c : mx n < mx r
        · rw [h2, if_pos c]
          refine ⟨n, by omega, rfl, rfl, by omega, fun q hq => ?_, fun q hq => ?_⟩
          · by_cases e : q = n
            · subst e; exact Nat.le_refl _
            · have := h5 q (by omega); omega
          · have := h5 q (by omega); omega
        · rw [h2, if_neg c]
          refine ⟨r, by omega, h2, h3, h4, fun q hq => ?_, h6⟩
          by_cases e : q = n
          · subst e; omega
          · exact h5 q (by omega)
  have hbit : ∀ k r, k < 999 → (bt (rkF (nbA u s) (bi a) k &&& rkF (nbA u s) (bi b) k) r = true ↔ r < uN u ∧ mx r ≤ k) := by
    intro k r hk
    rw [b_and, Bool.and_eq_true, mxle]
    constructor
    · rintro ⟨h1, h2⟩
      have hr := rk_in hu ha k h1
      exact ⟨hr, (hf.iff hu (by omega) (by omega) hk).mp h1, (hf.iff hu (by omega) (by omega) hk).mp h2⟩
    · rintro ⟨hr, h1, h2⟩
      exact ⟨(hf.iff hu (by omega) (by omega) hk).mpr h1, (hf.iff hu (by omega) (by omega) hk).mpr h2⟩
  have m10 : ∀ r, r < uN u → mx r < 999 → mx r ≤ 10 := by
    intro r hr h
    have h1 := (mxle r 998).mp (by omega)
    exact (mxle r 10).mpr ⟨hf.ten hu (by omega) (by omega) (by omega), hf.ten hu (by omega) (by omega) (by omega)⟩
  rw [P_0_bringTogether_0, F_0_bringTogether_0]
  have k0 : Kp cM M (wr (wr M 1599 8 (-1)) 1599 9 (-1)) := (Kp.rf.w ⟨rfl, Or.inl rfl⟩).w ⟨rfl, Or.inr rfl⟩
  refine lq (S := Int32 × Int32) (F := fun n i q => F_0_bringTogether_18 n q.1 q.2 i (wr (wr M 1599 8 (-1)) 1599 9 (-1))) (P := fun n i q => P_0_bringTogether_18 n q.1 q.2 i (wr (wr M 1599 8 (-1)) 1599 9 (-1))) (Q := fun z => ∃ M', z = M' ∧ Kp cM M M' ∧ rd M' 1599 8 = orN (mtB f a b (uN u)).1 ∧ rd M' 1599 9 = (mtB f a b (uN u)).2) (11) (fun i q => q.1 = rkF (nbA u s) (bi a) i ∧ q.2 = rkF (nbA u s) (bi b) i ∧ ∀ r, r < uN u → i ≤ mx r) ?_ ?_ FU 0 (bi a, bi b) ⟨rfl, rfl, fun r _ => Nat.zero_le _⟩ (Nat.zero_le _) (FU_ge (by omega))
  · rintro n k ⟨x, y⟩ hk ⟨h1, h2, h3⟩ ih
    try dsimp only at h1 h2 ih ⊢
    have q : ¬ (10 : Int32) < nI k := fun z => by have := (nI_ltI (a := 10) (by omega) (by omega)).mp z; omega
    have hp1 := hp.k k0 (fun a j z => by unfold cM at z; omega)
    have hg1 := hg.k k0 (fun a j z => by unfold cM at z; omega)
    obtain ⟨a1, a2⟩ := c_joineda hp1 hg1 x
    obtain ⟨b1, b2⟩ := c_joineda hp1 hg1 y
    rw [P_0_bringTogether_18, F_0_bringTogether_18]
    simp only [q, P_0_oneAhead_0, F_0_oneAhead_0, a1, a2, b1, b2, if_true, if_false, true_imp_iff, false_imp_iff, not_true_eq_false, not_false_eq_true, true_and, and_true, implies_true, reduceIte]
    by_cases c : x &&& y = 0
    · have := ih (x ||| nbA u s x, y ||| nbA u s y) ⟨by rw [rkF, h1], by rw [rkF, h2], fun r hr => by
        have := h3 r hr
        have z := mt (hbit k r (by omega)).mpr (by rw [← h1, ← h2, c, b_0]; simp)
        omega⟩
      simpa [c] using this
    · simp only [c, if_true, if_false, true_imp_iff, false_imp_iff, not_true_eq_false, not_false_eq_true, true_and, and_true, implies_true, reduceIte]
      refine ⟨_, rfl, (k0.w ⟨rfl, Or.inl rfl⟩).w ⟨rfl, Or.inr rfl⟩, ?_, ?_⟩
      all_goals
        rcases hB (uN u) (Nat.le_refl _) with ⟨e1, e2, e3⟩ | ⟨r, e1, e2, e3, e4, e5, e6⟩
        · exfalso
          obtain ⟨i, hi, hib⟩ := b_ne0.mp c
          rw [h1, h2] at hib
          have := (hbit k i (by omega)).mp hib
          have := e3 i this.1
          omega
        · have hle : mx r ≤ k := by
            obtain ⟨i, hi, hib⟩ := b_ne0.mp c
            rw [h1, h2] at hib
            have := (hbit k i (by omega)).mp hib
            have := e5 i this.1
            omega
          have hk3 := h3 r e1
          have ek : mx r = k := by omega
          have hlow : F_11_lowest_0 (wr (wr (wr M 1599 8 (-1)) 1599 9 (-1)) 1599 8 (nI k)) (x &&& y) = nI r := by
            rw [h1, h2]
            refine lowest_eq _ (by omega) ((hbit k r (by omega)).mpr ⟨e1, hle⟩) (fun j hj => ?_)
            apply Bool.eq_false_iff.mpr
            intro z
            have := (hbit k j (by omega)).mp z
            have := e6 j hj
            omega
          first
            | (rw [rd_i (by decide), rd_s, e2, ek, orN, if_pos (by omega)]; done)
            | (rw [rd_s, hlow, e3])
  · rintro n ⟨x, y⟩ ⟨h1, h2, h3⟩
    try dsimp only at h1 h2 ⊢
    rw [P_0_bringTogether_18, F_0_bringTogether_18]
    simp only [(by decide : (10 : Int32) < nI 11), if_true, if_false, true_imp_iff, false_imp_iff, not_true_eq_false, not_false_eq_true, true_and, and_true, implies_true, reduceIte]
    rcases hB (uN u) (Nat.le_refl _) with ⟨e1, e2, e3⟩ | ⟨r, e1, e2, e3, e4, e5, e6⟩
    · exact ⟨_, rfl, k0, by rw [rd_i (by decide), rd_s, e1]; rfl, by rw [rd_s, e2]⟩
    · have := m10 r e1 e4
      have := h3 r e1
      omega
/-! the class: the first door -/
theorem nx_ex {u : MU} {s : SU} {f : Nat → Nat → Nat} (hu : UW u) (hf : FW u s f) {a b : Nat} (ha : a < 10) (hb : b < 10) (hne : a ≠ b) (h : f a b < 999) : ∃ d, d < uM u ∧ nxP u s f a b d = true := by
  have h1 := hf.2.1 a b ha hb h
  have hpos : 0 < f a b := by
    apply Nat.pos_of_ne_zero
    intro z
    rw [z, show rkF (nbA u s) (bi a) 0 = bi a from rfl, b_bi (by omega), decide_eq_true_eq] at h1
    exact hne h1.symm
  rw [show f a b = (f a b - 1) + 1 by omega, rk_front (stA hu) (by omega)] at h1
  rcases h1 with h1 | ⟨c, ⟨d, h2, h3, h4, h5⟩, h6⟩
  · have := (hf.iff hu ha hb (by omega)).mp h1
    omega
  · have w := hu.2.2.2.2.1 d h2
    have hn := hu.1
    have hc : c < 10 := by omega
    have x1 := (hf.iff hu hc hb (by omega)).mp h6
    have x2 := hf.2.2.2.1 a c ha hc ⟨d, h2, h3, h4, h5⟩
    have x3 := hf.2.2.2.2 a c b ha hc hb
    exact ⟨d, h2, by simp only [nxP, h3, h4, h5, Bool.not_false, decide_true, Bool.true_and, decide_eq_true_eq]; omega⟩
theorem c_firstDoor {u : MU} {s : SU} {f : Nat → Nat → Nat} {M : Mem} (hp : CP 1561 u M) (hr : CR 1622 u s M) (hg : CG u s M) (hf : FW u s f) {a b : Nat} (ha : a < uN u) (hb : b < uN u) : P_0_firstDoor_0 M (nI a) (nI b) ∧ F_0_firstDoor_0 M (nI a) (nI b) = if a = b ∨ ¬ f a b < 999 then -1 else orM (fst? (nxP u s f a b) (uM u) 0) := by
  have hu := hp.1
  have hn := hu.1
  have hm := hu.2.1
  obtain ⟨a1, a2⟩ := c_fewest hp hg (bi a) (bi b)
  rw [few_bb hu hf (by omega) (by omega)] at a2
  have h9 := hf.1 a b (by omega) (by omega)
  rw [P_0_firstDoor_0, F_0_firstDoor_0, bi_of, bi_of, a2]
  simp only [a1, if_true, if_false, true_imp_iff, false_imp_iff, not_true_eq_false, not_false_eq_true, true_and, and_true, implies_true, reduceIte]
  by_cases c1 : a = b
  · have e0 : f a b = 0 := by rw [c1]; exact hf.2.2.1 b (by omega)
    have : ¬ 0 < orN (f a b) := by rw [e0]; decide
    rw [if_pos (Or.inl c1)]
    simp only [this, if_true, if_false, true_imp_iff, false_imp_iff, not_true_eq_false, not_false_eq_true, true_and, and_true, implies_true, reduceIte]
  · by_cases c2 : f a b < 999
    · have hpos : 0 < f a b := by
        apply Nat.pos_of_ne_zero
        intro z
        have h1 := hf.2.1 a b (by omega) (by omega) c2
        rw [z, show rkF (nbA u s) (bi a) 0 = bi a from rfl, b_bi (by omega), decide_eq_true_eq] at h1
        exact c1 h1.symm
      have eo : orN (f a b) = nI (f a b) := by rw [orN, if_pos c2]
      have hgt : (0 : Int32) < nI (f a b) := nI_lt (a := 0) hpos (by omega)
      have v0 : vp_in (nI a) 10 := (vp_iff (by omega)).mpr (by omega)
      rw [eo, nI_clamp (n := a) (by omega)]
      simp only [hgt, v0, c1, c2, not_true_eq_false, or_self, if_true, if_false, true_imp_iff, false_imp_iff, not_true_eq_false, not_false_eq_true, true_and, and_true, implies_true, reduceIte]
      have hbits : ∀ d, d < 24 → bt (rd M 1564 a &&& (rd M 1622 2 ^^^ (-1))) d = (decide (d < uM u) && decide (uF u d = a) && !sB s d) := by
        intro d hd
        have e1 := (hp.2.2.2.2.2.2.1 a ha).2.2.1 d
        have e2 := hr.2.2.2.1 d
        simp only [Nat.reduceAdd] at e1
        rw [b_and, b_not (by omega), e1, e2]
        cases decide (d < uM u) <;> cases decide (uF u d = a) <;> cases sB s d <;> rfl
      refine lq (S := Unit) (F := fun n i q => F_0_firstDoor_41 M n (nI b) (nI (f a b)) (rd M 1564 a &&& (rd M 1622 2 ^^^ (-1))) i) (P := fun n i q => P_0_firstDoor_41 M n (nI b) (nI (f a b)) (rd M 1564 a &&& (rd M 1622 2 ^^^ (-1))) i) (Q := fun z => z = orM (fst? (nxP u s f a b) (uM u) 0)) (uM u) (fun i _ => fst? (nxP u s f a b) (uM u) 0 = fst? (nxP u s f a b) (uM u - i) i) ?_ ?_ FU 0 () rfl (Nat.zero_le _) (FU_ge (by omega))
      · intro n i _ hi hI ih
        try dsimp only at hI ih ⊢
        have w := hu.2.2.2.2.1 i hi
        obtain ⟨_, f2, _, _⟩ := hp.2.2.2.2.2.1 i hi
        simp only [Nat.reduceAdd] at f2
        have q : ¬ nI (uM u) ≤ nI i := nI_ge hi (by omega)
        have v1 : vp_in (nI i) 24 := (vp_iff (by omega)).mpr (by omega)
        have z1 := b_z (x := rd M 1564 a &&& (rd M 1622 2 ^^^ (-1))) (i := i) (by omega)
        rw [hbits i (by omega), decide_eq_true hi, Bool.true_and] at z1
        obtain ⟨g1, g2⟩ := c_fewest hp hg (bi (uG u i)) (bi b)
        rw [few_bb hu hf (by omega) (by omega)] at g2
        have h99 := hf.1 (uG u i) b (by omega) (by omega)
        have e2 : (orN (f (uG u i) b) = nI (f a b) - 1) ↔ f (uG u i) b + 1 = f a b := by
          rw [show nI (f a b) - 1 = nI (f a b - 1) from pk_sub (b := 1) hpos]
          unfold orN
          by_cases z : f (uG u i) b < 999
          · rw [if_pos z, nI_eq (by omega) (by omega)]; omega
          · rw [if_neg z]
            exact ⟨fun y => absurd y (nI_m1' (by omega)), fun y => by omega⟩
        have hgg : nxP u s f a b i = false → _ := fun hx => ih () (by rw [hI, show uM u - i = (uM u - (i + 1)) + 1 by omega, fst_f hx])
        rw [P_0_firstDoor_41, F_0_firstDoor_41, hp.2.2.1]
        simp only [q, z1, v1, nI_clamp (n := i) (by omega), f2, bi_of, g1, g2, e2, if_true, if_false, true_imp_iff, false_imp_iff, not_true_eq_false, not_false_eq_true, true_and, and_true, implies_true, reduceIte, P_0_firstDoor_68, P_0_firstDoor_103, F_0_firstDoor_68, F_0_firstDoor_103, i1_0]
        by_cases c : nxP u s f a b i = true
        · have c' := c
          simp only [nxP, Bool.and_eq_true, Bool.not_eq_true', decide_eq_true_eq] at c'
          obtain ⟨⟨c3, c4⟩, c5⟩ := c'
          simp only [c3, c4, c5, decide_true, Bool.not_false, Bool.and_self, Bool.true_eq_false, if_true, if_false, true_imp_iff, false_imp_iff, not_true_eq_false, not_false_eq_true, true_and, and_true, implies_true, reduceIte]
          rw [hI, show uM u - i = (uM u - (i + 1)) + 1 by omega, fst_t c]
          simp [orM]
        · have c0 := Bool.eq_false_iff.mpr c
          have hgg := hgg c0
          cases c3 : sB s i
          · by_cases c4 : uF u i = a
            · by_cases c5 : f (uG u i) b + 1 = f a b
              · simp [nxP, c3, c4, c5] at c0
              · simpa [c3, c4, c5] using hgg
            · simpa [c3, c4] using hgg
          · simpa [c3] using hgg
      · intro n _ hI
        try dsimp only at hI ⊢
        have q : nI (uM u) ≤ nI (uM u) := nI_le (Nat.le_refl _) (by omega)
        rw [P_0_firstDoor_41, F_0_firstDoor_41, hp.2.2.1]
        simp only [q, if_true, if_false, true_imp_iff, false_imp_iff, not_true_eq_false, not_false_eq_true, true_and, and_true, implies_true, reduceIte]
        rw [hI, Nat.sub_self]; rfl
    · have e : orN (f a b) = -1 := by rw [orN, if_neg c2]
      rw [e]
      simp only [(by decide : ¬ (0 : Int32) < -1), c2, not_false_eq_true, or_true, if_true, if_false, true_imp_iff, false_imp_iff, not_true_eq_false, not_false_eq_true, true_and, and_true, implies_true, reduceIte]
