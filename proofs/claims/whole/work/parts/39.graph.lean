/-! MATHEMATICS 9: ways by plan -/
def ed (u : MU) (s : SU) (a b : Nat) : Prop := ∃ d, d < uM u ∧ sB s d = false ∧ uF u d = a ∧ uG u d = b
theorem ed_lt {u : MU} {s : SU} {a b : Nat} (hu : UW u) (h : ed u s a b) : a < uN u ∧ b < uN u ∧ a ≠ b := by
  obtain ⟨d, h1, _, rfl, rfl⟩ := h
  have := hu.2.2.2.2.1 d h1
  exact ⟨this.1, this.2.1, this.2.2.1⟩
theorem b_nbA {u : MU} {s : SU} {x : Int32} (hu : UW u) {b : Nat} : bt (nbA u s x) b = true ↔ ∃ a, bt x a = true ∧ ed u s a b := by
  rw [nbA, b_orD]
  have hn := hu.1
  constructor
  · rintro ⟨d, h1, h2⟩
    have w := hu.2.2.2.2.1 d h1
    unfold nbf at h2
    by_cases c : sB s d = false ∧ bt x (uF u d) = true
    · rw [if_pos c, b_bi (by omega), decide_eq_true_eq] at h2
      exact ⟨uF u d, c.2, d, h1, c.1, rfl, h2.symm⟩
    · rw [if_neg c, b_0] at h2; cases h2
  · rintro ⟨a, ha, d, h1, h2, rfl, rfl⟩
    have w := hu.2.2.2.2.1 d h1
    exact ⟨d, h1, by unfold nbf; rw [if_pos ⟨h2, ha⟩, b_bi (by omega), decide_eq_true_eq]⟩
theorem b_nbB {u : MU} {s : SU} {x : Int32} (hu : UW u) {a : Nat} : bt (nbB u s x) a = true ↔ ∃ b, bt x b = true ∧ ed u s a b := by
  rw [nbB, b_orD]
  have hn := hu.1
  constructor
  · rintro ⟨d, h1, h2⟩
    have w := hu.2.2.2.2.1 d h1
    unfold nbg at h2
    by_cases c : sB s d = false ∧ bt x (uG u d) = true
    · rw [if_pos c, b_bi (by omega), decide_eq_true_eq] at h2
      exact ⟨uG u d, c.2, d, h1, c.1, h2.symm, rfl⟩
    · rw [if_neg c, b_0] at h2; cases h2
  · rintro ⟨b, hb, d, h1, h2, rfl, rfl⟩
    have w := hu.2.2.2.2.1 d h1
    exact ⟨d, h1, by unfold nbg; rw [if_pos ⟨h2, hb⟩, b_bi (by omega), decide_eq_true_eq]⟩
theorem b_ext' {x y : Int32} (h : ∀ i, bt x i = true ↔ bt y i = true) : x = y := b_ext (fun i _ => Bool.eq_iff_iff.mpr (h i))
/-- a relation's step on sets -/
def StR (R : Nat → Nat → Prop) (f : Int32 → Int32) : Prop := ∀ x b, bt (f x) b = true ↔ ∃ a, bt x a = true ∧ R a b
def eB (u : MU) (s : SU) (a b : Nat) : Prop := ed u s b a
theorem stA {u : MU} {s : SU} (hu : UW u) : StR (ed u s) (nbA u s) := fun _ _ => b_nbA hu
theorem stB {u : MU} {s : SU} (hu : UW u) : StR (eB u s) (nbB u s) := fun _ _ => b_nbB hu
def rkF (f : Int32 → Int32) (x : Int32) : Nat → Int32
  | 0 => x
  | k + 1 => rkF f x k ||| f (rkF f x k)
theorem rk_fix {f : Int32 → Int32} {x : Int32} {i : Nat} (h : rkF f x (i + 1) = rkF f x i) : ∀ j, rkF f x (i + j) = rkF f x i := by
  intro j
  induction j with
  | zero => rfl
  | succ j ih => rw [← Nat.add_assoc, rkF, ih]; exact h
theorem rk_mono {f : Int32 → Int32} {x : Int32} {i b : Nat} (h : bt (rkF f x i) b = true) : ∀ j, bt (rkF f x (i + j)) b = true := by
  intro j
  induction j with
  | zero => exact h
  | succ j ih => rw [← Nat.add_assoc, rkF, b_or, ih]; rfl
theorem rk_mono' {f : Int32 → Int32} {x : Int32} {i j b : Nat} (h : bt (rkF f x i) b = true) (hij : i ≤ j) : bt (rkF f x j) b = true := by
  have := rk_mono h (j - i)
  rwa [show i + (j - i) = j by omega] at this
theorem rk_add {R : Nat → Nat → Prop} {f : Int32 → Int32} (hf : StR R f) {x : Int32} {b : Nat} : ∀ k, bt (rkF f x k) b = true ↔ ∃ a, bt x a = true ∧ bt (rkF f (bi a) k) b = true := by
  intro k
  induction k generalizing b with
  | zero =>
    constructor
    · intro h
      have hb : b < 32 := Nat.lt_of_not_le (fun z => by rw [show rkF f x 0 = x from rfl, b_big z] at h; cases h)
      exact ⟨b, h, by rw [show rkF f (bi b) 0 = bi b from rfl, b_bi hb, decide_eq_true_eq]⟩
    · rintro ⟨a, h1, h2⟩
      have ha : a < 32 := Nat.lt_of_not_le (fun z => by rw [b_big z] at h1; cases h1)
      rw [show rkF f (bi a) 0 = bi a from rfl, b_bi ha, decide_eq_true_eq] at h2
      subst h2; exact h1
  | succ k ih =>
    rw [rkF, b_or, Bool.or_eq_true, ih, hf]
    constructor
    · rintro (⟨a, h1, h2⟩ | ⟨c, h1, h2⟩)
      · exact ⟨a, h1, by rw [rkF, b_or, h2]; rfl⟩
      · obtain ⟨a, h3, h4⟩ := ih.mp h1
        exact ⟨a, h3, by rw [rkF, b_or, Bool.or_eq_true]; exact Or.inr ((hf _ _).mpr ⟨c, h4, h2⟩)⟩
    · rintro ⟨a, h1, h2⟩
      rw [rkF, b_or, Bool.or_eq_true] at h2
      rcases h2 with h2 | h2
      · exact Or.inl ⟨a, h1, h2⟩
      · obtain ⟨c, h3, h4⟩ := (hf _ _).mp h2
        exact Or.inr ⟨c, ih.mpr ⟨a, h1, h3⟩, h4⟩
theorem cnt_lt {p q : Nat → Bool} {k i : Nat} (hs : ∀ j, j < k → p j = true → q j = true) (hi : i < k) (h1 : p i = false) (h2 : q i = true) : cnt p k < cnt q k := by
  have le : ∀ m, m ≤ k → cnt p m ≤ cnt q m := by
    intro m
    induction m with
    | zero => intro _; exact Nat.le_refl _
    | succ m ih =>
      intro hm
      have := ih (by omega)
      simp only [cnt]
      by_cases c : p m = true
      · rw [if_pos c, if_pos (hs m (by omega) c)]; omega
      · rw [if_neg c]; split <;> omega
  have : ∀ m, i < m → m ≤ k → cnt p m < cnt q m := by
    intro m
    induction m with
    | zero => intro h; omega
    | succ m ih =>
      intro h1' hm
      by_cases e : i = m
      · subst e
        have := le i (by omega)
        simp only [cnt, h1, h2]
        simp
        omega
      · have := ih (by omega) (by omega)
        simp only [cnt]
        by_cases c : p m = true
        · rw [if_pos c, if_pos (hs m (by omega) c)]; omega
        · rw [if_neg c]; split <;> omega
  exact this k hi (Nat.le_refl _)
/-- no more than ten -/
def Low (x : Int32) : Prop := ∀ i, 10 ≤ i → bt x i = false
theorem low_bi {a : Nat} (h : a < 10) : Low (bi a) := fun i hi => by rw [b_bi (by omega), decide_eq_false (by omega)]
theorem low_or {x y : Int32} (h : Low x) (h2 : Low y) : Low (x ||| y) := fun i hi => by rw [b_or, h i hi, h2 i hi]; rfl
theorem low_rk {f : Int32 → Int32} {x : Int32} (hf : ∀ y, Low (f y)) (hx : Low x) : ∀ k, Low (rkF f x k) := by
  intro k
  induction k with
  | zero => exact hx
  | succ k ih => exact low_or ih (hf _)
theorem low_A {u : MU} {s : SU} (hu : UW u) (x : Int32) : Low (nbA u s x) := fun i hi => by
  apply Bool.eq_false_iff.mpr
  intro h
  obtain ⟨a, _, h2⟩ := (b_nbA hu).mp h
  have := ed_lt hu h2
  have := hu.1
  omega
theorem low_B {u : MU} {s : SU} (hu : UW u) (x : Int32) : Low (nbB u s x) := fun i hi => by
  apply Bool.eq_false_iff.mpr
  intro h
  obtain ⟨a, _, h2⟩ := (b_nbB hu).mp h
  have := ed_lt hu h2
  have := hu.1
  omega
theorem rk_stab {f : Int32 → Int32} {x : Int32} (hf : ∀ y, Low (f y)) (hx : Low x) {k : Nat} (hk : 10 ≤ k) : rkF f x k = rkF f x 10 := by
  have key : ∀ k, (∃ i, i < k ∧ rkF f x (i + 1) = rkF f x i) ∨ k ≤ cnt (bt (rkF f x k)) 10 := by
    intro k
    induction k with
    | zero => exact Or.inr (Nat.zero_le _)
    | succ k ih =>
      rcases ih with ⟨i, h1, h2⟩ | h
      · exact Or.inl ⟨i, by omega, h2⟩
      · by_cases e : rkF f x (k + 1) = rkF f x k
        · exact Or.inl ⟨k, by omega, e⟩
        · right
          have : ∃ i, bt (rkF f x (k + 1)) i = true ∧ bt (rkF f x k) i = false := by
            apply Classical.byContradiction
            intro hn
            apply e
            apply b_ext'
            intro i
            constructor
            · intro h1
              cases h2 : bt (rkF f x k) i
              · exact absurd ⟨i, h1, h2⟩ hn
              · rfl
            · intro h1
              exact rk_mono h1 1
          obtain ⟨i, h1, h2⟩ := this
          have hi : i < 10 := Nat.lt_of_not_le (fun z => by rw [low_rk hf hx (k + 1) i z] at h1; cases h1)
          have := cnt_lt (p := bt (rkF f x k)) (q := bt (rkF f x (k + 1))) (k := 10) (fun j _ hj => rk_mono hj 1) hi h2 h1
          omega
  rcases key 11 with ⟨i, h1, h2⟩ | h
  · have a := rk_fix h2 (k - i)
    have b := rk_fix h2 (10 - i)
    rw [show i + (k - i) = k by omega] at a
    rw [show i + (10 - i) = 10 by omega] at b
    rw [a, b]
  · have := cnt_le (bt (rkF f x 11)) 10
    omega
/-! the class's sets -/
theorem c_joineda {u : MU} {s : SU} {M : Mem} (hp : CP 1561 u M) (hg : CG u s M) (x : Int32) : P_0_joineda_0 M x ∧ F_0_joineda_0 M x = nbA u s x := by
  have hu := hp.1
  have hn := hu.1
  have e : nbA u s x = orD (fun r => if bt x r = true then nbA u s (bi r) else 0) (uN u) := by
    apply b_ext'
    intro b
    rw [b_nbA hu, b_orD]
    constructor
    · rintro ⟨a, h1, h2⟩
      have w := ed_lt hu h2
      exact ⟨a, w.1, by rw [if_pos h1]; exact (b_nbA hu).mpr ⟨a, by rw [b_bi (by omega), decide_eq_true_eq], h2⟩⟩
    · rintro ⟨r, h1, h2⟩
      by_cases c : bt x r = true
      · rw [if_pos c] at h2
        obtain ⟨a, h3, h4⟩ := (b_nbA hu).mp h2
        rw [b_bi (by omega), decide_eq_true_eq] at h3
        subst h3
        exact ⟨a, c, h4⟩
      · rw [if_neg c, b_0] at h2; cases h2
  rw [P_0_joineda_0, F_0_joineda_0, e]
  refine lq (S := Int32) (F := fun n i q => F_0_joineda_5 M n x q i) (P := fun n i q => P_0_joineda_5 M n x q i) (Q := fun a => a = orD (fun r => if bt x r = true then nbA u s (bi r) else 0) (uN u)) (uN u) (fun i q => q = orD (fun r => if bt x r = true then nbA u s (bi r) else 0) i) ?_ ?_ FU 0 0 rfl (Nat.zero_le _) (FU_ge (by omega))
  · intro n i y hi hI ih
    try dsimp only at hI ih ⊢
    have q : ¬ nI (uN u) ≤ nI i := nI_ge hi (by omega)
    have v1 : vp_in (nI i) 10 := (vp_iff (by omega)).mpr (by omega)
    have z1 := b_z (x := x) (i := i) (by omega)
    have hg2 := ih _ (by rw [orD, ← hI])
    rw [P_0_joineda_5, F_0_joineda_5, hp.2.1]
    simp only [q, v1, nI_clamp (n := i) (by omega), z1, hg.1 i (by omega), if_true, if_false, true_imp_iff, false_imp_iff, not_true_eq_false, not_false_eq_true, true_and, and_true, implies_true, reduceIte, P_0_joineda_33, F_0_joineda_33]
    cases c : bt x i <;> simpa [c, or_0] using hg2
  · intro n y hI
    try dsimp only at hI ⊢
    have q : nI (uN u) ≤ nI (uN u) := nI_le (Nat.le_refl _) (by omega)
    rw [P_0_joineda_5, F_0_joineda_5, hp.2.1]
    simp only [q, if_true, if_false, true_imp_iff, false_imp_iff, not_true_eq_false, not_false_eq_true, true_and, and_true, implies_true, reduceIte]
    exact hI
theorem c_joinedb {u : MU} {s : SU} {M : Mem} (hp : CP 1561 u M) (hg : CG u s M) (x : Int32) : P_0_joinedb_0 M x ∧ F_0_joinedb_0 M x = nbB u s x := by
  have hu := hp.1
  have hn := hu.1
  have e : nbB u s x = orD (fun r => if bt x r = true then nbB u s (bi r) else 0) (uN u) := by
    apply b_ext'
    intro b
    rw [b_nbB hu, b_orD]
    constructor
    · rintro ⟨a, h1, h2⟩
      have w := ed_lt hu h2
      exact ⟨a, w.2.1, by rw [if_pos h1]; exact (b_nbB hu).mpr ⟨a, by rw [b_bi (by omega), decide_eq_true_eq], h2⟩⟩
    · rintro ⟨r, h1, h2⟩
      by_cases c : bt x r = true
      · rw [if_pos c] at h2
        obtain ⟨a, h3, h4⟩ := (b_nbB hu).mp h2
        rw [b_bi (by omega), decide_eq_true_eq] at h3
        subst h3
        exact ⟨a, c, h4⟩
      · rw [if_neg c, b_0] at h2; cases h2
  rw [P_0_joinedb_0, F_0_joinedb_0, e]
  refine lq (S := Int32) (F := fun n i q => F_0_joinedb_5 M n x q i) (P := fun n i q => P_0_joinedb_5 M n x q i) (Q := fun a => a = orD (fun r => if bt x r = true then nbB u s (bi r) else 0) (uN u)) (uN u) (fun i q => q = orD (fun r => if bt x r = true then nbB u s (bi r) else 0) i) ?_ ?_ FU 0 0 rfl (Nat.zero_le _) (FU_ge (by omega))
  · intro n i y hi hI ih
    try dsimp only at hI ih ⊢
    have q : ¬ nI (uN u) ≤ nI i := nI_ge hi (by omega)
    have v1 : vp_in (nI i) 10 := (vp_iff (by omega)).mpr (by omega)
    have z1 := b_z (x := x) (i := i) (by omega)
    have hg2 := ih _ (by rw [orD, ← hI])
    rw [P_0_joinedb_5, F_0_joinedb_5, hp.2.1]
    simp only [q, v1, nI_clamp (n := i) (by omega), z1, hg.2 i (by omega), if_true, if_false, true_imp_iff, false_imp_iff, not_true_eq_false, not_false_eq_true, true_and, and_true, implies_true, reduceIte, P_0_joinedb_33, F_0_joinedb_33]
    cases c : bt x i <;> simpa [c, or_0] using hg2
  · intro n y hI
    try dsimp only at hI ⊢
    have q : nI (uN u) ≤ nI (uN u) := nI_le (Nat.le_refl _) (by omega)
    rw [P_0_joinedb_5, F_0_joinedb_5, hp.2.1]
    simp only [q, if_true, if_false, true_imp_iff, false_imp_iff, not_true_eq_false, not_false_eq_true, true_and, and_true, implies_true, reduceIte]
    exact hI
theorem c_closurea {u : MU} {s : SU} {M : Mem} (hp : CP 1561 u M) (hg : CG u s M) (x : Int32) : P_0_closurea_0 M x ∧ F_0_closurea_0 M x = rkF (nbA u s) x 10 := by
  rw [P_0_closurea_0, F_0_closurea_0]
  refine lq (S := Int32) (F := fun n i q => F_0_closurea_5 M n q i) (P := fun n i q => P_0_closurea_5 M n q i) (Q := fun a => a = rkF (nbA u s) x 10) (10) (fun i q => q = rkF (nbA u s) x i) ?_ ?_ FU 0 x rfl (Nat.zero_le _) (FU_ge (by omega))
  · intro n i y hi hI ih
    try dsimp only at hI ih ⊢
    have q : ¬ (10 : Int32) ≤ nI i := nI_ge (b := 10) hi (by omega)
    obtain ⟨a1, a2⟩ := c_joineda hp hg y
    rw [P_0_closurea_5, F_0_closurea_5, a2]
    simp only [q, a1, if_true, if_false, true_imp_iff, false_imp_iff, not_true_eq_false, not_false_eq_true, true_and, and_true, implies_true, reduceIte]
    by_cases e : y ||| nbA u s y = y
    · simp only [e, if_true, if_false, true_imp_iff, false_imp_iff, not_true_eq_false, not_false_eq_true, true_and, and_true, implies_true, reduceIte]
      have := rk_fix (f := nbA u s) (x := x) (i := i) (by rw [rkF, ← hI, e]) (10 - i)
      rw [show i + (10 - i) = 10 by omega] at this
      rw [this]; exact hI
    · simp only [e, if_true, if_false, true_imp_iff, false_imp_iff, not_true_eq_false, not_false_eq_true, true_and, and_true, implies_true, reduceIte]
      exact ih _ (by rw [rkF, hI])
  · intro n y hI
    try dsimp only at hI ⊢
    rw [P_0_closurea_5, F_0_closurea_5]
    simp only [(by decide : (10 : Int32) ≤ nI 10), if_true, if_false, true_imp_iff, false_imp_iff, not_true_eq_false, not_false_eq_true, true_and, and_true, implies_true, reduceIte]
    exact hI
theorem c_closureb {u : MU} {s : SU} {M : Mem} (hp : CP 1561 u M) (hg : CG u s M) (x : Int32) : P_0_closureb_0 M x ∧ F_0_closureb_0 M x = rkF (nbB u s) x 10 := by
  rw [P_0_closureb_0, F_0_closureb_0]
  refine lq (S := Int32) (F := fun n i q => F_0_closureb_5 M n q i) (P := fun n i q => P_0_closureb_5 M n q i) (Q := fun a => a = rkF (nbB u s) x 10) (10) (fun i q => q = rkF (nbB u s) x i) ?_ ?_ FU 0 x rfl (Nat.zero_le _) (FU_ge (by omega))
  · intro n i y hi hI ih
    try dsimp only at hI ih ⊢
    have q : ¬ (10 : Int32) ≤ nI i := nI_ge (b := 10) hi (by omega)
    obtain ⟨a1, a2⟩ := c_joinedb hp hg y
    rw [P_0_closureb_5, F_0_closureb_5, a2]
    simp only [q, a1, if_true, if_false, true_imp_iff, false_imp_iff, not_true_eq_false, not_false_eq_true, true_and, and_true, implies_true, reduceIte]
    by_cases e : y ||| nbB u s y = y
    · simp only [e, if_true, if_false, true_imp_iff, false_imp_iff, not_true_eq_false, not_false_eq_true, true_and, and_true, implies_true, reduceIte]
      have := rk_fix (f := nbB u s) (x := x) (i := i) (by rw [rkF, ← hI, e]) (10 - i)
      rw [show i + (10 - i) = 10 by omega] at this
      rw [this]; exact hI
    · simp only [e, if_true, if_false, true_imp_iff, false_imp_iff, not_true_eq_false, not_false_eq_true, true_and, and_true, implies_true, reduceIte]
      exact ih _ (by rw [rkF, hI])
  · intro n y hI
    try dsimp only at hI ⊢
    rw [P_0_closureb_5, F_0_closureb_5]
    simp only [(by decide : (10 : Int32) ≤ nI 10), if_true, if_false, true_imp_iff, false_imp_iff, not_true_eq_false, not_false_eq_true, true_and, and_true, implies_true, reduceIte]
    exact hI
def few (u : MU) (s : SU) (x y : Int32) : Option Nat := fst? (fun k => !decide (rkF (nbA u s) x k &&& y = 0)) 11 0
theorem c_fewest {u : MU} {s : SU} {M : Mem} (hp : CP 1561 u M) (hg : CG u s M) (x y : Int32) : P_0_fewestDoors_0 M x y ∧ F_0_fewestDoors_0 M x y = orM (few u s x y) := by
  rw [P_0_fewestDoors_0, F_0_fewestDoors_0]
  refine lq (S := Int32) (F := fun n i q => F_0_fewestDoors_5 M n y q i) (P := fun n i q => P_0_fewestDoors_5 M n y q i) (Q := fun a => a = orM (few u s x y)) (11) (fun i q => q = rkF (nbA u s) x i ∧ few u s x y = fst? (fun k => !decide (rkF (nbA u s) x k &&& y = 0)) (11 - i) i) ?_ ?_ FU 0 x ⟨rfl, rfl⟩ (Nat.zero_le _) (FU_ge (by omega))
  · intro n i z hi hI ih
    obtain ⟨hI, hf⟩ := hI
    try dsimp only at hI ih ⊢
    have q : ¬ (10 : Int32) < nI i := fun z => by have := (nI_ltI (a := 10) (by omega) (by omega)).mp z; omega
    obtain ⟨a1, a2⟩ := c_joineda hp hg z
    rw [P_0_fewestDoors_5, F_0_fewestDoors_5, P_0_oneAhead_0, F_0_oneAhead_0, a2]
    simp only [q, a1, if_true, if_false, true_imp_iff, false_imp_iff, not_true_eq_false, not_false_eq_true, true_and, and_true, implies_true, reduceIte]
    by_cases c1 : z &&& y = 0
    · have := ih (z ||| nbA u s z) ⟨by rw [rkF, hI], by rw [hf, show 11 - i = (11 - (i + 1)) + 1 by omega, fst_f (by simp [← hI, c1])]⟩
      simpa [c1] using this
    · simp only [c1, if_true, if_false, true_imp_iff, false_imp_iff, not_true_eq_false, not_false_eq_true, true_and, and_true, implies_true, reduceIte]
      rw [hf, show 11 - i = (11 - (i + 1)) + 1 by omega, fst_t (by simp [← hI, c1])]; rfl
  · intro n z hI
    obtain ⟨hI, hf⟩ := hI
    try dsimp only at hI ⊢
    rw [P_0_fewestDoors_5, F_0_fewestDoors_5]
    simp only [(by decide : (10 : Int32) < nI 11), if_true, if_false, true_imp_iff, false_imp_iff, not_true_eq_false, not_false_eq_true, true_and, and_true, implies_true, reduceIte]
    rw [hf]; rfl
theorem fst_some {p : Nat → Bool} : ∀ {n i k : Nat}, fst? p n i = some k ↔ (i ≤ k ∧ k < i + n ∧ p k = true ∧ ∀ j, i ≤ j → j < k → p j = false) := by
  intro n
  induction n with
  | zero => intro i k; simp [fst?]; omega
  | succ n ih =>
    intro i k
    cases c : p i
    · rw [fst_f c, ih]
      constructor
      · rintro ⟨h1, h2, h3, h4⟩
        refine ⟨by omega, by omega, h3, fun j hj1 hj2 => ?_⟩
        by_cases e : j = i
        · subst e; exact c
        · exact h4 j (by omega) hj2
      · rintro ⟨h1, h2, h3, h4⟩
        have : i ≠ k := by rintro rfl; rw [c] at h3; cases h3
        exact ⟨by omega, by omega, h3, fun j hj1 hj2 => h4 j (by omega) hj2⟩
    · rw [fst_t c]
      constructor
      · intro h
        cases h
        exact ⟨Nat.le_refl _, by omega, c, fun j h1 h2 => by omega⟩
      · rintro ⟨h1, h2, h3, h4⟩
        by_cases e : i = k
        · rw [e]
        · have := h4 i (Nat.le_refl _) (by omega)
          rw [c] at this; cases this
theorem fst_none {p : Nat → Bool} : ∀ {n i : Nat}, fst? p n i = none ↔ ∀ j, i ≤ j → j < i + n → p j = false := by
  intro n
  induction n with
  | zero => intro i; simp [fst?]; intro j h1 h2; omega
  | succ n ih =>
    intro i
    cases c : p i
    · rw [fst_f c, ih]
      constructor
      · intro h j h1 h2
        by_cases e : j = i
        · subst e; exact c
        · exact h j (by omega) (by omega)
      · intro h j h1 h2
        exact h j (by omega) (by omega)
    · rw [fst_t c]
      constructor
      · intro h; cases h
      · intro h
        have := h i (Nat.le_refl _) (by omega)
        rw [c] at this; cases this
/-- the matrix of the reference: all it must satisfy -/
def FW (u : MU) (s : SU) (f : Nat → Nat → Nat) : Prop := (∀ a b, a < 10 → b < 10 → f a b ≤ 999) ∧ (∀ a b, a < 10 → b < 10 → f a b < 999 → bt (rkF (nbA u s) (bi a) (f a b)) b = true) ∧ (∀ a, a < 10 → f a a = 0) ∧ (∀ a b, a < 10 → b < 10 → ed u s a b → f a b ≤ 1) ∧ ∀ a b c, a < 10 → b < 10 → c < 10 → f a c ≤ f a b + f b c
theorem FW.le {u : MU} {s : SU} {f : Nat → Nat → Nat} (hu : UW u) (h : FW u s f) {a b : Nat} (ha : a < 10) (hb : b < 10) : ∀ {k}, bt (rkF (nbA u s) (bi a) k) b = true → f a b ≤ k := by
  intro k
  induction k generalizing b with
  | zero =>
    intro h1
    rw [show rkF (nbA u s) (bi a) 0 = bi a from rfl, b_bi (by omega), decide_eq_true_eq] at h1
    subst h1
    rw [h.2.2.1 b hb]; exact Nat.le_refl _
  | succ k ih =>
    intro h1
    rw [rkF, b_or, Bool.or_eq_true] at h1
    rcases h1 with h1 | h1
    · have := ih hb h1; omega
    · obtain ⟨c, h2, h3⟩ := (b_nbA hu).mp h1
      have hc : c < 10 := by have := ed_lt hu h3; have := hu.1; omega
      have := ih hc h2
      have := h.2.2.2.1 c b hc hb h3
      have := h.2.2.2.2 a c b ha hc hb
      omega
theorem FW.iff {u : MU} {s : SU} {f : Nat → Nat → Nat} (hu : UW u) (h : FW u s f) {a b : Nat} (ha : a < 10) (hb : b < 10) {k : Nat} (hk : k < 999) : bt (rkF (nbA u s) (bi a) k) b = true ↔ f a b ≤ k := by
  constructor
  · exact h.le hu ha hb
  · intro h1
    have := h.2.1 a b ha hb (by omega)
    exact rk_mono' this h1
theorem FW.ten {u : MU} {s : SU} {f : Nat → Nat → Nat} (hu : UW u) (h : FW u s f) {a b : Nat} (ha : a < 10) (hb : b < 10) (hf : f a b < 999) : f a b ≤ 10 := by
  apply Classical.byContradiction
  intro hn
  have h1 := h.2.1 a b ha hb hf
  rw [rk_stab (low_A hu) (low_bi ha) (by omega)] at h1
  have := h.le hu ha hb h1
  omega
