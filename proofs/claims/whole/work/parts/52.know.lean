/-! MATHEMATICS 22: fits and knows -/
theorem b_snS {u : MU} {x : Int32} {v : Nat} (hu : UW u) {r : Nat} : bt (snS u x v) r = true ↔ r < uN u ∧ bt x r = true ∧ uE u r = v := by
  have hn := hu.1
  rw [snS, b_orD]
  constructor
  · rintro ⟨q, h1, h2⟩
    unfold snf at h2
    by_cases c : bt x q = true ∧ uE u q = v
    · rw [if_pos c, b_bi (by omega), decide_eq_true_eq] at h2
      subst h2; exact ⟨h1, c⟩
    · rw [if_neg c, b_0] at h2; cases h2
  · rintro ⟨h1, h2⟩
    exact ⟨r, h1, by unfold snf; rw [if_pos h2, b_bi (by omega), decide_eq_true_eq]⟩
theorem c_see {u : MU} {M : Mem} (hp : CP 1561 u M) {v : Nat} (hv : v < 8) (x : Int32) : x &&& rd M 1566 v = snS u x v := by
  apply b_ext'
  intro r
  have h := hp.2.2.2.2.2.2.2 v hv r
  simp only [Nat.reduceAdd] at h
  rw [b_and, h, b_snS hp.1, Bool.and_eq_true, Bool.and_eq_true, decide_eq_true_eq, decide_eq_true_eq]
  exact ⟨fun ⟨a, b, c⟩ => ⟨b, a, c⟩, fun ⟨a, b, c⟩ => ⟨b, a, c⟩⟩
theorem c_standing {u : MU} {s : SU} {w : WU} {M : Mem} (hp : CP 1561 u M) (hr : CR 1622 u s M) (hw : CK w M) : P_9_standing_0 M ∧ ∃ M', F_9_standing_0 M = (fitW u s w w.1, M') ∧ Kp cG M M' ∧ CG u s M' := by
  obtain ⟨r1, M1, r2, r3, r4⟩ := c_renew hp hr
  have hp1 := hp.k r3 (fun a j z => by unfold cG at z; omega)
  have hw1 := hw.k r3 (fun a j z => by unfold cG at z; omega)
  have h12 := hw.1.1
  have eall : F_4_allRooms_0 M1 = bi (uN u) - 1 := by rw [F_4_allRooms_0, hp1.2.1, bi_of]
  rw [P_9_standing_0, F_9_standing_0, r2, P_9_standing_7, F_9_standing_7, eall]
  suffices h : P_9_standing_17 FU (bi (uN u) - 1) 0 M1 ∧ F_9_standing_17 FU (bi (uN u) - 1) 0 M1 = (fitW u s w w.1, M1) from ⟨⟨r1, h.1⟩, M1, h.2, r3, r4⟩
  refine lq (S := Int32) (F := fun n i q => F_9_standing_17 n q i M1) (P := fun n i q => P_9_standing_17 n q i M1) (Q := fun z => z = (fitW u s w w.1, M1)) (w.1) (fun i q => q = fitW u s w i) ?_ ?_ FU 0 (bi (uN u) - 1) rfl (Nat.zero_le _) (FU_ge (by omega))
  · intro n i x hi hI ih
    try dsimp only at hI ih ⊢
    have q1 : ¬ nI w.1 ≤ nI i := nI_ge hi (by omega)
    have f1 := hw1.2.2 i hi
    have f2 := hw.1.2 i hi
    have v1 : vp_in (nI i) 12 := (vp_iff (by omega)).mpr (by omega)
    have v2 : vp_in (nI (w.2 i)) 8 := (vp_iff (by omega)).mpr f2
    have e0 : (nI i = 0) ↔ i = 0 := nI_eq (b := 0) (by omega) (by omega)
    obtain ⟨a1, a2⟩ := c_joineda hp1 r4 x
    have hg := ih (fitW u s w (i + 1)) rfl
    rw [fitW, ← hI] at hg
    rw [P_9_standing_17, F_9_standing_17, hw1.2.1]
    simp only [q1, e0, v1, v2, nI_clamp (n := i) (by omega), f1, nI_clamp (n := w.2 i) (by omega), P_0_oneAhead_0, F_0_oneAhead_0, a1, a2, c_see hp1 f2, if_true, if_false, true_imp_iff, false_imp_iff, not_true_eq_false, not_false_eq_true, true_and, and_true, implies_true, reduceIte, P_9_standing_41, F_9_standing_41]
    by_cases c : i = 0 <;> simpa [c] using hg
  · intro n x hI
    try dsimp only at hI ⊢
    have q1 : nI w.1 ≤ nI w.1 := nI_le (Nat.le_refl _) (by omega)
    rw [P_9_standing_17, F_9_standing_17, hw1.2.1]
    simp only [q1, if_true, if_false, true_imp_iff, false_imp_iff, not_true_eq_false, not_false_eq_true, true_and, and_true, implies_true, reduceIte]
    rw [hI]
def oneS (x : Int32) : Prop := x &&& (x - 1) = 0
def knP (u : MU) (s : SU) : Nat → Int32 → Prop
  | 0, S => oneS S
  | k + 1, S => ∀ v, v < 8 → knP u s k (snS u (nbA u s S) v)
theorem nbA_0 {u : MU} {s : SU} (hu : UW u) : nbA u s 0 = 0 := b_ext (fun i _ => by
  rw [b_0]
  apply Bool.eq_false_iff.mpr
  intro z
  obtain ⟨a, h, _⟩ := (b_nbA hu).mp z
  rw [b_0] at h; cases h)
theorem snS_0 {u : MU} (hu : UW u) {v : Nat} : snS u 0 v = 0 := b_ext (fun i _ => by
  rw [b_0]
  apply Bool.eq_false_iff.mpr
  intro z
  have := (b_snS hu).mp z
  rw [b_0] at this; cases this.2.1)
theorem oneS_0 : oneS 0 := by unfold oneS; decide
theorem knP_0 {u : MU} {s : SU} (hu : UW u) : ∀ k, knP u s k 0 := by
  intro k
  induction k with
  | zero => exact oneS_0
  | succ k ih => intro v _; rw [nbA_0 hu, snS_0 hu]; exact ih
def KNA (u : MU) (s : SU) (S a : Int32) : Prop := (∃ k, k ≤ 6 ∧ a = nI k ∧ knP u s k S ∧ ∀ j, j < k → ¬ knP u s j S) ∨ (a = -1 ∧ ∀ k, k ≤ 6 → ¬ knP u s k S)
theorem KNA.eq {u : MU} {s : SU} {S a b : Int32} (h : KNA u s S a) (h' : KNA u s S b) : a = b := by
  rcases h with ⟨k, a1, rfl, a3, a4⟩ | ⟨rfl, a2⟩ <;> rcases h' with ⟨k', b1, rfl, b3, b4⟩ | ⟨rfl, b2⟩
  · rcases Nat.lt_trichotomy k k' with z | z | z
    · exact absurd a3 (b4 k z)
    · rw [z]
    · exact absurd b3 (a4 k' z)
  · exact absurd a3 (b2 k a1)
  · exact absurd b3 (a2 k' b1)
  · rfl
theorem r_isOne {M : Mem} {S : Int32} : (F_12_isOne_0 M S = 1 ∧ oneS S) ∨ (F_12_isOne_0 M S = 0 ∧ ¬ oneS S) := by
  rw [F_12_isOne_0]
  by_cases c : S &&& (S - 1) = 0
  · rw [if_pos c]; exact Or.inl ⟨rfl, c⟩
  · rw [if_neg c]; exact Or.inr ⟨rfl, c⟩
theorem r_isKnown {u : MU} {s : SU} {M : Mem} (hp : RP u M) (hr : RR u s (rd M 20)) : ∀ (n k : Nat) (S : Int32), k < n → k ≤ 6 → H_12_isKnown M n S (nI k) ∧ ((G_12_isKnown M n S (nI k) = 1 ∧ knP u s k S) ∨ (G_12_isKnown M n S (nI k) = 0 ∧ ¬ knP u s k S)) := by
  intro n
  induction n with
  | zero => intro k S h; omega
  | succ n0 ihn =>
    intro k S hk h6
    have hu := hp.1
    have e0 : (nI k = 0) ↔ k = 0 := nI_eq (b := 0) (by omega) (by omega)
    have nar : narrow .boolean (.int (F_12_isOne_0 M S)) = .int (F_12_isOne_0 M S) := by
      rcases r_isOne (M := M) (S := S) with ⟨h, _⟩ | ⟨h, _⟩ <;> rw [h] <;> rfl
    rw [H_12_isKnown, G_12_isKnown, P_12_isKnown_0, F_12_isKnown_0]
    by_cases c : k = 0
    · subst c
      simp only [e0, P_12_isKnown_8, F_12_isKnown_8, nar, if_true, if_false, true_imp_iff, false_imp_iff, not_true_eq_false, not_false_eq_true, true_and, and_true, implies_true, reduceIte]
      exact r_isOne
    · by_cases cS : S = 0
      · subst cS
        simp only [e0, c, P_12_isKnown_8, F_12_isKnown_8, nar, if_true, if_false, true_imp_iff, false_imp_iff, not_true_eq_false, not_false_eq_true, true_and, and_true, implies_true, reduceIte]
        refine Or.inl ⟨?_, knP_0 hu k⟩
        rcases r_isOne (M := M) (S := 0) with ⟨h, _⟩ | ⟨_, h⟩
        · exact h
        · exact absurd oneS_0 h
      · obtain ⟨k, rfl⟩ : ∃ j, k = j + 1 := ⟨k - 1, by omega⟩
        obtain ⟨b1, b2⟩ := r_behind hp hr S
        simp only [e0, c, cS, b1, b2, if_true, if_false, true_imp_iff, false_imp_iff, not_true_eq_false, not_false_eq_true, true_and, and_true, implies_true, reduceIte]
        refine lq (S := Unit) (F := fun n i q => F_12_isKnown_22 (G_12_isKnown M n0) M n (nI (k + 1)) (nbA u s S) i) (P := fun n i q => P_12_isKnown_22 (G_12_isKnown M n0) (H_12_isKnown M n0) M n (nI (k + 1)) (nbA u s S) i) (Q := fun z => (z = 1 ∧ knP u s (k + 1) S) ∨ (z = 0 ∧ ¬ knP u s (k + 1) S)) (8) (fun i _ => ∀ v, v < i → knP u s k (snS u (nbA u s S) v)) ?_ ?_ FU 0 () (fun v h => by omega) (Nat.zero_le _) (FU_ge (by omega))
        · intro m i _ hi hI ih
          try dsimp only at hI ih ⊢
          have q1 : ¬ (8 : Int32) ≤ nI i := nI_ge (b := 8) hi (by omega)
          obtain ⟨s1, s2⟩ := r_seen hp (nbA u s S) (v := i) (by omega)
          obtain ⟨g1, g2⟩ := ihn k (snS u (nbA u s S) i) (by omega) (by omega)
          rw [P_12_isKnown_22, F_12_isKnown_22, nI_pred]
          simp only [q1, s1, s2, g1, if_true, if_false, true_imp_iff, false_imp_iff, not_true_eq_false, not_false_eq_true, true_and, and_true, implies_true, reduceIte]
          rcases g2 with ⟨g2, g3⟩ | ⟨g2, g3⟩
          · rw [g2]
            simp only [i1_0, if_true, if_false, true_imp_iff, false_imp_iff, not_true_eq_false, not_false_eq_true, true_and, and_true, implies_true, reduceIte]
            refine ih () (fun v hv => ?_)
            by_cases e : v = i
            · subst e; exact g3
            · exact hI v (by omega)
          · rw [g2]
            simp only [if_true, if_false, true_imp_iff, false_imp_iff, not_true_eq_false, not_false_eq_true, true_and, and_true, implies_true, reduceIte]
            first | exact Or.inr ⟨rfl, fun z => g3 (z i hi)⟩ | exact Or.inr (fun z => g3 (z i hi))
        · intro m _ hI
          try dsimp only at hI ⊢
          rw [P_12_isKnown_22, F_12_isKnown_22]
          simp only [(by decide : (8 : Int32) ≤ nI 8), if_true, if_false, true_imp_iff, false_imp_iff, not_true_eq_false, not_false_eq_true, true_and, and_true, implies_true, reduceIte]
          first | exact Or.inl ⟨rfl, hI⟩ | exact Or.inl hI
theorem r_knows {u : MU} {s : SU} {w : WU} {M : Mem} (hp : RP u M) (hr : RR u s (rd M 20)) (hw : RK w M) : P_12_knows_7 FU 0 M ∧ ∃ a, F_12_knows_7 FU 0 M = (a, M) ∧ KNA u s (fitW u s w w.1) a := by
  obtain ⟨f1, f2⟩ := r_fitsNow hp hr hw
  refine lq (S := Unit) (F := fun n i q => F_12_knows_7 n i M) (P := fun n i q => P_12_knows_7 n i M) (Q := fun z => ∃ a, z = (a, M) ∧ KNA u s (fitW u s w w.1) a) (7) (fun i _ => ∀ j, j < i → ¬ knP u s j (fitW u s w w.1)) ?_ ?_ FU 0 () (fun v h => by omega) (Nat.zero_le _) (FU_ge (by omega))
  · intro m i _ hi hI ih
    try dsimp only at hI ih ⊢
    have q1 : ¬ (6 : Int32) < nI i := fun z => by have := (nI_ltI (a := 6) (by omega) (by omega)).mp z; omega
    obtain ⟨g1, g2⟩ := r_isKnown hp hr 8 i (fitW u s w w.1) (by omega) (by omega)
    rw [P_12_knows_7, F_12_knows_7, f2]
    simp only [q1, f1, g1, if_true, if_false, true_imp_iff, false_imp_iff, not_true_eq_false, not_false_eq_true, true_and, and_true, implies_true, reduceIte]
    rcases g2 with ⟨g2, g3⟩ | ⟨g2, g3⟩
    · rw [g2]
      simp only [i1_0, if_true, if_false, true_imp_iff, false_imp_iff, not_true_eq_false, not_false_eq_true, true_and, and_true, implies_true, reduceIte]
      exact ⟨_, rfl, Or.inl ⟨i, by omega, rfl, g3, hI⟩⟩
    · rw [g2]
      simp only [if_true, if_false, true_imp_iff, false_imp_iff, not_true_eq_false, not_false_eq_true, true_and, and_true, implies_true, reduceIte]
      refine ih () (fun j hj => ?_)
      by_cases e : j = i
      · subst e; exact g3
      · exact hI j (by omega)
  · intro m _ hI
    try dsimp only at hI ⊢
    rw [P_12_knows_7, F_12_knows_7]
    simp only [(by decide : (6 : Int32) < nI 7), if_true, if_false, true_imp_iff, false_imp_iff, not_true_eq_false, not_false_eq_true, true_and, and_true, implies_true, reduceIte]
    exact ⟨_, rfl, Or.inr ⟨rfl, fun k hk => hI k (by omega)⟩⟩
/-! the class: sets of sets -/
def kbC (u : MU) (s : SU) (S : Int32) : Nat → Int32 → Prop
  | 0, T => T = S
  | k + 1, T => ∃ S', kbC u s S k S' ∧ ¬ nbA u s S' = 0 ∧ ∃ v, v < 8 ∧ T = snS u (nbA u s S') v
theorem kbC_front {u : MU} {s : SU} {S T : Int32} : ∀ k, kbC u s S (k + 1) T ↔ ¬ nbA u s S = 0 ∧ ∃ v, v < 8 ∧ kbC u s (snS u (nbA u s S) v) k T := by
  intro k
  induction k generalizing T with
  | zero =>
    constructor
    · rintro ⟨S', rfl, h1, v, h2, h3⟩; exact ⟨h1, v, h2, h3⟩
    · rintro ⟨h1, v, h2, h3⟩; exact ⟨S, rfl, h1, v, h2, h3⟩
  | succ k ih =>
    constructor
    · rintro ⟨S', h0, h1, v, h2, h3⟩
      obtain ⟨g1, v', g2, g3⟩ := ih.mp h0
      exact ⟨g1, v', g2, S', g3, h1, v, h2, h3⟩
    · rintro ⟨g1, v', g2, S', g3, h1, v, h2, h3⟩
      exact ⟨S', ih.mpr ⟨g1, v', g2, g3⟩, h1, v, h2, h3⟩
theorem knP_kb {u : MU} {s : SU} (hu : UW u) : ∀ k S, knP u s k S ↔ ∀ T, kbC u s S k T → oneS T := by
  intro k
  induction k with
  | zero =>
    intro S
    exact ⟨fun h T e => by rw [e]; exact h, fun h => h S rfl⟩
  | succ k ih =>
    intro S
    constructor
    · intro h T hT
      obtain ⟨g1, v, g2, g3⟩ := (kbC_front k).mp hT
      exact (ih _).mp (h v g2) T g3
    · intro h v hv
      by_cases c : nbA u s S = 0
      · rw [c, snS_0 hu]; exact knP_0 hu k
      · exact (ih _).mpr (fun T hT => h T ((kbC_front k).mpr ⟨c, v, hv, hT⟩))
theorem kb_num {u : MU} {s : SU} (hu : UW u) {S : Int32} (hS : ∃ t, t < 2 ^ uN u ∧ S = nI t) : ∀ k T, kbC u s S k T → ∃ t, t < 2 ^ uN u ∧ T = nI t := by
  have hn := hu.1
  intro k
  cases k with
  | zero => intro T h; rw [show T = S from h]; exact hS
  | succ k =>
    rintro T ⟨S', _, _, v, _, rfl⟩
    exact b_num (by omega) (fun i h1 h2 => Bool.eq_false_iff.mpr (fun z => by have := ((b_snS hu).mp z).1; omega))
theorem cnt_one {p : Nat → Bool} : ∀ n, cnt p n ≤ 1 ↔ ∀ i j, j < i → i < n → ¬ (p i = true ∧ p j = true) := by
  intro n
  induction n with
  | zero => exact ⟨fun _ i j _ h => by omega, fun _ => by show 0 ≤ 1; omega⟩
  | succ n ih =>
    have pos : ∀ m, 0 < cnt p m ↔ ∃ j, j < m ∧ p j = true := by
      intro m
      induction m with
      | zero => exact ⟨fun h => absurd h (by show ¬ 0 < 0; omega), fun ⟨j, h, _⟩ => by omega⟩
      | succ m ih2 =>
        rw [cnt]
        constructor
        · intro h
          by_cases c : p m = true
          · exact ⟨m, by omega, c⟩
          · rw [if_neg c] at h
            obtain ⟨j, h1, h2⟩ := ih2.mp h
            exact ⟨j, by omega, h2⟩
        · rintro ⟨j, h1, h2⟩
          by_cases e : j = m
          · subst e; rw [if_pos h2]; omega
          · have := ih2.mpr ⟨j, by omega, h2⟩; omega
    rw [cnt]
    constructor
    · intro h i j hji hin ⟨h1, h2⟩
      by_cases e : i = n
      · subst e
        rw [if_pos h1] at h
        have := (pos i).mpr ⟨j, hji, h2⟩
        omega
      · exact ih.mp (by omega) i j hji (by omega) ⟨h1, h2⟩
    · intro h
      have h1 := ih.mpr (fun i j a b => h i j a (by omega))
      by_cases c : p n = true
      · rw [if_pos c]
        have : ¬ 0 < cnt p n := fun z => by
          obtain ⟨j, h2, h3⟩ := (pos n).mp z
          exact h n j h2 (by omega) ⟨c, h3⟩
        omega
      · rw [if_neg c]; omega
theorem one_cnt {x : Int32} (h : Low x) (M : Mem) : (F_6_bitCount_0f7a4_0 M x ≤ 1) ↔ oneS x := by
  rw [bcount (fun i h1 _ => h i (by omega)) M]
  have l := cnt_le (bt x) 24
  rw [show (nI (cnt (bt x) 24) ≤ 1) ↔ cnt (bt x) 24 ≤ 1 from nI_leI (b := 1) (by omega) (by omega), cnt_one]
  unfold oneS
  rw [b_0iff]
  constructor
  · intro h1 i hi
    apply Bool.eq_false_iff.mpr
    intro z
    obtain ⟨z1, j, z2, z3⟩ := b_rest.mp z
    have : i < 10 := Nat.lt_of_not_le (fun y => by rw [h i y] at z1; cases z1)
    exact h1 i j z2 (by omega) ⟨z1, z3⟩
  · intro h1 i j hji hi ⟨z1, z2⟩
    have := h1 i (by omega)
    rw [b_rest.mpr ⟨z1, j, hji, z2⟩] at this
    cases this
def cB (c _ : Nat) : Prop := c = 1596 ∨ c = 1597
def BV (u : MU) (c : Nat) (K : Int32 → Prop) (M : Mem) : Prop := ∀ t, t < 2 ^ uN u → (rd M c t = 1 ∧ K (nI t)) ∨ (rd M c t = 0 ∧ ¬ K (nI t))
theorem nar1 : vp_nar .boolean 1 = 1 := rfl
theorem nar0 : vp_nar .boolean 0 = 0 := rfl
theorem low_nI {u : MU} (hn : uN u ≤ 10) {t : Nat} (ht : t < 2 ^ uN u) : Low (nI t) := fun i hi => by
  have := pow10 hn
  rw [b_nI (by omega)]
  exact Nat.testBit_lt_two_pow (Nat.lt_of_lt_of_le ht (Nat.pow_le_pow_right (by decide) (by omega)))
theorem c_allKnow {u : MU} {K : Int32 → Prop} {M : Mem} (hu : UW u) (hB : BV u 1596 K M) : P_9_allKnow_0 M (nI (2 ^ uN u - 1)) ∧ ((F_9_allKnow_0 M (nI (2 ^ uN u - 1)) = 1 ∧ ∀ t, t < 2 ^ uN u → K (nI t) → oneS (nI t)) ∨ (F_9_allKnow_0 M (nI (2 ^ uN u - 1)) = 0 ∧ ¬ ∀ t, t < 2 ^ uN u → K (nI t) → oneS (nI t))) := by
  have hn := hu.1
  have h1024 := pow10 hn
  have hpos := Nat.two_pow_pos (uN u)
  rw [P_9_allKnow_0, F_9_allKnow_0]
  refine lq (S := Unit) (F := fun n i q => F_9_allKnow_2 M n (nI (2 ^ uN u - 1)) i) (P := fun n i q => P_9_allKnow_2 M n (nI (2 ^ uN u - 1)) i) (Q := fun z => (z = 1 ∧ ∀ t, t < 2 ^ uN u → K (nI t) → oneS (nI t)) ∨ (z = 0 ∧ ¬ ∀ t, t < 2 ^ uN u → K (nI t) → oneS (nI t))) (2 ^ uN u) (fun i _ => ∀ t, t < i → K (nI t) → oneS (nI t)) ?_ ?_ FU 0 () (fun v h => by omega) (Nat.zero_le _) (FU_ge (by omega))
  · intro m i _ hi hI ih
    try dsimp only at hI ih ⊢
    have q1 : ¬ nI (2 ^ uN u - 1) < nI i := nI_nlt (by omega) (by omega)
    have q2 : ¬ (1024 : Int32) ≤ nI i := nI_ge (b := 1024) (by omega) (by omega)
    have v1 : vp_in (nI i) 1024 := (vp_iff (by omega)).mpr (by omega)
    have o1 := one_cnt (low_nI hn hi) M
    rw [P_9_allKnow_2, F_9_allKnow_2]
    simp only [q1, q2, v1, nI_clamp (n := i) (by omega), if_true, if_false, true_imp_iff, false_imp_iff, not_true_eq_false, not_false_eq_true, true_and, and_true, implies_true, reduceIte, P_9_allKnow_33, F_9_allKnow_33]
    rcases hB i hi with ⟨h1, h2⟩ | ⟨h1, h2⟩
    · rw [h1]
      simp only [i1_0, if_true, if_false, true_imp_iff, false_imp_iff, not_true_eq_false, not_false_eq_true, true_and, and_true, implies_true, reduceIte]
      by_cases c : oneS (nI i)
      · simp only [o1.mpr c, if_true, if_false, true_imp_iff, false_imp_iff, not_true_eq_false, not_false_eq_true, true_and, and_true, implies_true, reduceIte]
        refine ih () (fun t ht hK => ?_)
        by_cases e : t = i
        · subst e; exact c
        · exact hI t (by omega) hK
      · simp only [mt o1.mp c, if_true, if_false, true_imp_iff, false_imp_iff, not_true_eq_false, not_false_eq_true, true_and, and_true, implies_true, reduceIte]
        first | exact Or.inr ⟨rfl, fun z => c (z i hi h2)⟩ | exact Or.inr (fun z => c (z i hi h2))
    · rw [h1]
      simp only [if_true, if_false, true_imp_iff, false_imp_iff, not_true_eq_false, not_false_eq_true, true_and, and_true, implies_true, reduceIte]
      refine ih () (fun t ht hK => ?_)
      by_cases e : t = i
      · subst e; exact absurd hK h2
      · exact hI t (by omega) hK
  · intro m _ hI
    try dsimp only at hI ⊢
    have q1 : nI (2 ^ uN u - 1) < nI (2 ^ uN u) := nI_lt (by omega) (by omega)
    rw [P_9_allKnow_2, F_9_allKnow_2]
    simp only [q1, if_true, if_false, true_imp_iff, false_imp_iff, not_true_eq_false, not_false_eq_true, true_and, and_true, implies_true, reduceIte]
    first | exact Or.inl ⟨rfl, hI⟩ | exact Or.inl hI
theorem BV.cg {u : MU} {c : Nat} {K K' : Int32 → Prop} {M : Mem} (h : BV u c K M) (hk : ∀ t, t < 2 ^ uN u → (K (nI t) ↔ K' (nI t))) : BV u c K' M := fun t ht => (h t ht).imp (fun z => ⟨z.1, (hk t ht).mp z.2⟩) (fun z => ⟨z.1, fun y => z.2 ((hk t ht).mpr y)⟩)
theorem c_lookIn {u : MU} {s : SU} {K : Int32 → Prop} {M M1 : Mem} {X : Int32} {b : Nat} {x1 : Int32} (hp : CP 1561 u M) (hK : Kp cB M M1) (hL : BV u 1597 K M1) (hX : ∀ i, bt X i = true → i < uN u) (h96 : rd M1 1596 = rd M 1596)
    {k2 : Int32 → Int32 → Mem → Mem} {pk2 : Int32 → Int32 → Mem → Prop} {Q : Mem → Prop}
    (hn' : ∀ M2, Kp cB M M2 → rd M2 1596 = rd M 1596 → BV u 1597 (fun T => K T ∨ (¬ X = 0 ∧ ∃ v, v < 8 ∧ T = snS u X v)) M2 → pk2 x1 (nI b + 1) M2 ∧ Q (k2 x1 (nI b + 1) M2)) : P_9_lookOnce_39 pk2 FU x1 (nI b) X 0 M1 ∧ Q (F_9_lookOnce_39 k2 FU x1 (nI b) X 0 M1) := by
  have hu := hp.1
  have hn := hu.1
  have h1024 := pow10 hn
  by_cases c : X = 0
  · subst c
    have : FU = 6999 + 1 := rfl
    rw [this, P_9_lookOnce_39, F_9_lookOnce_39]
    simp only [(by decide : ¬ (8 : Int32) ≤ 0), if_true, if_false, true_imp_iff, false_imp_iff, not_true_eq_false, not_false_eq_true, true_and, and_true, implies_true, reduceIte, P_9_lookOnce_74, F_9_lookOnce_74]
    exact hn' M1 hK h96 (hL.cg (fun t _ => ⟨fun z => Or.inl z, fun z => z.resolve_right (fun y => y.1 rfl)⟩))
  · skip
    refine lq (S := Mem) (F := fun n i q => F_9_lookOnce_39 k2 n x1 (nI b) X i q) (P := fun n i q => P_9_lookOnce_39 pk2 n x1 (nI b) X i q) (Q := Q) (8) (fun i q => Kp cB M q ∧ rd q 1596 = rd M 1596 ∧ BV u 1597 (fun T => K T ∨ ∃ v, v < i ∧ T = snS u X v) q) ?_ ?_ FU 0 M1 ⟨hK, h96, hL.cg (fun t _ => ⟨fun z => Or.inl z, fun z => z.resolve_right (fun ⟨v, h, _⟩ => by omega)⟩)⟩ (Nat.zero_le _) (FU_ge (by omega))
    · rintro n i M2 hi ⟨hK2, h2, hL2⟩ ih
      try dsimp only at ih ⊢
      have hp2 := hp.k hK2 (fun a j z => by unfold cB at z; omega)
      have q1 : ¬ (8 : Int32) ≤ nI i := nI_ge (b := 8) hi (by omega)
      have v1 : vp_in (nI i) 8 := (vp_iff (by omega)).mpr hi
      obtain ⟨t, ht, et⟩ : ∃ t, t < 2 ^ uN u ∧ snS u X i = nI t := b_num (by omega) (fun j h1 h2 => Bool.eq_false_iff.mpr (fun z => by have := ((b_snS hu).mp z).1; omega))
      have v2 : vp_in (nI t) 1024 := (vp_iff (by omega)).mpr (by omega)
      rw [P_9_lookOnce_39, F_9_lookOnce_39]
      simp only [q1, c, v1, nI_clamp (n := i) (by omega), c_see hp2 hi, et, v2, nI_clamp (n := t) (by omega), nar1, if_true, if_false, true_imp_iff, false_imp_iff, not_true_eq_false, not_false_eq_true, true_and, and_true, implies_true, reduceIte]
      refine ih _ ⟨hK2.w (Or.inr rfl), ?_, fun t' ht' => ?_⟩
      · rw [← h2]; funext j; exact rd_c (by decide)
      · rw [rd_wr]
        by_cases e : t' = t
        · rw [if_pos ⟨rfl, e⟩]
          exact Or.inl ⟨rfl, Or.inr ⟨i, by omega, by rw [e, et]⟩⟩
        · rw [if_neg (fun z => e z.2)]
          rcases hL2 t' ht' with ⟨h3, h4⟩ | ⟨h3, h4⟩
          · exact Or.inl ⟨h3, h4.imp id (fun ⟨v, hv, z⟩ => ⟨v, by omega, z⟩)⟩
          · refine Or.inr ⟨h3, ?_⟩
            rintro (z | ⟨v, hv, z⟩)
            · exact h4 (Or.inl z)
            · by_cases e2 : v = i
              · subst e2
                rw [et] at z
                exact e ((nI_eq (by omega) (by omega)).mp z)
              · exact h4 (Or.inr ⟨v, by omega, z⟩)
    · rintro n M2 ⟨hK2, h2, hL2⟩
      try dsimp only
      rw [P_9_lookOnce_39, F_9_lookOnce_39]
      simp only [(by decide : (8 : Int32) ≤ nI 8), if_true, if_false, true_imp_iff, false_imp_iff, not_true_eq_false, not_false_eq_true, true_and, and_true, implies_true, reduceIte, P_9_lookOnce_74, F_9_lookOnce_74]
      exact hn' M2 hK2 h2 (hL2.cg (fun t _ => ⟨fun z => z.imp id (fun y => ⟨c, y⟩), fun z => z.imp id (fun y => y.2)⟩))
theorem c_lookOnce {u : MU} {s : SU} {K : Int32 → Prop} {M : Mem} (hp : CP 1561 u M) (hg : CG u s M) (hB : BV u 1596 K M) (hL : BV u 1597 (fun _ => False) M) : P_9_lookOnce_0 (nI (2 ^ uN u - 1)) M ∧ ∃ M', F_9_lookOnce_0 (nI (2 ^ uN u - 1)) M = M' ∧ Kp cB M M' ∧ BV u 1596 (fun T => ∃ c, c < 2 ^ uN u ∧ K (nI c) ∧ ¬ nbA u s (nI c) = 0 ∧ ∃ v, v < 8 ∧ T = snS u (nbA u s (nI c)) v) M' ∧ BV u 1597 (fun _ => False) M' := by
  have hu := hp.1
  have hn := hu.1
  have h1024 := pow10 hn
  have hpos := Nat.two_pow_pos (uN u)
  rw [P_9_lookOnce_0, F_9_lookOnce_0]
  have second : ∀ M1, Kp cB M M1 → BV u 1597 (fun T => ∃ c, c < 2 ^ uN u ∧ K (nI c) ∧ ¬ nbA u s (nI c) = 0 ∧ ∃ v, v < 8 ∧ T = snS u (nbA u s (nI c)) v) M1 → P_9_lookOnce_80 (nI (2 ^ uN u - 1)) M1 ∧ ∃ M', F_9_lookOnce_80 (nI (2 ^ uN u - 1)) M1 = M' ∧ Kp cB M M' ∧ BV u 1596 (fun T => ∃ c, c < 2 ^ uN u ∧ K (nI c) ∧ ¬ nbA u s (nI c) = 0 ∧ ∃ v, v < 8 ∧ T = snS u (nbA u s (nI c)) v) M' ∧ BV u 1597 (fun _ => False) M' := by
    intro M1 hK1 hL1
    rw [P_9_lookOnce_80, F_9_lookOnce_80]
    generalize (fun T => ∃ c, c < 2 ^ uN u ∧ K (nI c) ∧ ¬ nbA u s (nI c) = 0 ∧ ∃ v, v < 8 ∧ T = snS u (nbA u s (nI c)) v) = K' at hL1
    refine lq (S := Mem) (F := fun n i q => F_9_lookOnce_82 n (nI (2 ^ uN u - 1)) i q) (P := fun n i q => P_9_lookOnce_82 n (nI (2 ^ uN u - 1)) i q) (Q := fun z => ∃ M', z = M' ∧ Kp cB M M' ∧ BV u 1596 K' M' ∧ BV u 1597 (fun _ => False) M') (2 ^ uN u) (fun i q => Kp cB M q ∧ ∀ t, t < 2 ^ uN u → (t < i → ((rd q 1596 t = 1 ∧ K' (nI t)) ∨ (rd q 1596 t = 0 ∧ ¬ K' (nI t))) ∧ rd q 1597 t = 0) ∧ (i ≤ t → (rd q 1597 t = 1 ∧ K' (nI t)) ∨ (rd q 1597 t = 0 ∧ ¬ K' (nI t)))) ?_ ?_ FU 0 M1 ⟨hK1, fun t ht => ⟨fun h => by omega, fun _ => hL1 t ht⟩⟩ (Nat.zero_le _) (FU_ge (by omega))
    · rintro n i M2 hi ⟨hK2, hI⟩ ih
      try dsimp only at ih ⊢
      have q1 : ¬ nI (2 ^ uN u - 1) < nI i := nI_nlt (by omega) (by omega)
      have q2 : ¬ (1024 : Int32) ≤ nI i := nI_ge (b := 1024) (by omega) (by omega)
      have v1 : vp_in (nI i) 1024 := (vp_iff (by omega)).mpr (by omega)
      rw [P_9_lookOnce_82, F_9_lookOnce_82]
      simp only [q1, q2, v1, nI_clamp (n := i) (by omega), nar0, if_true, if_false, true_imp_iff, false_imp_iff, not_true_eq_false, not_false_eq_true, true_and, and_true, implies_true, reduceIte]
      refine ih _ ⟨(hK2.w (Or.inl rfl)).w (Or.inr rfl), fun t ht => ?_⟩
      by_cases e : t = i
      · subst e
        refine ⟨fun _ => ⟨?_, rd_s _ _ _ _⟩, fun h => by omega⟩
        rw [rd_c (by decide), rd_s]
        rcases (hI t ht).2 (Nat.le_refl _) with ⟨z1, z2⟩ | ⟨z1, z2⟩
        · rw [z1, nar1]; exact Or.inl ⟨rfl, z2⟩
        · rw [z1, nar0]; exact Or.inr ⟨rfl, z2⟩
      · rw [rd_i e, rd_i e, rd_i e, rd_i e]
        exact ⟨fun h => (hI t ht).1 (by omega), fun h => (hI t ht).2 (by omega)⟩
    · rintro n M2 ⟨hK2, hI⟩
      try dsimp only
      have q1 : nI (2 ^ uN u - 1) < nI (2 ^ uN u) := nI_lt (by omega) (by omega)
      rw [P_9_lookOnce_82, F_9_lookOnce_82]
      simp only [q1, if_true, if_false, true_imp_iff, false_imp_iff, not_true_eq_false, not_false_eq_true, true_and, and_true, implies_true, reduceIte]
      exact ⟨M2, rfl, hK2, fun t ht => ((hI t ht).1 ht).1, fun t ht => Or.inr ⟨((hI t ht).1 ht).2, fun z => z⟩⟩
  refine lq (S := Mem) (F := fun n i q => F_9_lookOnce_2 n (nI (2 ^ uN u - 1)) i q) (P := fun n i q => P_9_lookOnce_2 n (nI (2 ^ uN u - 1)) i q) (Q := fun z => ∃ M', z = M' ∧ Kp cB M M' ∧ BV u 1596 (fun T => ∃ c, c < 2 ^ uN u ∧ K (nI c) ∧ ¬ nbA u s (nI c) = 0 ∧ ∃ v, v < 8 ∧ T = snS u (nbA u s (nI c)) v) M' ∧ BV u 1597 (fun _ => False) M') (2 ^ uN u) (fun i q => Kp cB M q ∧ rd q 1596 = rd M 1596 ∧ BV u 1597 (fun T => ∃ c, c < i ∧ K (nI c) ∧ ¬ nbA u s (nI c) = 0 ∧ ∃ v, v < 8 ∧ T = snS u (nbA u s (nI c)) v) q) ?_ ?_ FU 0 M ⟨Kp.rf, rfl, hL.cg (fun t _ => ⟨fun z => z.elim, fun ⟨c, h, _⟩ => by omega⟩)⟩ (Nat.zero_le _) (FU_ge (by omega))
  · rintro n i M2 hi ⟨hK2, h2, hL2⟩ ih
    try dsimp only at ih ⊢
    have q1 : ¬ nI (2 ^ uN u - 1) < nI i := nI_nlt (by omega) (by omega)
    have q2 : ¬ (1024 : Int32) ≤ nI i := nI_ge (b := 1024) (by omega) (by omega)
    have v1 : vp_in (nI i) 1024 := (vp_iff (by omega)).mpr (by omega)
    have hp2 := hp.k hK2 (fun a j z => by unfold cB at z; omega)
    have hg2 := hg.k hK2 (fun a j z => by unfold cB at z; omega)
    obtain ⟨a1, a2⟩ := c_joineda hp2 hg2 (nI i)
    rw [P_9_lookOnce_2, F_9_lookOnce_2]
    simp only [q1, q2, v1, nI_clamp (n := i) (by omega), P_0_oneAhead_0, F_0_oneAhead_0, a1, a2, if_true, if_false, true_imp_iff, false_imp_iff, not_true_eq_false, not_false_eq_true, true_and, and_true, implies_true, reduceIte, P_9_lookOnce_35, F_9_lookOnce_35]
    rw [h2]
    have ending : ∀ X : Int32, (∀ j, bt X j = true → j < uN u) → (∀ T : Int32, (¬ X = 0 ∧ ∃ v, v < 8 ∧ T = snS u X v) ↔ (K (nI i) ∧ ¬ nbA u s (nI i) = 0 ∧ ∃ v, v < 8 ∧ T = snS u (nbA u s (nI i)) v)) → P_9_lookOnce_39 (P_9_lookOnce_2 n) FU (nI (2 ^ uN u - 1)) (nI i) X 0 M2 ∧ ∃ M', F_9_lookOnce_39 (F_9_lookOnce_2 n) FU (nI (2 ^ uN u - 1)) (nI i) X 0 M2 = M' ∧ Kp cB M M' ∧ BV u 1596 (fun T => ∃ c, c < 2 ^ uN u ∧ K (nI c) ∧ ¬ nbA u s (nI c) = 0 ∧ ∃ v, v < 8 ∧ T = snS u (nbA u s (nI c)) v) M' ∧ BV u 1597 (fun _ => False) M' := by
      intro X hX hXe
      refine c_lookIn (s := s) (Q := fun z => ∃ M', z = M' ∧ Kp cB M M' ∧ BV u 1596 (fun T => ∃ c, c < 2 ^ uN u ∧ K (nI c) ∧ ¬ nbA u s (nI c) = 0 ∧ ∃ v, v < 8 ∧ T = snS u (nbA u s (nI c)) v) M' ∧ BV u 1597 (fun _ => False) M') hp hK2 hL2 hX h2 (fun M3 k1 k2 k3 => ih M3 ⟨k1, k2, k3.cg (fun t ht => ?_)⟩)
      rw [hXe]
      constructor
      · rintro (⟨c, z1, z2⟩ | z)
        · exact ⟨c, by omega, z2⟩
        · exact ⟨i, by omega, z⟩
      · rintro ⟨c, z1, z2⟩
        by_cases e : c = i
        · subst e; exact Or.inr z2
        · exact Or.inl ⟨c, by omega, z2⟩
    rcases hB i hi with ⟨z1, z2⟩ | ⟨z1, z2⟩
    · rw [z1]
      simp only [i1_0, if_true, if_false, true_imp_iff, false_imp_iff, not_true_eq_false, not_false_eq_true, true_and, and_true, implies_true, reduceIte]
      refine ending (nbA u s (nI i)) (fun j hj => ?_) (fun T => ⟨fun z => ⟨z2, z⟩, fun z => z.2⟩)
      obtain ⟨a, _, h⟩ := (b_nbA hu).mp hj
      exact (ed_lt hu h).2.1
    · rw [z1]
      simp only [if_true, if_false, true_imp_iff, false_imp_iff, not_true_eq_false, not_false_eq_true, true_and, and_true, implies_true, reduceIte]
      exact ending 0 (fun j hj => by rw [b_0] at hj; cases hj) (fun T => ⟨fun z => absurd rfl z.1, fun z => absurd z.1 z2⟩)
  · rintro n M2 ⟨hK2, h2, hL2⟩
    try dsimp only
    have q1 : nI (2 ^ uN u - 1) < nI (2 ^ uN u) := nI_lt (by omega) (by omega)
    rw [P_9_lookOnce_2, F_9_lookOnce_2]
    simp only [q1, if_true, if_false, true_imp_iff, false_imp_iff, not_true_eq_false, not_false_eq_true, true_and, and_true, implies_true, reduceIte]
    exact second M2 hK2 hL2
theorem fitW_in {u : MU} {s : SU} {w : WU} (hu : UW u) : ∀ k, ∃ t, t < 2 ^ uN u ∧ fitW u s w k = nI t := by
  have hn := hu.1
  intro k
  cases k with
  | zero => exact ⟨2 ^ uN u - 1, by have := Nat.two_pow_pos (uN u); omega, all_num _ (by omega)⟩
  | succ k => exact b_num (by omega) (fun j h1 h2 => Bool.eq_false_iff.mpr (fun z => by have := ((b_snS hu).mp z).1; omega))
theorem c_knows {u : MU} {s : SU} {w : WU} {M : Mem} (hp : CP 1561 u M) (hr : CR 1622 u s M) (hw : CK w M) : P_9_roomsToKnow_0 M ∧ ∃ a M', F_9_roomsToKnow_0 M = (a, M') ∧ KNA u s (fitW u s w w.1) a ∧ Kp (fun c j => cG c j ∨ cB c j) M M' := by
  have hu := hp.1
  have hn := hu.1
  have h1024 := pow10 hn
  have hpos := Nat.two_pow_pos (uN u)
  have eall : F_4_allRooms_0 M = nI (2 ^ uN u - 1) := by rw [F_4_allRooms_0, hp.2.1, bi_of, all_num _ (by omega)]
  rw [P_9_roomsToKnow_0, F_9_roomsToKnow_0, eall]
  obtain ⟨S, hS, eS⟩ := fitW_in (u := u) (s := s) (w := w) hu w.1
  have third : ∀ M1, Kp (fun c j => cG c j ∨ cB c j) M M1 → CP 1561 u M1 → CG u s M1 → BV u 1596 (fun T => T = nI S) M1 → BV u 1597 (fun _ => False) M1 → P_9_roomsToKnow_56 FU (nI (2 ^ uN u - 1)) 0 M1 ∧ ∃ a M', F_9_roomsToKnow_56 FU (nI (2 ^ uN u - 1)) 0 M1 = (a, M') ∧ KNA u s (nI S) a ∧ Kp (fun c j => cG c j ∨ cB c j) M M' := by
    intro M1 hK1 hp1 hg1 hB1 hL1
    refine lq (S := Mem) (F := fun n i q => F_9_roomsToKnow_56 n (nI (2 ^ uN u - 1)) i q) (P := fun n i q => P_9_roomsToKnow_56 n (nI (2 ^ uN u - 1)) i q) (Q := fun z => ∃ a M', z = (a, M') ∧ KNA u s (nI S) a ∧ Kp (fun c j => cG c j ∨ cB c j) M M') (7) (fun i q => Kp (fun c j => cG c j ∨ cB c j) M q ∧ CP 1561 u q ∧ CG u s q ∧ BV u 1596 (kbC u s (nI S) i) q ∧ BV u 1597 (fun _ => False) q ∧ ∀ j, j < i → ¬ knP u s j (nI S)) ?_ ?_ FU 0 M1 ⟨hK1, hp1, hg1, hB1, hL1, fun j h => by omega⟩ (Nat.zero_le _) (FU_ge (by omega))
    · rintro n i M2 hi ⟨hK2, hp2, hg2, hB2, hL2, hno⟩ ih
      try dsimp only at ih ⊢
      have q1 : ¬ (6 : Int32) < nI i := fun z => by have := (nI_ltI (a := 6) (by omega) (by omega)).mp z; omega
      obtain ⟨g1, g2⟩ := c_allKnow hu hB2
      have ek : (∀ t, t < 2 ^ uN u → kbC u s (nI S) i (nI t) → oneS (nI t)) ↔ knP u s i (nI S) := by
        rw [knP_kb hu]
        constructor
        · intro h T hT
          obtain ⟨t, ht, rfl⟩ := kb_num hu ⟨S, hS, rfl⟩ i T hT
          exact h t ht hT
        · intro h t _ hT
          exact h _ hT
      rw [ek] at g2
      rw [P_9_roomsToKnow_56, F_9_roomsToKnow_56]
      simp only [q1, g1, if_true, if_false, true_imp_iff, false_imp_iff, not_true_eq_false, not_false_eq_true, true_and, and_true, implies_true, reduceIte]
      rcases g2 with ⟨g2, g3⟩ | ⟨g2, g3⟩
      · rw [g2]
        simp only [i1_0, if_true, if_false, true_imp_iff, false_imp_iff, not_true_eq_false, not_false_eq_true, true_and, and_true, implies_true, reduceIte]
        exact ⟨_, M2, rfl, Or.inl ⟨i, by omega, rfl, g3, hno⟩, hK2⟩
      · obtain ⟨l1, M3, l2, l3, l4, l5⟩ := c_lookOnce hp2 hg2 hB2 hL2
        rw [g2, l2]
        simp only [l1, if_true, if_false, true_imp_iff, false_imp_iff, not_true_eq_false, not_false_eq_true, true_and, and_true, implies_true, reduceIte, P_9_roomsToKnow_77, F_9_roomsToKnow_77]
        refine ih M3 ⟨hK2.tr (l3.mono (fun c j z => Or.inr z)), hp2.k l3 (fun a j z => by unfold cB at z; omega), hg2.k l3 (fun a j z => by unfold cB at z; omega), l4.cg (fun t ht => ?_), l5, fun j hj => ?_⟩
        · constructor
          · rintro ⟨c, z1, z2, z3, z4⟩; exact ⟨nI c, z2, z3, z4⟩
          · rintro ⟨T, z2, z3, z4⟩
            obtain ⟨c, hc, rfl⟩ := kb_num hu ⟨S, hS, rfl⟩ i T z2
            exact ⟨c, hc, z2, z3, z4⟩
        · by_cases e : j = i
          · subst e; exact g3
          · exact hno j (by omega)
    · rintro n M2 ⟨hK2, hp2, hg2, hB2, hL2, hno⟩
      try dsimp only
      rw [P_9_roomsToKnow_56, F_9_roomsToKnow_56]
      simp only [(by decide : (6 : Int32) < nI 7), if_true, if_false, true_imp_iff, false_imp_iff, not_true_eq_false, not_false_eq_true, true_and, and_true, implies_true, reduceIte]
      exact ⟨_, M2, rfl, Or.inr ⟨rfl, fun k hk => hno k (by omega)⟩, hK2⟩
  have second : ∀ M1, Kp cB M M1 → BV u 1596 (fun _ => False) M1 → BV u 1597 (fun _ => False) M1 → P_9_roomsToKnow_42 (nI (2 ^ uN u - 1)) M1 ∧ ∃ a M', F_9_roomsToKnow_42 (nI (2 ^ uN u - 1)) M1 = (a, M') ∧ KNA u s (fitW u s w w.1) a ∧ Kp (fun c j => cG c j ∨ cB c j) M M' := by
    intro M1 hK1 hB1 hL1
    have hp1 := hp.k hK1 (fun a j z => by unfold cB at z; omega)
    obtain ⟨s1, M2, s2, s3, s4⟩ := c_standing hp1 (hr.k hK1 (fun a j z => by unfold cB at z; omega)) (hw.k hK1 (fun a j z => by unfold cB at z; omega))
    rw [P_9_roomsToKnow_42, F_9_roomsToKnow_42, s2, eS]
    have e1 : nI S &&& nI (2 ^ uN u - 1) = nI S := by
      apply b_ext'
      intro i
      rw [b_and, Bool.and_eq_true, ← all_num _ (by omega), b_allN hn, decide_eq_true_eq]
      refine ⟨fun z => z.1, fun z => ⟨z, ?_⟩⟩
      rw [b_nI (by omega)] at z
      exact tb_up hS z
    have v1 : vp_in (nI S) 1024 := (vp_iff (by omega)).mpr (by omega)
    rw [P_9_roomsToKnow_50, F_9_roomsToKnow_50, e1, nar1, nI_clamp (by omega)]
    have g96 : ∀ t, rd M2 1596 t = rd M1 1596 t := fun t => s3.g (by unfold cG; omega)
    have g97 : ∀ t, rd M2 1597 t = rd M1 1597 t := fun t => s3.g (by unfold cG; omega)
    have hK3 : Kp (fun c j => cG c j ∨ cB c j) M (wr M2 1596 S 1) := ((hK1.mono (fun c j z => Or.inr z)).tr (s3.mono (fun c j z => Or.inl z))).w (Or.inr (Or.inl rfl))
    have kk : Kp cB M2 (wr M2 1596 S 1) := Kp.rf.w (Or.inl rfl)
    have hp2 := hp1.k s3 (fun a j z => by unfold cG at z; omega)
    obtain ⟨t1, t2⟩ := third _ hK3 (hp2.k kk (fun a j z => by unfold cB at z; omega)) (s4.k kk (fun a j z => by unfold cB at z; omega)) (fun t ht => by
      rw [rd_wr]
      by_cases e : t = S
      · rw [if_pos ⟨rfl, e⟩]; exact Or.inl ⟨rfl, by rw [e]⟩
      · rw [if_neg (fun z => e z.2), g96]
        rcases hB1 t ht with ⟨_, z⟩ | ⟨z, _⟩
        · exact z.elim
        · exact Or.inr ⟨z, fun y => e ((nI_eq (by omega) (by omega)).mp y)⟩) (fun t ht => by rw [rd_c (by decide), g97]; exact hL1 t ht)
    exact ⟨⟨s1, v1, t1⟩, t2⟩
  refine lq (S := Mem) (F := fun n i q => F_9_roomsToKnow_10 n (nI (2 ^ uN u - 1)) i q) (P := fun n i q => P_9_roomsToKnow_10 n (nI (2 ^ uN u - 1)) i q) (Q := fun z => ∃ a M', z = (a, M') ∧ KNA u s (fitW u s w w.1) a ∧ Kp (fun c j => cG c j ∨ cB c j) M M') (2 ^ uN u) (fun i q => Kp cB M q ∧ ∀ t, t < i → rd q 1596 t = 0 ∧ rd q 1597 t = 0) ?_ ?_ FU 0 M ⟨Kp.rf, fun t h => by omega⟩ (Nat.zero_le _) (FU_ge (by omega))
  · rintro n i M2 hi ⟨hK2, hz⟩ ih
    try dsimp only at ih ⊢
    have q1 : ¬ nI (2 ^ uN u - 1) < nI i := nI_nlt (by omega) (by omega)
    have q2 : ¬ (1024 : Int32) ≤ nI i := nI_ge (b := 1024) (by omega) (by omega)
    have v1 : vp_in (nI i) 1024 := (vp_iff (by omega)).mpr (by omega)
    rw [P_9_roomsToKnow_10, F_9_roomsToKnow_10]
    simp only [q1, q2, v1, nI_clamp (n := i) (by omega), nar0, if_true, if_false, true_imp_iff, false_imp_iff, not_true_eq_false, not_false_eq_true, true_and, and_true, implies_true, reduceIte]
    refine ih _ ⟨(hK2.w (Or.inl rfl)).w (Or.inr rfl), fun t ht => ?_⟩
    by_cases e : t = i
    · subst e; exact ⟨by rw [rd_c (by decide), rd_s], rd_s _ _ _ _⟩
    · rw [rd_i e, rd_i e, rd_i e, rd_i e]; exact hz t (by omega)
  · rintro n M2 ⟨hK2, hz⟩
    try dsimp only
    have q1 : nI (2 ^ uN u - 1) < nI (2 ^ uN u) := nI_lt (by omega) (by omega)
    rw [P_9_roomsToKnow_10, F_9_roomsToKnow_10]
    simp only [q1, if_true, if_false, true_imp_iff, false_imp_iff, not_true_eq_false, not_false_eq_true, true_and, and_true, implies_true, reduceIte]
    exact second M2 hK2 (fun t ht => Or.inr ⟨(hz t ht).1, fun z => z⟩) (fun t ht => Or.inr ⟨(hz t ht).2, fun z => z⟩)
