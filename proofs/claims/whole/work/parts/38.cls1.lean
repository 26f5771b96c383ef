/-! MATHEMATICS 8: the class's small askings -/
theorem lq {S R : Type} {F : Nat → Int32 → S → R} {P : Nat → Int32 → S → Prop} {Q : R → Prop} (hi : Nat) (I : Nat → S → Prop) (body : ∀ n i s, i < hi → I i s → (∀ s', I (i + 1) s' → P n (nI i + 1) s' ∧ Q (F n (nI i + 1) s')) → P (n + 1) (nI i) s ∧ Q (F (n + 1) (nI i) s)) (fin : ∀ n s, I hi s → P (n + 1) (nI hi) s ∧ Q (F (n + 1) (nI hi) s)) : ∀ (n i : Nat) (s : S), I i s → i ≤ hi → hi - i < n → P n (nI i) s ∧ Q (F n (nI i) s) := by
  intro n
  induction n with
  | zero => intro i s _ _ h; omega
  | succ n ih =>
    intro i s hI h1 h2
    by_cases e : i = hi
    · subst e; exact fin n s hI
    · exact body n i s (by omega) hI (fun s' h4 => by rw [nI_1]; exact ih (i + 1) s' h4 (by omega) (by omega))
def cO (c _ : Nat) : Prop := c = 1586
def CV (u : MU) (s : SU) (L : List Int32) (M : Mem) : Prop := CP 1561 u M ∧ CR 1622 u s M ∧ CL L M
theorem CV.k {p : Nat → Nat → Prop} {u : MU} {s : SU} {L : List Int32} {M M' : Mem} (h : CV u s L M) (hk : Kp p M M') (hp : ∀ c j, p c j → ¬ (1561 ≤ c ∧ c ≤ 1570) ∧ ¬ (1622 ≤ c ∧ c ≤ 1624) ∧ c ≠ 1583 ∧ c ≠ 1584) : CV u s L M' := by
  refine ⟨h.1.k hk (fun c j z => ?_), h.2.1.k hk (fun c j z => ?_), h.2.2.k hk (fun c j z => ?_)⟩
  · have := hp c j z; omega
  · have := hp c j z; omega
  · have := hp c j z; omega
theorem CV.o {u : MU} {s : SU} {L : List Int32} {M M' : Mem} (h : CV u s L M) (hk : Kp cO M M') : CV u s L M' := h.k hk (fun c j z => by unfold cO at z; omega)
theorem c_open {u : MU} {s : SU} {L : List Int32} {d h : Nat} {M : Mem} (hv : CV u s L M) (hd : d < uM u) (hh : h < 4000) : P_1_isOpen_0 (nI d) (nI h) M ∧ ∃ M', F_1_isOpen_0 (nI d) (nI h) M = (if opn u s L d h = true then 1 else 0, M') ∧ Kp cO M M' := c_isOpen hd hh hv.1 hv.2.1 hv.2.2
/-- the doors open at an hour -/
def opS (u : MU) (s : SU) (L : List Int32) (h : Nat) : Int32 := orD (fun d => if opn u s L d h = true then bi d else 0) (uM u)
theorem c_openDoors {u : MU} {s : SU} {L : List Int32} {M : Mem} (hv : CV u s L M) {h : Nat} (hh : h < 4000) : P_1_openDoors_0 (nI h) M ∧ ∃ M', F_1_openDoors_0 (nI h) M = (opS u s L h, M') ∧ Kp cO M M' := by
  rw [P_1_openDoors_0, F_1_openDoors_0]
  have hm := hv.1.1.2.1
  refine lq (S := Int32 × Mem) (F := fun n i q => F_1_openDoors_4 n (nI h) q.1 i q.2) (P := fun n i q => P_1_openDoors_4 n (nI h) q.1 i q.2) (Q := fun a => ∃ M', a = (opS u s L h, M') ∧ Kp cO M M') (uM u) (fun i q => q.1 = orD (fun d => if opn u s L d h = true then bi d else 0) i ∧ Kp cO M q.2) ?_ ?_ FU 0 (0, M) ⟨rfl, Kp.rf⟩ (Nat.zero_le _) (FU_ge (by omega))
  · rintro n i ⟨x, M1⟩ hi ⟨hI, hk⟩ ih
    try dsimp only at hI hk ih ⊢
    have hv1 := hv.o hk
    obtain ⟨o1, M2, o2, o3⟩ := c_open (h := h) hv1 hi hh
    have q : ¬ nI (uM u) ≤ nI i := nI_ge hi (by omega)
    have hg := ih (x ||| (if opn u s L i h = true then bi i else 0), M2) ⟨by rw [hI, orD], hk.tr o3⟩
    rw [P_1_openDoors_4, F_1_openDoors_4, hv1.1.2.2.1]
    simp only [q, o1, o2, if_true, if_false, true_imp_iff, false_imp_iff, not_true_eq_false, not_false_eq_true, true_and, and_true, implies_true, reduceIte, P_1_openDoors_21, P_1_openDoors_30, F_1_openDoors_21, F_1_openDoors_30, ib0, bi_of]
    cases hb : opn u s L i h <;> simpa [hb, or_0] using hg
  · rintro n ⟨x, M1⟩ ⟨hI, hk⟩
    try dsimp only at hI hk ⊢
    have q : nI (uM u) ≤ nI (uM u) := nI_le (Nat.le_refl _) (by omega)
    rw [P_1_openDoors_4, F_1_openDoors_4, (hv.o hk).1.2.2.1]
    simp only [q, if_true, if_false, true_imp_iff, false_imp_iff, not_true_eq_false, not_false_eq_true, true_and, and_true, implies_true, reduceIte]
    exact ⟨M1, by rw [hI]; rfl, hk⟩
theorem b_opS {u : MU} {s : SU} {L : List Int32} {h : Nat} (hm : uM u ≤ 24) (d : Nat) : bt (opS u s L h) d = (decide (d < uM u) && opn u s L d h) := by
  apply Bool.eq_iff_iff.mpr
  rw [opS, b_orD, Bool.and_eq_true, decide_eq_true_eq]
  constructor
  · rintro ⟨e, h1, h2⟩
    by_cases c : opn u s L e h = true
    · rw [if_pos c, b_bi (by omega), decide_eq_true_eq] at h2
      subst h2; exact ⟨h1, c⟩
    · rw [if_neg c, b_0] at h2; cases h2
  · rintro ⟨h1, h2⟩
    exact ⟨d, h1, by rw [if_pos h2, b_bi (by omega), decide_eq_true_eq]⟩
/-- one hour more: what the class adds is what the reference has -/
def hrN (u : MU) (s : SU) (L : List Int32) (h : Nat) (x : Int32) : Nat → Int32
  | 0 => 0
  | k + 1 => hrN u s L h x k ||| (if bt x (uF u k) = true ∧ bt (x ||| hrN u s L h x k) (uG u k) = false ∧ opn u s L k h = true then bi (uG u k) else 0)
theorem hrN_or {u : MU} {s : SU} {L : List Int32} {h : Nat} {x : Int32} (hu : UW u) : ∀ k, k ≤ uM u → x ||| hrN u s L h x k = x ||| orD (hrf u s L h x) k := by
  intro k
  induction k with
  | zero => intro _; rfl
  | succ k ih =>
    intro hk
    have ih := ih (by omega)
    have w := hu.2.2.2.2.1 k (by omega)
    have hn := hu.1
    rw [hrN, orD, ← or_as, ← or_as, ih]
    generalize x ||| orD (hrf u s L h x) k = X
    have e : hrf u s L h x k = if bt x (uF u k) = true ∧ opn u s L k h = true then bi (uG u k) else 0 := rfl
    rw [e]
    by_cases c1 : bt x (uF u k) = true
    · by_cases c2 : opn u s L k h = true
      · cases c3 : bt X (uG u k)
        · simp [c1, c2]
        · simp only [c1, c2, Bool.true_eq_false, false_and, and_false, and_self, if_true, if_false, or_0]
          apply b_ext
          intro j _
          rw [b_or, b_bi (by omega)]
          by_cases e : j = uG u k
          · subst e; rw [c3]; rfl
          · rw [decide_eq_false e, Bool.or_false]
      · simp [c2]
    · simp [c1]
theorem c_comeTo {u : MU} {s : SU} {L : List Int32} {M : Mem} (hv : CV u s L M) (x : Int32) {h : Nat} (hh : h < 4000) : P_1_comeTo_0 x (nI h) M ∧ ∃ M', F_1_comeTo_0 x (nI h) M = (hrN u s L h x (uM u), M') ∧ Kp cO M M' := by
  rw [P_1_comeTo_0, F_1_comeTo_0]
  have hu := hv.1.1
  have hm := hu.2.1
  have hn := hu.1
  refine lq (S := Int32 × Mem) (F := fun n i q => F_1_comeTo_5 n x (nI h) q.1 i q.2) (P := fun n i q => P_1_comeTo_5 n x (nI h) q.1 i q.2) (Q := fun a => ∃ M', a = (hrN u s L h x (uM u), M') ∧ Kp cO M M') (uM u) (fun i q => q.1 = hrN u s L h x i ∧ Kp cO M q.2) ?_ ?_ FU 0 (0, M) ⟨rfl, Kp.rf⟩ (Nat.zero_le _) (FU_ge (by omega))
  · rintro n i ⟨y, M1⟩ hi ⟨hI, hk⟩ ih
    try dsimp only at hI hk ih ⊢
    have hv1 := hv.o hk
    obtain ⟨o1, M2, o2, o3⟩ := c_open (h := h) hv1 hi hh
    have q : ¬ nI (uM u) ≤ nI i := nI_ge hi (by omega)
    have w := hu.2.2.2.2.1 i hi
    obtain ⟨f1, f2, _, _⟩ := hv1.1.2.2.2.2.2.1 i hi
    obtain ⟨_, f4, _, _⟩ := (hv1.o o3).1.2.2.2.2.2.1 i hi
    simp only [Nat.reduceAdd] at f1 f2 f4
    have v1 : vp_in (nI i) 24 := (vp_iff (by omega)).mpr (by omega)
    have z1 := b_z (x := x) (i := uF u i) (by omega)
    have z2 := b_z (x := x ||| y) (i := uG u i) (by omega)
    have hg : ∀ M2, Kp cO M M2 → _ := fun M2 hk2 => ih (hrN u s L h x (i + 1), M2) ⟨rfl, hk2⟩
    rw [P_1_comeTo_5, F_1_comeTo_5, hv1.1.2.2.1]
    simp only [q, v1, nI_clamp (n := i) (by omega), f1, f2, f4, o1, o2, z1, z2, if_true, if_false, true_imp_iff, false_imp_iff, not_true_eq_false, not_false_eq_true, true_and, and_true, implies_true, reduceIte, P_1_comeTo_39, P_1_comeTo_65, P_1_comeTo_84, P_1_comeTo_102, F_1_comeTo_39, F_1_comeTo_65, F_1_comeTo_84, F_1_comeTo_102, ib0, bi_of]
    rw [hrN, ← hI] at hg
    cases c1 : bt x (uF u i)
    · have := hg M1 hk
      cases c2 : bt (x ||| y) (uG u i) <;> simpa [c1, c2, or_0, i10] using this
    · cases c2 : bt (x ||| y) (uG u i)
      · have := hg M2 (hk.tr o3)
        cases hb : opn u s L i h <;> simpa [c1, c2, hb, or_0, i10] using this
      · have := hg M1 hk
        simpa [c1, c2, or_0, i10] using this
  · rintro n ⟨x, M1⟩ ⟨hI, hk⟩
    try dsimp only at hI hk ⊢
    have q : nI (uM u) ≤ nI (uM u) := nI_le (Nat.le_refl _) (by omega)
    rw [P_1_comeTo_5, F_1_comeTo_5, (hv.o hk).1.2.2.1]
    simp only [q, if_true, if_false, true_imp_iff, false_imp_iff, not_true_eq_false, not_false_eq_true, true_and, and_true, implies_true, reduceIte]
    exact ⟨M1, by rw [hI], hk⟩
theorem hrN_S {u : MU} {s : SU} {L : List Int32} {h : Nat} {x : Int32} (hu : UW u) : x ||| hrN u s L h x (uM u) = hrS u s L h x := hrN_or hu _ (Nat.le_refl _)
theorem c_soonest {u : MU} {s : SU} {L : List Int32} {M : Mem} (hv : CV u s L M) (x y : Int32) : P_1_soonest_0 x y M ∧ ∃ M', F_1_soonest_0 x y M = (orM (sonK u s L x y), M') ∧ Kp cO M M' := by
  rw [P_1_soonest_0, F_1_soonest_0]
  have hH := hv.2.1.1.1
  refine lq (S := Int32 × Mem) (F := fun n i q => F_1_soonest_5 n y q.1 i q.2) (P := fun n i q => P_1_soonest_5 n y q.1 i q.2) (Q := fun a => ∃ M', a = (orM (sonK u s L x y), M') ∧ Kp cO M M') (97) (fun i q => q.1 = hrK u s L x i ∧ sonK u s L x y = fst? (fun k => !decide (hrK u s L x k &&& y = 0)) (97 - i) i ∧ Kp cO M q.2) ?_ ?_ FU 0 (x, M) ⟨rfl, rfl, Kp.rf⟩ (Nat.zero_le _) (FU_ge (by omega))
  · rintro n i ⟨z, M1⟩ hi ⟨hI, hf, hk⟩ ih
    try dsimp only at hI hf hk ih ⊢
    have hv1 := hv.o hk
    have q : ¬ (96 : Int32) < nI i := fun z => by have := (nI_ltI (a := 96) (by omega) (by omega)).mp z; omega
    obtain ⟨o1, M2, o2, o3⟩ := c_comeTo hv1 z (h := sH s + i) (by omega)
    rw [P_1_soonest_5, F_1_soonest_5, hv1.2.1.2.1, nI_add]
    simp only [q, o1, o2, if_true, if_false, true_imp_iff, false_imp_iff, not_true_eq_false, not_false_eq_true, true_and, and_true, implies_true, reduceIte, P_1_soonest_37, F_1_soonest_37, hrN_S hv.1.1]
    by_cases c1 : z &&& y = 0
    · have hg := ih (hrS u s L (sH s + i) z, M2) ⟨by rw [hI, hrK], by rw [hf, show 97 - i = (97 - (i + 1)) + 1 by omega, fst_f (by simp [← hI, c1])], hk.tr o3⟩
      simpa [c1] using hg
    · simp only [c1, if_true, if_false, true_imp_iff, false_imp_iff, not_true_eq_false, not_false_eq_true, true_and, and_true, implies_true, reduceIte]
      exact ⟨M1, by rw [hf, show 97 - i = (97 - (i + 1)) + 1 by omega, fst_t (by simp [← hI, c1])]; rfl, hk⟩
  · rintro n ⟨z, M1⟩ ⟨hI, hf, hk⟩
    try dsimp only at hI hf hk ⊢
    rw [P_1_soonest_5, F_1_soonest_5]
    simp only [(by decide : (96 : Int32) < nI 97), if_true, if_false, true_imp_iff, false_imp_iff, not_true_eq_false, not_false_eq_true, true_and, and_true, implies_true, reduceIte]
    exact ⟨M1, by rw [hf]; rfl, hk⟩
theorem c_reachedIn {u : MU} {s : SU} {L : List Int32} {M : Mem} (hv : CV u s L M) (x : Int32) {m : Nat} (hm : m ≤ 96) : P_1_reachedIn_0 x (nI m) M ∧ ∃ M', F_1_reachedIn_0 x (nI m) M = (hrK u s L x m, M') ∧ Kp cO M M' := by
  rw [P_1_reachedIn_0, F_1_reachedIn_0]
  have hH := hv.2.1.1.1
  refine lq (S := Int32 × Mem) (F := fun n i q => F_1_reachedIn_5 n (nI m) q.1 i q.2) (P := fun n i q => P_1_reachedIn_5 n (nI m) q.1 i q.2) (Q := fun a => ∃ M', a = (hrK u s L x m, M') ∧ Kp cO M M') (m) (fun i q => q.1 = hrK u s L x i ∧ Kp cO M q.2) ?_ ?_ FU 0 (x, M) ⟨rfl, Kp.rf⟩ (Nat.zero_le _) (FU_ge (by omega))
  · rintro n i ⟨z, M1⟩ hi ⟨hI, hk⟩ ih
    try dsimp only at hI hk ih ⊢
    have hv1 := hv.o hk
    have q : ¬ nI m ≤ nI i := nI_ge hi (by omega)
    obtain ⟨o1, M2, o2, o3⟩ := c_comeTo hv1 z (h := sH s + i) (by omega)
    have hg := ih (hrS u s L (sH s + i) z, M2) ⟨by rw [hI, hrK], hk.tr o3⟩
    rw [P_1_reachedIn_5, F_1_reachedIn_5, hv1.2.1.2.1, nI_add]
    simp only [q, o1, o2, if_true, if_false, true_imp_iff, false_imp_iff, not_true_eq_false, not_false_eq_true, true_and, and_true, implies_true, reduceIte, P_1_reachedIn_27, F_1_reachedIn_27, hrN_S hv.1.1]
    exact hg
  · rintro n ⟨z, M1⟩ ⟨hI, hk⟩
    try dsimp only at hI hk ⊢
    have q : nI m ≤ nI m := nI_le (Nat.le_refl _) (by omega)
    rw [P_1_reachedIn_5, F_1_reachedIn_5]
    simp only [q, if_true, if_false, true_imp_iff, false_imp_iff, not_true_eq_false, not_false_eq_true, true_and, and_true, implies_true, reduceIte]
    exact ⟨M1, by rw [hI], hk⟩
theorem c_toursIn {u : MU} {s : SU} {M : Mem} (hp : CP 1561 u M) (hr : CR 1622 u s M) {r : Nat} (hrr : r < 100) : P_7_toursIn_0 M (nI r) (nI (uT u)) ∧ F_7_toursIn_0 M (nI r) (nI (uT u)) = nI (trs u s r) := by
  rw [P_7_toursIn_0, F_7_toursIn_0]
  have hn := hp.1.1
  have ht := hp.1.2.2.1
  refine lq (S := Int32) (F := fun n i q => F_7_toursIn_5 M n (nI r) (nI (uT u)) q i) (P := fun n i q => P_7_toursIn_5 M n (nI r) (nI (uT u)) q i) (Q := fun a => a = nI (trs u s r)) (uT u) (fun i q => q = nI (cnt (fun t => decide (sP s t = r)) i)) ?_ ?_ FU 0 0 rfl (Nat.zero_le _) (FU_ge (by omega))
  · intro n i q hi hI ih
    try dsimp only at hI ih ⊢
    have q1 : ¬ nI (uT u) ≤ nI i := nI_ge hi (by omega)
    have q2 : ¬ (6 : Int32) ≤ nI i := nI_ge (b := 6) (by omega) (by omega)
    have f1 := hr.2.2.2.2.2.2 i hi
    have f2 := hr.1.2 i hi
    simp only [Nat.reduceAdd] at f1
    have v1 : vp_in (nI i) 6 := (vp_iff (by omega)).mpr (by omega)
    have he : (nI (sP s i) = nI r) ↔ sP s i = r := nI_eq (by omega) (by omega)
    rw [P_7_toursIn_5, F_7_toursIn_5]
    simp only [q1, q2, v1, nI_clamp (n := i) (by omega), f1, he, if_true, if_false, true_imp_iff, false_imp_iff, not_true_eq_false, not_false_eq_true, true_and, and_true, implies_true, reduceIte, P_7_toursIn_32, F_7_toursIn_32]
    by_cases e : sP s i = r
    · have := ih (q + 1) (by rw [hI, nI_1]; simp [cnt, e])
      simpa [e] using this
    · have := ih q (by rw [hI]; simp [cnt, e])
      simpa [e] using this
  · intro n q hI
    try dsimp only at hI ⊢
    have q1 : nI (uT u) ≤ nI (uT u) := nI_le (Nat.le_refl _) (by omega)
    rw [P_7_toursIn_5, F_7_toursIn_5]
    simp only [q1, if_true, if_false, true_imp_iff, false_imp_iff, not_true_eq_false, not_false_eq_true, true_and, and_true, implies_true, reduceIte]
    exact hI
theorem c_usedInAll {M : Mem} : P_7_usedInAll_0 M ∧ F_7_usedInAll_0 M = sumD (fun d => rd M 1623 d) 24 := by
  rw [P_7_usedInAll_0, F_7_usedInAll_0]
  refine lq (S := Int32) (F := fun n i q => F_7_usedInAll_4 M n q i) (P := fun n i q => P_7_usedInAll_4 M n q i) (Q := fun a => a = sumD (fun d => rd M 1623 d) 24) (24) (fun i q => q = sumD (fun d => rd M 1623 d) i) ?_ ?_ FU 0 0 rfl (Nat.zero_le _) (FU_ge (by omega))
  · intro n i q hi hI ih
    try dsimp only at hI ih ⊢
    have q1 : ¬ (24 : Int32) ≤ nI i := nI_ge (b := 24) hi (by omega)
    have v1 : vp_in (nI i) 24 := (vp_iff (by omega)).mpr hi
    rw [P_7_usedInAll_4, F_7_usedInAll_4]
    simp only [q1, v1, nI_clamp (n := i) (by omega), if_true, if_false, true_imp_iff, false_imp_iff, not_true_eq_false, not_false_eq_true, true_and, and_true, implies_true, reduceIte]
    exact ih _ (by rw [hI, sumD])
  · intro n q hI
    try dsimp only at hI ⊢
    rw [P_7_usedInAll_4, F_7_usedInAll_4]
    simp only [(by decide : (24 : Int32) ≤ nI 24), if_true, if_false, true_imp_iff, false_imp_iff, not_true_eq_false, not_false_eq_true, true_and, and_true, implies_true, reduceIte]
    exact hI
theorem sumD_cg {f g : Nat → Int32} {k : Nat} (h : ∀ d, d < k → f d = g d) : sumD f k = sumD g k := by
  induction k with
  | zero => rfl
  | succ k ih => rw [sumD, sumD, ih (fun d hd => h d (by omega)), h k (by omega)]
theorem sumD_z {f : Nat → Int32} {k m : Nat} (hk : k ≤ m) (h : ∀ d, k ≤ d → d < m → f d = 0) : sumD f m = sumD f k := by
  induction m with
  | zero => rw [show k = 0 by omega]
  | succ m ih =>
    by_cases e : k = m + 1
    · rw [e]
    · rw [sumD, ih (by omega) (fun d h1 h2 => h d h1 (by omega)), h m (by omega) (by omega), add0]
/-- graph: ahead and behind -/
def nbg (u : MU) (s : SU) (x : Int32) (d : Nat) : Int32 := if sB s d = false ∧ bt x (uG u d) = true then bi (uF u d) else 0
def nbB (u : MU) (s : SU) (x : Int32) : Int32 := orD (nbg u s x) (uM u)
def cG (c _ : Nat) : Prop := c = 1600 ∨ c = 1601
def CG (u : MU) (s : SU) (M : Mem) : Prop := (∀ r, r < 10 → rd M 1600 r = nbA u s (bi r)) ∧ ∀ r, r < 10 → rd M 1601 r = nbB u s (bi r)
theorem c_renew {u : MU} {s : SU} {M : Mem} (hp : CP 1561 u M) (hr : CR 1622 u s M) : P_0_renew_0 M ∧ ∃ M', F_0_renew_0 M = M' ∧ Kp cG M M' ∧ CG u s M' := by
  rw [P_0_renew_0, F_0_renew_0]
  have hu := hp.1
  have hm := hu.2.1
  have hn := hu.1
  have second : ∀ M1, Kp cG M M1 → (∀ r, r < 10 → rd M1 1600 r = 0 ∧ rd M1 1601 r = 0) → P_0_renew_30 FU 0 M1 ∧ ∃ M', F_0_renew_30 FU 0 M1 = M' ∧ Kp cG M M' ∧ CG u s M' := by
    intro M1 hk1 hz
    refine lq (S := Mem) (F := fun n i q => F_0_renew_30 n i q) (P := fun n i q => P_0_renew_30 n i q) (Q := fun a => ∃ M', a = M' ∧ Kp cG M M' ∧ CG u s M') (uM u) (fun i q => Kp cG M q ∧ ∀ r, r < 10 → rd q 1600 r = orD (nbf u s (bi r)) i ∧ rd q 1601 r = orD (nbg u s (bi r)) i) ?_ ?_ FU 0 M1 ⟨hk1, hz⟩ (Nat.zero_le _) (FU_ge (by omega))
    · intro n i M2 hi hI ih
      obtain ⟨hk, hI⟩ := hI
      try dsimp only at ih ⊢
      have hp1 := hp.k hk (fun a j z => by unfold cG at z; omega)
      have hr1 := hr.k hk (fun a j z => by unfold cG at z; omega)
      have q : ¬ nI (uM u) ≤ nI i := nI_ge hi (by omega)
      have w := hu.2.2.2.2.1 i hi
      obtain ⟨f1, f2, _, _⟩ := hp1.2.2.2.2.2.1 i hi
      simp only [Nat.reduceAdd] at f1 f2
      have v1 : vp_in (nI i) 24 := (vp_iff (by omega)).mpr (by omega)
      have v2 : vp_in (nI (uF u i)) 10 := (vp_iff (by omega)).mpr (by omega)
      have v3 : vp_in (nI (uG u i)) 10 := (vp_iff (by omega)).mpr (by omega)
      have z1 := b_z (x := rd M2 1622 2) (i := i) (by omega)
      have hb := hr1.2.2.2.1 i
      rw [decide_eq_true hi, Bool.true_and] at hb
      rw [hb] at z1
      have e1 : ∀ j v, rd (wr M2 1600 j v) 1568 i = rd M2 1568 i := fun j v => rd_c (by decide)
      have e2 : ∀ j v, rd (wr M2 1600 j v) 1567 i = rd M2 1567 i := fun j v => rd_c (by decide)
      have e3 : ∀ j v k, rd (wr M2 1600 j v) 1601 k = rd M2 1601 k := fun j v k => rd_c (by decide)
      rw [P_0_renew_30, F_0_renew_30, hp1.2.2.1]
      simp only [q, v1, v2, v3, nI_clamp (n := i) (by omega), f1, f2, e1, e2, e3, z1, if_true, if_false, true_imp_iff, false_imp_iff, not_true_eq_false, not_false_eq_true, true_and, and_true, implies_true, reduceIte, P_0_renew_111, F_0_renew_111, nI_clamp (n := uF u i) (by omega), nI_clamp (n := uG u i) (by omega), bi_of]
      cases hB : sB s i
      · have hg := ih (wr (wr M2 1600 (uF u i) (rd M2 1600 (uF u i) ||| bi (uG u i))) 1601 (uG u i) (rd M2 1601 (uG u i) ||| bi (uF u i))) ⟨(hk.w (Or.inl rfl)).w (Or.inr rfl), fun r hr => by
          constructor
          · rw [rd_c (by decide), orD, ← (hI r hr).1, rd_wr]
            unfold nbf
            by_cases e : r = uF u i
            · subst e; simp [hB, b_bi (n := uF u i) (by omega)]
            · have e2 : ¬ uF u i = r := fun z => e z.symm
              simp [e, e2, b_bi (n := r) (by omega), or_0]
          · rw [orD, ← (hI r hr).2, rd_wr]
            unfold nbg
            by_cases e : r = uG u i
            · subst e; simp [hB, b_bi (n := uG u i) (by omega)]
            · have e2 : ¬ uG u i = r := fun z => e z.symm
              simp [e, e2, b_bi (n := r) (by omega), or_0, e3]⟩
        simpa using hg
      · have hg := ih M2 ⟨hk, fun r hr => by
          rw [orD, orD, ← (hI r hr).1, ← (hI r hr).2]
          unfold nbf nbg
          simp [hB, or_0]⟩
        simpa using hg
    · intro n M2 hI
      obtain ⟨hk, hI⟩ := hI
      try dsimp only
      have hp1 := hp.k hk (fun a j z => by unfold cG at z; omega)
      have q : nI (uM u) ≤ nI (uM u) := nI_le (Nat.le_refl _) (by omega)
      rw [P_0_renew_30, F_0_renew_30, hp1.2.2.1]
      simp only [q, if_true, if_false, true_imp_iff, false_imp_iff, not_true_eq_false, not_false_eq_true, true_and, and_true, implies_true, reduceIte]
      exact ⟨M2, rfl, hk, fun r hr => (hI r hr).1, fun r hr => (hI r hr).2⟩
  refine lq (S := Mem) (F := fun n i q => F_0_renew_2 n i q) (P := fun n i q => P_0_renew_2 n i q) (Q := fun a => ∃ M', a = M' ∧ Kp cG M M' ∧ CG u s M') (10) (fun i q => Kp cG M q ∧ ∀ r, r < i → rd q 1600 r = 0 ∧ rd q 1601 r = 0) ?_ ?_ FU 0 M ⟨Kp.rf, fun r h => absurd h (by omega)⟩ (Nat.zero_le _) (FU_ge (by omega))
  · intro n i M2 hi hI ih
    obtain ⟨hk, hI⟩ := hI
    try dsimp only at ih ⊢
    have q1 : ¬ (10 : Int32) ≤ nI i := nI_ge (b := 10) hi (by omega)
    have v1 : vp_in (nI i) 10 := (vp_iff (by omega)).mpr hi
    rw [P_0_renew_2, F_0_renew_2]
    simp only [q1, v1, nI_clamp (n := i) (by omega), if_true, if_false, true_imp_iff, false_imp_iff, not_true_eq_false, not_false_eq_true, true_and, and_true, implies_true, reduceIte]
    refine ih _ ⟨(hk.w (Or.inl rfl)).w (Or.inr rfl), fun r hr => ?_⟩
    by_cases e : r = i
    · subst e; exact ⟨by rw [rd_c (by decide), rd_s], rd_s _ _ _ _⟩
    · rw [rd_i e, rd_i e, rd_i e, rd_i e]
      exact hI r (by omega)
  · intro n M2 hI
    obtain ⟨hk, hI⟩ := hI
    try dsimp only
    rw [P_0_renew_2, F_0_renew_2]
    simp only [(by decide : (10 : Int32) ≤ nI 10), if_true, if_false, true_imp_iff, false_imp_iff, not_true_eq_false, not_false_eq_true, true_and, and_true, implies_true, reduceIte]
    exact second M2 hk hI
