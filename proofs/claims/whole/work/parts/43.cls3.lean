/-! MATHEMATICS 13: the longest string; the fewest cuts -/
theorem lgB_none {t : Nat → Nat} : ∀ {n}, lgB t n = none ↔ ∀ r, r < n → ¬ t r < 999 := by
  intro n
  induction n with
  | zero => exact ⟨fun _ r h => by omega, fun _ => rfl⟩
  | succ n ih =>
    rw [lgB]
    cases e : lgB t n with
    | none =>
      have := ih.mp e
      by_cases c : t n < 999
      · simp only [c, if_true]
        exact ⟨fun z => (by cases z), fun z => absurd c (z n (by omega))⟩
      · simp only [c, if_false]
        refine ⟨fun _ r hr => ?_, fun _ => trivial⟩
        by_cases e2 : r = n
        · subst e2; exact c
        · exact this r (by omega)
    | some p =>
      obtain ⟨m, r⟩ := p
      have b := lgB_lt e
      constructor
      · intro z
        exfalso
        try dsimp only at z
        split at z <;> cases z
      · intro z
        have := z r (by omega)
        omega
theorem lgB_some {t : Nat → Nat} : ∀ {n m r}, lgB t n = some (m, r) → (∀ q, q < n → t q < 999 → t q ≤ m) ∧ ∀ q, q < r → t q < 999 → t q < m := by
  intro n
  induction n with
  | zero => intro m r h; cases h
  | succ n ih =>
    intro m r h
    rw [lgB] at h
    cases e : lgB t n with
    | none =>
      have b := lgB_none.mp e
      rw [e] at h
      by_cases c : t n < 999
      · simp only [c, if_true] at h
        cases h
        refine ⟨fun q h1 h2 => ?_, fun q h1 h2 => absurd h2 (b q h1)⟩
        by_cases e2 : q = n
        · subst e2; exact Nat.le_refl _
        · exact absurd h2 (b q (by omega))
      · simp only [c, if_false] at h; cases h
    | some p =>
      obtain ⟨m1, r1⟩ := p
      have b := ih e
      have b2 := lgB_lt e
      rw [e] at h
      by_cases c : t n < 999 ∧ m1 < t n
      · simp only [c, and_self, if_true] at h
        cases h
        refine ⟨fun q h1 h2 => ?_, fun q h1 h2 => ?_⟩
        · by_cases e2 : q = n
          · subst e2; exact Nat.le_refl _
          · have := b.1 q (by omega) h2; omega
        · have := b.1 q h1 h2; omega
      · simp only [c, if_false] at h
        cases h
        refine ⟨fun q h1 h2 => ?_, b.2⟩
        by_cases e2 : q = n
        · subst e2; omega
        · exact b.1 q (by omega) h2
theorem lgB_is {t : Nat → Nat} {n m r : Nat} (hr : r < n) (h1 : t r = m) (hm : m < 999) (h2 : ∀ q, q < n → t q < 999 → t q ≤ m) (h3 : ∀ q, q < r → t q < 999 → t q < m) : lgB t n = some (m, r) := by
  cases e : lgB t n with
  | none => exact absurd (by omega) (lgB_none.mp e r hr)
  | some p =>
    obtain ⟨m1, r1⟩ := p
    have a := lgB_lt e
    have b := lgB_some e
    have x1 := b.1 r hr (by omega)
    have x2 := h2 r1 a.2.1 (by omega)
    have em : m1 = m := by omega
    subst em
    have er : r1 = r := by
      rcases Nat.lt_trichotomy r1 r with z | z | z
      · have := h3 r1 z (by omega); omega
      · exact z
      · have := b.2 r z (by omega); omega
    rw [er]
theorem c_unroll {u : MU} {s : SU} {f : Nat → Nat → Nat} {M : Mem} (hp : CP 1561 u M) (hg : CG u s M) (hf : FW u s f) : P_0_unrollFrom_0 (uX u) M ∧ ∃ M', F_0_unrollFrom_0 (uX u) M = M' ∧ Kp cM M M' ∧ rd M' 1599 8 = lgM (lgB (stT u f) (uN u)) ∧ rd M' 1599 9 = lgR (lgB (stT u f) (uN u)) := by
  have hu := hp.1
  have hn := hu.1
  let t := stT u f
  have tk : ∀ k r, k < 999 → r < 10 → (bt (rkF (nbA u s) (uX u) k) r = true ↔ t r ≤ k) := fun k r hk hr => stT_iff hu hf hr hk
  have prev : ∀ k r, k < 100 → r < uN u → t r = k + 1 → ∃ c, c < uN u ∧ t c = k ∧ ed u s c r := by
    intro k r hk hr ht
    have h1 := (tk (k + 1) r (by omega) (by omega)).mpr (by omega)
    rw [rkF, b_or, Bool.or_eq_true] at h1
    rcases h1 with h1 | h1
    · have := (tk k r (by omega) (by omega)).mp h1; omega
    · obtain ⟨c, h2, h3⟩ := (b_nbA hu).mp h1
      have hc := ed_lt hu h3
      have h4 := (tk k c (by omega) (by omega)).mp h2
      refine ⟨c, hc.1, ?_, h3⟩
      apply Classical.byContradiction
      intro hne
      have h5 := (tk (k - 1) c (by omega) (by omega)).mpr (by omega)
      have h6 : bt (rkF (nbA u s) (uX u) (k - 1 + 1)) r = true := by
        rw [rkF, b_or, Bool.or_eq_true]
        exact Or.inr ((b_nbA hu).mpr ⟨c, h5, h3⟩)
      have := (tk (k - 1 + 1) r (by omega) (by omega)).mp h6
      omega
  have empt : ∀ k, k < 100 → (∀ r, r < uN u → t r ≠ k) → ∀ j r, r < uN u → k ≤ t r → t r ≤ k + j → t r < 100 → False := by
    intro k hk he j
    induction j with
    | zero => intro r hr h1 h2 _; exact he r hr (by omega)
    | succ j ih =>
      intro r hr h1 h2 h3
      by_cases e : t r ≤ k + j
      · exact ih r hr h1 e h3
      · obtain ⟨c, hc, h4, _⟩ := prev (k + j) r (by omega) hr (by omega)
        exact ih c hc (by omega) (by omega) (by omega)
  have fin : ∀ k, k ≤ 11 → (∀ r, r < uN u → k ≤ t r → ¬ t r < 999) → ∀ M1, ((k = 0 ∧ rd M1 1599 8 = -1 ∧ rd M1 1599 9 = -1) ∨ (∃ r, 0 < k ∧ r < uN u ∧ t r = k - 1 ∧ (∀ q, q < r → t q ≠ k - 1) ∧ rd M1 1599 8 = nI (k - 1) ∧ rd M1 1599 9 = nI r)) → rd M1 1599 8 = lgM (lgB (stT u f) (uN u)) ∧ rd M1 1599 9 = lgR (lgB (stT u f) (uN u)) := by
    intro k hk hz M1 h
    rcases h with ⟨rfl, h1, h2⟩ | ⟨r, h0, h1, h2, h3, h4, h5⟩
    · rw [lgB_none.mpr (fun r hr => hz r hr (Nat.zero_le _))]
      exact ⟨h1, h2⟩
    · rw [lgB_is (m := k - 1) (r := r) h1 h2 (by omega) (fun q hq hl => ?_) (fun q hq hl => ?_)]
      · exact ⟨h4, h5⟩
      · apply Classical.byContradiction
        intro z
        have z2 : ¬ t q ≤ k - 1 := z
        exact hz q hq (by omega) hl
      · have x1 := h3 q hq
        have : t q ≤ k - 1 := Classical.byContradiction (fun z => hz q (by omega) (by omega) hl)
        show t q < k - 1
        omega
  rw [P_0_unrollFrom_0, F_0_unrollFrom_0]
  have k0 : Kp cM M (wr (wr M 1599 8 (-1)) 1599 9 (-1)) := (Kp.rf.w ⟨rfl, Or.inl rfl⟩).w ⟨rfl, Or.inr rfl⟩
  refine lq (S := Int32 × Int32 × Mem) (F := fun n i q => F_0_unrollFrom_17 n q.1 q.2.1 i q.2.2) (P := fun n i q => P_0_unrollFrom_17 n q.1 q.2.1 i q.2.2) (Q := fun z => ∃ M', z = M' ∧ Kp cM M M' ∧ rd M' 1599 8 = lgM (lgB (stT u f) (uN u)) ∧ rd M' 1599 9 = lgR (lgB (stT u f) (uN u))) (11) (fun k q => Kp cM M q.2.2 ∧ (∀ r, bt q.1 r = true ↔ r < uN u ∧ t r < k) ∧ (∀ r, bt q.2.1 r = true ↔ r < uN u ∧ t r = k) ∧ ((k = 0 ∧ rd q.2.2 1599 8 = -1 ∧ rd q.2.2 1599 9 = -1) ∨ (∃ r, 0 < k ∧ r < uN u ∧ t r = k - 1 ∧ (∀ q, q < r → t q ≠ k - 1) ∧ rd q.2.2 1599 8 = nI (k - 1) ∧ rd q.2.2 1599 9 = nI r))) ?_ ?_ FU 0 (0, uX u, wr (wr M 1599 8 (-1)) 1599 9 (-1)) ⟨k0, fun r => by rw [b_0]; simp, fun r => ?_, Or.inl ⟨rfl, by rw [rd_i (by decide), rd_s], rd_s _ _ _ _⟩⟩ (Nat.zero_le _) (FU_ge (by omega))
  · rintro n k ⟨x, y, M1⟩ hk ⟨hK, hx, hy, hm⟩ ih
    try dsimp only at hK hx hy hm ih ⊢
    have q : ¬ (10 : Int32) < nI k := fun z => by have := (nI_ltI (a := 10) (by omega) (by omega)).mp z; omega
    rw [P_0_unrollFrom_17, F_0_unrollFrom_17]
    by_cases c : y = 0
    · simp only [q, c, if_true, if_false, true_imp_iff, false_imp_iff, not_true_eq_false, not_false_eq_true, true_and, and_true, implies_true, reduceIte]
      refine ⟨M1, rfl, hK, ?_⟩
      refine fin k (by omega) (fun r hr h1 h2 => ?_) M1 hm
      have t10 := stT_ten hu hf (r := r) (by omega) h2
      refine empt k (by omega) (fun r hr e => ?_) 20 r hr h1 ?_ ?_
      · have := (hy r).mpr ⟨hr, e⟩
        rw [c, b_0] at this; cases this
      · show stT u f r ≤ k + 20; omega
      · show stT u f r < 100; omega
    · obtain ⟨r, hr32, hrb, hrl⟩ := b_least c
      have hr := (hy r).mp hrb
      have hlow : F_11_lowest_0 (wr M1 1599 8 (nI k)) y = nI r := lowest_eq _ (by omega) hrb hrl
      have hK2 : Kp cM M (wr (wr M1 1599 8 (nI k)) 1599 9 (nI r)) := (hK.w ⟨rfl, Or.inl rfl⟩).w ⟨rfl, Or.inr rfl⟩
      have hp1 := hp.k hK2 (fun a j z => by unfold cM at z; omega)
      have hg1 := hg.k hK2 (fun a j z => by unfold cM at z; omega)
      obtain ⟨a1, a2⟩ := c_joineda hp1 hg1 y
      simp only [q, c, P_0_oneAhead_0, F_0_oneAhead_0, hlow, a1, a2, if_true, if_false, true_imp_iff, false_imp_iff, not_true_eq_false, not_false_eq_true, true_and, and_true, implies_true, reduceIte]
      have r8 : rd (wr (wr M1 1599 8 (nI k)) 1599 9 (nI r)) 1599 8 = nI k := by rw [rd_i (by decide), rd_s]
      have r9 : rd (wr (wr M1 1599 8 (nI k)) 1599 9 (nI r)) 1599 9 = nI r := rd_s _ _ _ _
      refine ih (x ||| y, nbA u s y &&& ((x ||| y) ^^^ (-1)), wr (wr M1 1599 8 (nI k)) 1599 9 (nI r)) ⟨hK2, fun i => ?_, fun i => ?_, Or.inr ⟨r, by omega, hr.1, by rw [hr.2]; omega, fun j hj => ?_, r8, r9⟩⟩
      · rw [b_or, Bool.or_eq_true, hx, hy]
        omega
      · rw [b_and, Bool.and_eq_true]
        constructor
        · rintro ⟨h1, h2⟩
          obtain ⟨cc, h3, h4⟩ := (b_nbA hu).mp h1
          have hc := ed_lt hu h4
          have hcy := (hy cc).mp h3
          rw [b_not (by omega), Bool.not_eq_true', b_or] at h2
          have h5 := (tk k cc (by omega) (by omega)).mpr (by omega)
          have h6 : bt (rkF (nbA u s) (uX u) (k + 1)) i = true := by
            rw [rkF, b_or, Bool.or_eq_true]
            exact Or.inr ((b_nbA hu).mpr ⟨cc, h5, h4⟩)
          have h7 := (tk (k + 1) i (by omega) (by omega)).mp h6
          refine ⟨hc.2.1, ?_⟩
          apply Classical.byContradiction
          intro hne
          have h8 : t i < k ∨ t i = k := by omega
          rcases h8 with h8 | h8
          · rw [(hx i).mpr ⟨hc.2.1, h8⟩] at h2; cases h2
          · rw [(hy i).mpr ⟨hc.2.1, h8⟩, Bool.or_true] at h2; cases h2
        · rintro ⟨h1, h2⟩
          obtain ⟨cc, h3, h4, h5⟩ := prev k i (by omega) h1 h2
          refine ⟨(b_nbA hu).mpr ⟨cc, (hy cc).mpr ⟨h3, h4⟩, h5⟩, ?_⟩
          rw [b_not (by omega), Bool.not_eq_true', b_or]
          have e1 : bt x i = false := Bool.eq_false_iff.mpr (fun z => by have := (hx i).mp z; omega)
          have e2 : bt y i = false := Bool.eq_false_iff.mpr (fun z => by have := (hy i).mp z; omega)
          rw [e1, e2]; rfl
      · intro e
        have := (hy j).mpr ⟨by omega, by omega⟩
        rw [hrl j hj] at this; cases this
  · rintro n ⟨x, y, M1⟩ ⟨hK, hx, hy, hm⟩
    try dsimp only at hK hx hy hm ⊢
    rw [P_0_unrollFrom_17, F_0_unrollFrom_17]
    simp only [(by decide : (10 : Int32) < nI 11), if_true, if_false, true_imp_iff, false_imp_iff, not_true_eq_false, not_false_eq_true, true_and, and_true, implies_true, reduceIte]
    refine ⟨M1, rfl, hK, fin 11 (Nat.le_refl _) (fun r hr h1 h2 => ?_) M1 hm⟩
    have : t r ≤ 10 := stT_ten hu hf (r := r) (by omega) h2
    omega
  · dsimp only
    constructor
    · intro h
      have hr : r < uN u := Nat.lt_of_not_le (fun z => by rw [hu.2.2.2.1 r z] at h; cases h)
      have := (tk 0 r (by omega) (by omega)).mp h
      exact ⟨hr, by omega⟩
    · rintro ⟨hr, h⟩
      exact (tk 0 r (by omega) (by omega)).mpr (by omega)
