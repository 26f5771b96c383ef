/-! MATHEMATICS 19: which doors part -/
noncomputable def mfv (u : MU) (A : Nat → Bool) (a b : Nat) : Nat := Classical.epsilon (fun n => IsMF u A a b n)
theorem mfv_eq {u : MU} {A : Nat → Bool} {a b n : Nat} (h : IsMF u A a b n) : mfv u A a b = n := (Classical.epsilon_spec (p := fun n => IsMF u A a b n) ⟨n, h⟩).un h
/-- chosen so far: how many are left, which were taken -/
noncomputable def pdK (u : MU) (s : SU) (a b : Nat) : Nat → Nat × Int32
  | 0 => (mfv u (alw s 0) a b, 0)
  | d + 1 => if (pdK u s a b d).1 = 0 ∨ sB s d = true ∨ mfv u (alw s ((pdK u s a b d).2 ||| bi d)) a b = (pdK u s a b d).1 then pdK u s a b d else ((pdK u s a b d).1 - 1, (pdK u s a b d).2 ||| bi d)
theorem pdK_0 {u : MU} {s : SU} {a b d : Nat} (h : (pdK u s a b d).1 = 0) : ∀ k, pdK u s a b (d + k) = pdK u s a b d := by
  intro k
  induction k with
  | zero => rfl
  | succ k ih => rw [← Nat.add_assoc, pdK, ih, if_pos (Or.inl h)]
theorem pdK_le {u : MU} {s : SU} {a b : Nat} (h : mfv u (alw s 0) a b ≤ 24) : ∀ d, (pdK u s a b d).1 ≤ 24 := by
  intro d
  induction d with
  | zero => exact h
  | succ d ih =>
    rw [pdK]
    split
    · exact ih
    · show (pdK u s a b d).1 - 1 ≤ 24; omega
theorem r_parted {u : MU} {s : SU} {a b : Nat} {M : Mem} (w : Int32) (hq : RQ u s M) (ha : a < uN u) (hb : b < uN u) (hab : a ≠ b) : (P_12_flowsTo_0 (nI a) (nI b) 0 M ∧ P_12_parted_82 (nI a) (nI b) w ((F_12_flowsTo_0 (nI a) (nI b) 0 M).1) ((F_12_flowsTo_0 (nI a) (nI b) 0 M).2)) ∧ ∃ M', F_12_parted_82 (nI a) (nI b) w ((F_12_flowsTo_0 (nI a) (nI b) 0 M).1) ((F_12_flowsTo_0 (nI a) (nI b) 0 M).2) = (if w = 0 then nI (mfv u (alw s 0) a b) else (pdK u s a b (uM u)).2, M') ∧ Kp rF M M' ∧ (∃ n, n ≤ 24 ∧ IsMF u (alw s 0) a b n) := by
  have hu := hq.1.1
  have hn := hu.1
  have hm := hu.2.1
  obtain ⟨r1, nf, M1, r2, r3, r4, r5⟩ := r_flowsTo (R := 0) hq ha hb hab
  have e0 := mfv_eq r4
  rw [P_12_parted_82, F_12_parted_82, r2]
  suffices h : P_12_parted_94 FU (nI a) (nI b) w (nI nf) (nI nf) 0 0 M1 ∧ ∃ M', F_12_parted_94 FU (nI a) (nI b) w (nI nf) (nI nf) 0 0 M1 = (if w = 0 then nI (mfv u (alw s 0) a b) else (pdK u s a b (uM u)).2, M') ∧ Kp rF M M' by
    obtain ⟨h1, M', h2, h3⟩ := h
    exact ⟨⟨r1, h1⟩, M', h2, h3, nf, r3, r4⟩
  have lim := pdK_le (u := u) (s := s) (a := a) (b := b) (by rw [e0]; exact r3)
  refine lq (S := Int32 × Int32 × Mem) (F := fun n i q => F_12_parted_94 n (nI a) (nI b) w (nI nf) q.1 q.2.1 i q.2.2) (P := fun n i q => P_12_parted_94 n (nI a) (nI b) w (nI nf) q.1 q.2.1 i q.2.2) (Q := fun z => ∃ M', z = (if w = 0 then nI (mfv u (alw s 0) a b) else (pdK u s a b (uM u)).2, M') ∧ Kp rF M M') (uM u) (fun d q => Kp rF M q.2.2 ∧ q.1 = nI (pdK u s a b d).1 ∧ q.2.1 = (pdK u s a b d).2) ?_ ?_ FU 0 (nI nf, 0, M1) ⟨r5, by show nI nf = nI (mfv u (alw s 0) a b); rw [e0], rfl⟩ (Nat.zero_le _) (FU_ge (by omega))
  · rintro m d ⟨x5, x6, M2⟩ hd ⟨hK, h1, h2⟩ ih
    try dsimp only at hK h1 h2 ih ⊢
    have hq2 := hq.k hK
    have q1 : ¬ nI (uM u) ≤ nI d := nI_ge hd (by omega)
    have l := lim d
    have z1 : (nI (pdK u s a b d).1 ≤ 0) ↔ (pdK u s a b d).1 = 0 := z_le (by omega)
    obtain ⟨b1, b2⟩ := r_isBarred hd hu hq2.2
    rw [P_12_parted_94, F_12_parted_94, cl1, hq2.1.2.2.1, h1, h2]
    by_cases c0 : (pdK u s a b d).1 = 0
    · simp only [q1, z1.mpr c0, if_true, if_false, true_imp_iff, false_imp_iff, not_true_eq_false, not_false_eq_true, true_and, and_true, implies_true, reduceIte, F_12_parted_161]
      refine ⟨M2, ?_, hK⟩
      have := pdK_0 c0 (uM u - d)
      rw [show d + (uM u - d) = uM u by omega] at this
      rw [this, e0]
      by_cases cw : w = 0 <;> simp [cw]
    · simp only [q1, z1, c0, b1, b2, ib0, bi_of, if_true, if_false, true_imp_iff, false_imp_iff, not_true_eq_false, not_false_eq_true, true_and, and_true, implies_true, reduceIte]
      have hs : pdK u s a b (d + 1) = if (pdK u s a b d).1 = 0 ∨ sB s d = true ∨ mfv u (alw s ((pdK u s a b d).2 ||| bi d)) a b = (pdK u s a b d).1 then pdK u s a b d else ((pdK u s a b d).1 - 1, (pdK u s a b d).2 ||| bi d) := rfl
      cases cB : sB s d
      · obtain ⟨f1, k, M3, f2, f3, f4, f5⟩ := r_flowsTo (R := (pdK u s a b d).2 ||| bi d) hq2 ha hb hab
        have ek := mfv_eq f4
        have e1 : (nI k = nI (pdK u s a b d).1) ↔ k = (pdK u s a b d).1 := nI_eq (by omega) (by omega)
        simp only [f1, f2, e1, bi_of, if_true, if_false, true_imp_iff, false_imp_iff, not_true_eq_false, not_false_eq_true, true_and, and_true, implies_true, reduceIte, P_12_parted_135, P_12_parted_155, F_12_parted_135, F_12_parted_155]
        rw [ek, cB] at hs
        by_cases ck : k = (pdK u s a b d).1
        · rw [if_pos (Or.inr (Or.inr ck))] at hs
          have := ih (nI (pdK u s a b d).1, (pdK u s a b d).2, M3) ⟨hK.tr f5, by rw [hs], by rw [hs]⟩
          simpa [ck] using this
        · rw [if_neg (by simp [c0, ck])] at hs
          have em : nI (pdK u s a b d).1 + (-1) = nI ((pdK u s a b d).1 - 1) := by
            obtain ⟨t, ht⟩ : ∃ t, (pdK u s a b d).1 = t + 1 := ⟨(pdK u s a b d).1 - 1, by omega⟩
            rw [ht, pk_m1]; rfl
          have := ih (nI (pdK u s a b d).1 + (-1), (pdK u s a b d).2 ||| bi d, M3) ⟨hK.tr f5, by rw [hs, em], by rw [hs]⟩
          simpa [ck] using this
      · rw [if_pos (Or.inr (Or.inl cB))] at hs
        have := ih (nI (pdK u s a b d).1, (pdK u s a b d).2, M2) ⟨hK, by rw [hs], by rw [hs]⟩
        simpa [P_12_parted_155, F_12_parted_155] using this
  · rintro m ⟨x5, x6, M2⟩ ⟨hK, h1, h2⟩
    try dsimp only at hK h1 h2 ⊢
    have hq2 := hq.k hK
    have q1 : nI (uM u) ≤ nI (uM u) := nI_le (Nat.le_refl _) (by omega)
    rw [P_12_parted_94, F_12_parted_94, cl1, hq2.1.2.2.1]
    simp only [q1, if_true, if_false, true_imp_iff, false_imp_iff, not_true_eq_false, not_false_eq_true, true_and, and_true, implies_true, reduceIte, F_12_parted_161]
    refine ⟨M2, ?_, hK⟩
    rw [h2, e0]
    by_cases cw : w = 0 <;> simp [cw]
theorem c_doors {u : MU} {s : SU} {M : Mem} (hp : CP 1561 u M) (hr : CR 1622 u s M) (d : Nat) : bt (F_4_allDoors_0 M &&& (rd M 1622 2 ^^^ (-1))) d = (decide (d < uM u) && alw s 0 d) := by
  have hm := hp.1.2.1
  rw [F_4_allDoors_0, hp.2.2.1, bi_of, b_and]
  rcases Nat.lt_or_ge d 32 with h | h
  · rw [b_all _ (by omega) d h, b_not h, hr.2.2.2.1 d]
    unfold alw
    rw [b_0]
    cases decide (d < uM u) <;> cases sB s d <;> rfl
  · rw [b_big h, decide_eq_false (by omega)]; rfl
theorem MF_cg {u : MU} {A A' : Nat → Bool} {a b n : Nat} (h : IsMF u A a b n) (hA : ∀ d, d < uM u → A d = A' d) : IsMF u A' a b n := by
  obtain ⟨⟨g, h1, h2⟩, X, h3, h4, h5⟩ := h
  refine ⟨⟨g, fun d hd => ⟨(h1 d hd).1, by rw [← hA d (h1 d hd).1]; exact (h1 d hd).2⟩, h2⟩, X, h3, h4, ?_⟩
  rw [← h5]
  exact cnt_cg (fun d hd => by rw [hA d hd])
theorem c_fewestP {u : MU} {s : SU} {a b : Nat} {M : Mem} (hp : CP 1561 u M) (hr : CR 1622 u s M) (ha : a < uN u) (hb : b < uN u) (hab : a ≠ b) : P_3_fewest_0 (nI a) (nI b) M ∧ ∃ M', F_3_fewest_0 (nI a) (nI b) M = (nI (mfv u (alw s 0) a b), M') ∧ Kp cF M M' := by
  obtain ⟨r1, n, M1, r2, r3, r4, r5⟩ := c_waysApart hp (A := fun d => decide (d < uM u) && alw s 0 d) (ds := F_4_allDoors_0 M &&& (rd M 1622 2 ^^^ (-1))) (fun d => (c_doors hp hr d).symm) ha hb hab
  have e := mfv_eq (MF_cg r4 (A' := alw s 0) (fun d hd => by rw [decide_eq_true hd, Bool.true_and]))
  rw [P_3_fewest_0, F_3_fewest_0, r2, e]
  exact ⟨r1, M1, rfl, r5⟩
theorem c_firstDoors {u : MU} {s : SU} {a b : Nat} {M : Mem} (hp : CP 1561 u M) (hr : CR 1622 u s M) (ha : a < uN u) (hb : b < uN u) (hab : a ≠ b) : P_3_firstDoors_0 (nI a) (nI b) M ∧ ∃ M', F_3_firstDoors_0 (nI a) (nI b) M = ((pdK u s a b (uM u)).2, M') ∧ Kp cF M M' := by
  have hu := hp.1
  have hm := hu.2.1
  obtain ⟨r1, nf, M1, r2, r3, r4, r5⟩ := c_waysApart hp (A := fun d => decide (d < uM u) && alw s 0 d) (ds := F_4_allDoors_0 M &&& (rd M 1622 2 ^^^ (-1))) (fun d => (c_doors hp hr d).symm) ha hb hab
  have hds := c_doors hp hr
  have r4' := MF_cg r4 (A' := alw s 0) (fun d hd => by rw [decide_eq_true hd, Bool.true_and])
  have e0 := mfv_eq r4'
  rw [P_3_firstDoors_0, F_3_firstDoors_0, r2, P_3_firstDoors_25, F_3_firstDoors_25]
  generalize F_4_allDoors_0 M &&& (rd M 1622 2 ^^^ (-1)) = ds at r1 hds
  suffices h : P_3_firstDoors_33 FU (nI a) (nI b) ds (nI nf) 0 0 M1 ∧ ∃ M', F_3_firstDoors_33 FU (nI a) (nI b) ds (nI nf) 0 0 M1 = ((pdK u s a b (uM u)).2, M') ∧ Kp cF M M' from ⟨⟨r1, h.1⟩, h.2⟩
  have lim := pdK_le (u := u) (s := s) (a := a) (b := b) (by rw [e0]; exact r3)
  refine lq (S := Int32 × Int32 × Int32 × Mem) (F := fun n i q => F_3_firstDoors_33 n (nI a) (nI b) q.1 q.2.1 q.2.2.1 i q.2.2.2) (P := fun n i q => P_3_firstDoors_33 n (nI a) (nI b) q.1 q.2.1 q.2.2.1 i q.2.2.2) (Q := fun z => ∃ M', z = ((pdK u s a b (uM u)).2, M') ∧ Kp cF M M') (uM u) (fun d q => Kp cF M q.2.2.2 ∧ (∀ e, bt q.1 e = (decide (e < uM u) && alw s (pdK u s a b d).2 e)) ∧ q.2.1 = nI (pdK u s a b d).1 ∧ q.2.2.1 = (pdK u s a b d).2 ∧ (∃ m, m ≤ (pdK u s a b d).1 ∧ IsMF u (alw s (pdK u s a b d).2) a b m) ∧ ∀ e, d ≤ e → bt (pdK u s a b d).2 e = false) ?_ ?_ FU 0 (ds, nI nf, 0, M1) ⟨r5, hds, by show nI nf = nI (mfv u (alw s 0) a b); rw [e0], rfl, ⟨nf, by show nf ≤ mfv u (alw s 0) a b; omega, r4'⟩, fun e _ => b_0 e⟩ (Nat.zero_le _) (FU_ge (by omega))
  · rintro m d ⟨x3, x4, x5, M2⟩ hd ⟨hK, hx3, h1, h2, ⟨k0, hk0, hmf⟩, hbit⟩ ih
    try dsimp only at hK hx3 h1 h2 ih ⊢
    have hp2 := hp.k hK (fun a j z => by unfold cF at z; omega)
    have q1 : ¬ nI (uM u) ≤ nI d := nI_ge hd (by omega)
    have l := lim d
    have z1 : (nI (pdK u s a b d).1 ≤ 0) ↔ (pdK u s a b d).1 = 0 := z_le (by omega)
    have hwo : ∀ e, bt (x3 &&& (bi d ^^^ (-1))) e = (decide (e < uM u) && alw s ((pdK u s a b d).2 ||| bi d) e) := by
      intro e
      rw [b_and, hx3 e]
      rcases Nat.lt_or_ge e 32 with h | h
      · rw [b_not h, b_bi (by omega)]
        unfold alw
        rw [b_or, b_bi (by omega)]
        cases decide (e < uM u) <;> cases sB s e <;> cases bt (pdK u s a b d).2 e <;> cases decide (e = d) <;> rfl
      · rw [b_big h, decide_eq_false (by omega)]; rfl
    have hsame : (x3 &&& (bi d ^^^ (-1)) = x3) ↔ sB s d = true := by
      constructor
      · intro h
        have h3 := hwo d
        rw [h, hx3 d, decide_eq_true hd] at h3
        unfold alw at h3
        rw [b_or, b_bi (by omega), decide_eq_true rfl, hbit d (Nat.le_refl _)] at h3
        cases c : sB s d
        · rw [c] at h3; cases h3
        · rfl
      · intro h
        apply b_ext
        intro e he
        rw [b_and, b_not he, b_bi (by omega)]
        by_cases z : e = d
        · subst z
          rw [hx3 e]
          unfold alw
          rw [h]
          cases decide (e < uM u) <;> rfl
        · rw [decide_eq_false z]; simp
    rw [P_3_firstDoors_33, F_3_firstDoors_33, hp2.2.2.1, h1, h2]
    by_cases c0 : (pdK u s a b d).1 = 0
    · simp only [q1, z1.mpr c0, if_true, if_false, true_imp_iff, false_imp_iff, not_true_eq_false, not_false_eq_true, true_and, and_true, implies_true, reduceIte]
      refine ⟨M2, ?_, hK⟩
      have := pdK_0 c0 (uM u - d)
      rw [show d + (uM u - d) = uM u by omega] at this
      rw [this]
    · simp only [q1, z1, c0, bi_of, hsame, if_true, if_false, true_imp_iff, false_imp_iff, not_true_eq_false, not_false_eq_true, true_and, and_true, implies_true, reduceIte]
      have hs : pdK u s a b (d + 1) = if (pdK u s a b d).1 = 0 ∨ sB s d = true ∨ mfv u (alw s ((pdK u s a b d).2 ||| bi d)) a b = (pdK u s a b d).1 then pdK u s a b d else ((pdK u s a b d).1 - 1, (pdK u s a b d).2 ||| bi d) := rfl
      cases cB : sB s d
      · obtain ⟨f1, k, M3, f2, f3, f4, f5⟩ := c_waysApart hp2 (A := fun e => decide (e < uM u) && alw s ((pdK u s a b d).2 ||| bi d) e) (ds := x3 &&& (bi d ^^^ (-1))) (fun e => (hwo e).symm) ha hb hab
        have f4' := MF_cg f4 (A' := alw s ((pdK u s a b d).2 ||| bi d)) (fun e he => by rw [decide_eq_true he, Bool.true_and])
        have ek := mfv_eq f4'
        have hle : k ≤ k0 := f4'.mono hmf (fun e he => by
          unfold alw at he ⊢
          rw [b_or, Bool.and_eq_true, Bool.not_eq_true', Bool.not_eq_true', Bool.or_eq_false_iff] at he
          rw [he.1, he.2.1]; rfl)
        have e1 : (nI (pdK u s a b d).1 ≤ nI k) ↔ k = (pdK u s a b d).1 := by
          rw [nI_leI (by omega) (by omega)]; omega
        simp only [Bool.false_eq_true, f1, f2, e1, bi_of, if_true, if_false, true_imp_iff, false_imp_iff, not_true_eq_false, not_false_eq_true, true_and, and_true, implies_true, reduceIte, P_3_firstDoors_74, P_3_firstDoors_94, F_3_firstDoors_74, F_3_firstDoors_94]
        rw [ek, cB] at hs
        by_cases ck : k = (pdK u s a b d).1
        · rw [if_pos (Or.inr (Or.inr ck))] at hs
          have := ih (x3, nI (pdK u s a b d).1, (pdK u s a b d).2, M3) ⟨hK.tr f5, by rw [hs]; exact hx3, by rw [hs], by rw [hs], by rw [hs]; exact ⟨k0, hk0, hmf⟩, fun e he => by rw [hs]; exact hbit e (by omega)⟩
          simpa [ck] using this
        · rw [if_neg (by simp [c0, ck])] at hs
          have em : nI (pdK u s a b d).1 + (-1) = nI ((pdK u s a b d).1 - 1) := by
            obtain ⟨t, ht⟩ : ∃ t, (pdK u s a b d).1 = t + 1 := ⟨(pdK u s a b d).1 - 1, by omega⟩
            rw [ht, pk_m1]; rfl
          have := ih (x3 &&& (bi d ^^^ (-1)), nI (pdK u s a b d).1 + (-1), (pdK u s a b d).2 ||| bi d, M3) ⟨hK.tr f5, by rw [hs]; exact hwo, by rw [hs, em], by rw [hs], by rw [hs]; exact ⟨k, by show k ≤ (pdK u s a b d).1 - 1; omega, f4'⟩, fun e he => by
            rw [hs]
            show bt ((pdK u s a b d).2 ||| bi d) e = false
            rw [b_or, hbit e (by omega), b_bi (by omega), decide_eq_false (by omega)]; rfl⟩
          simpa [ck] using this
      · rw [if_pos (Or.inr (Or.inl cB))] at hs
        have := ih (x3, nI (pdK u s a b d).1, (pdK u s a b d).2, M2) ⟨hK, by rw [hs]; exact hx3, by rw [hs], by rw [hs], by rw [hs]; exact ⟨k0, hk0, hmf⟩, fun e he => by rw [hs]; exact hbit e (by omega)⟩
        simpa [P_3_firstDoors_94, F_3_firstDoors_94] using this
  · rintro m ⟨x3, x4, x5, M2⟩ ⟨hK, hx3, h1, h2, _, _⟩
    try dsimp only at hK hx3 h1 h2 ⊢
    have hp2 := hp.k hK (fun a j z => by unfold cF at z; omega)
    have q1 : nI (uM u) ≤ nI (uM u) := nI_le (Nat.le_refl _) (by omega)
    rw [P_3_firstDoors_33, F_3_firstDoors_33, hp2.2.2.1]
    simp only [q1, if_true, if_false, true_imp_iff, false_imp_iff, not_true_eq_false, not_false_eq_true, true_and, and_true, implies_true, reduceIte]
    exact ⟨M2, by rw [h2], hK⟩
