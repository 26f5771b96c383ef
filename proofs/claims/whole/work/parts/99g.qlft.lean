/-! MATHEMATICS 76: the questions that are left, both sides (printed by gen/q5.py) -/
theorem rngM {x : Int32} : (∃ v, (1 ≤ v ∧ v ≤ 40) ∧ x = nI v ∧ (∀ M, F_12_in_0 M (nI v) 1 40 = 1) ∧ (1 ≤ nI v ∧ nI v ≤ 40)) ∨ ((∀ M, F_12_in_0 M x 1 40 = 0) ∧ ¬ (1 ≤ x ∧ x ≤ 40)) := by
  by_cases h0 : (0 : Int32) ≤ x
  · obtain ⟨n, hn, rfl⟩ := nI_nn h0
    have e1 : ((1 : Int32) ≤ nI n) ↔ 1 ≤ n := nI_leI (a := 1) (by omega) hn
    have e2 : (nI n ≤ 40) ↔ n ≤ 40 := nI_leI (b := 40) hn (by omega)
    by_cases h1 : 1 ≤ n ∧ n ≤ 40
    · have h2 : 1 ≤ nI n ∧ nI n ≤ 40 := ⟨e1.mpr h1.1, e2.mpr h1.2⟩
      exact Or.inl ⟨n, h1, rfl, fun M => by rw [r_in, if_pos h2], h2⟩
    · have h2 : ¬ (1 ≤ nI n ∧ nI n ≤ 40) := fun z => h1 ⟨e1.mp z.1, e2.mp z.2⟩
      exact Or.inr ⟨fun M => by rw [r_in, if_neg h2], h2⟩
  · have h2 : ¬ (1 ≤ x ∧ x ≤ 40) := fun z => h0 (Int32.le_trans (by decide) z.1)
    exact Or.inr ⟨fun M => by rw [r_in, if_neg h2], h2⟩
theorem q_span (x1 x2 x3 x4 x5 x6 : Int32) {d : ID} {Mr Mc : Mem} (hr : RI d Mr) (hc : CI d Mc) : P_12_span_0 x1 x2 x3 x4 x5 x6 Mr ∧ P_11_span_0 x1 x2 x3 x4 x5 x6 Mc ∧ QC 1 2 Mr Mc (F_12_span_0 x1 x2 x3 x4 x5 x6 Mr) (F_11_span_0 x1 x2 x3 x4 x5 x6 Mc) := by
  obtain ⟨h0, z0, k0⟩ := hr.z
  have hUW := h0.1.1.1
  have hN := hUW.1
  have hM := hUW.2.1
  have hT := hUW.2.2.1
  have ec0 : rd Mc 1561 0 = nI (uN (dU d)) := hc.1.1.2.1
  have ec1 : rd Mc 1561 1 = nI (uM (dU d)) := hc.1.1.2.2.1
  have ec2 : rd Mc 1561 2 = nI (uT (dU d)) := hc.1.1.2.2.2.1
  rw [P_12_span_0, F_12_span_0, P_11_span_0, F_11_span_0]
  generalize wr Mr 0 0 0 = M0 at *
  obtain ⟨p1, e1⟩ := roomR h0 x3
  obtain ⟨p2, e2⟩ := roomR h0 x5
  rcases (rngN (x := x3) (N := uN (dU d)) (by omega)).symm with ⟨g1, c1⟩ | ⟨r1, hr1, rfl, g1, c1⟩
  · simp only [ec0, ec1, ec2, p1, e1, p2, e2, g1, c1, bdN z0 one_ne, F_12_span_78, F_12_span_73, F_12_span_68, F_12_span_33, F_12_span_28, F_12_span_23, P_12_span_78, P_12_span_73, P_12_span_68, P_12_span_33, P_12_span_28, P_12_span_23, if_true, if_false, true_imp_iff, false_imp_iff, not_true_eq_false, not_false_eq_true, true_and, and_true, false_and, and_false, and_self, implies_true, i1_0, i0_1, one_ne, reduceIte]
    exact QC.n h0 k0 hc
  rcases (rngN (x := x5) (N := uN (dU d)) (by omega)).symm with ⟨g2, c2⟩ | ⟨r2, hr2, rfl, g2, c2⟩
  · simp only [ec0, ec1, ec2, p1, e1, p2, e2, g1, c1, g2, c2, bdN z0 one_ne, F_12_span_78, F_12_span_73, F_12_span_68, F_12_span_33, F_12_span_28, F_12_span_23, P_12_span_78, P_12_span_73, P_12_span_68, P_12_span_33, P_12_span_28, P_12_span_23, if_true, if_false, true_imp_iff, false_imp_iff, not_true_eq_false, not_false_eq_true, true_and, and_true, false_and, and_false, and_self, implies_true, i1_0, i0_1, one_ne, reduceIte]
    exact QC.n h0 k0 hc
  rcases (rngM (x := x2)).symm with ⟨g3, c3⟩ | ⟨r3, hr3, rfl, g3, c3⟩
  · have ne3 : ¬ (2 : Int32) = 0 := by decide
    simp only [ec0, ec1, ec2, p1, e1, p2, e2, g1, c1, g2, c2, g3, c3, bdE z0 ne3, r_bad0 z0, F_12_span_78, F_12_span_73, F_12_span_68, F_12_span_33, F_12_span_28, F_12_span_23, P_12_span_78, P_12_span_73, P_12_span_68, P_12_span_33, P_12_span_28, P_12_span_23, if_true, if_false, true_imp_iff, false_imp_iff, not_true_eq_false, not_false_eq_true, true_and, and_true, false_and, and_false, and_self, implies_true, i1_0, i0_1, one_ne, reduceIte]
    exact QC.e ne3 h0 k0 hc
  rcases (rngB (x := x4) (B := 96) (by omega)).symm with ⟨g4, c4⟩ | ⟨r4, hr4, rfl, g4, c4⟩
  · have g4' : ∀ M, F_12_in_0 M x4 0 96 = 0 := g4
    have c4' : ¬ (0 ≤ x4 ∧ x4 ≤ 96) := c4
    have ne4 : ¬ (2 : Int32) = 0 := by decide
    simp only [ec0, ec1, ec2, p1, e1, p2, e2, g1, c1, g2, c2, g3, c3, g4', c4', bdE z0 ne4, r_bad0 z0, F_12_span_78, F_12_span_73, F_12_span_68, F_12_span_33, F_12_span_28, F_12_span_23, P_12_span_78, P_12_span_73, P_12_span_68, P_12_span_33, P_12_span_28, P_12_span_23, if_true, if_false, true_imp_iff, false_imp_iff, not_true_eq_false, not_false_eq_true, true_and, and_true, false_and, and_false, and_self, implies_true, i1_0, i0_1, one_ne, reduceIte]
    exact QC.e ne4 h0 k0 hc
  have g4' : ∀ M, F_12_in_0 M (nI r4) 0 96 = 1 := g4
  have c4' : 0 ≤ nI r4 ∧ nI r4 ≤ 96 := c4
  rcases (rngB (x := x6) (B := 1) (by omega)).symm with ⟨g5, c5⟩ | ⟨r5, hr5, rfl, g5, c5⟩
  · have g5' : ∀ M, F_12_in_0 M x6 0 1 = 0 := g5
    have c5' : ¬ (0 ≤ x6 ∧ x6 ≤ 1) := c5
    have ne5 : ¬ (2 : Int32) = 0 := by decide
    simp only [ec0, ec1, ec2, p1, e1, p2, e2, g1, c1, g2, c2, g3, c3, g4', c4', g5', c5', bdE z0 ne5, r_bad0 z0, F_12_span_78, F_12_span_73, F_12_span_68, F_12_span_33, F_12_span_28, F_12_span_23, P_12_span_78, P_12_span_73, P_12_span_68, P_12_span_33, P_12_span_28, P_12_span_23, if_true, if_false, true_imp_iff, false_imp_iff, not_true_eq_false, not_false_eq_true, true_and, and_true, false_and, and_false, and_self, implies_true, i1_0, i0_1, one_ne, reduceIte]
    exact QC.e ne5 h0 k0 hc
  have g5' : ∀ M, F_12_in_0 M (nI r5) 0 1 = 1 := g5
  have c5' : 0 ≤ nI r5 ∧ nI r5 ≤ 1 := c5
  obtain ⟨t1, M1, t2, t3⟩ := r_span h0.1 x1 (nI r5) hr1 hr2 (m := r4) (t := r3) (by omega) (by omega)
  obtain ⟨w1, M2, w2, w3, w4⟩ := c_lieDown (u := dU d) (s := dS d) (L := dL d) (M := Mc)
  have C2 := hc.q (cz_q w3)
  obtain ⟨s1, M3, s2, s3⟩ := c_span C2.1 w4 x1 (nI r5) hr1 hr2 (m := r4) (t := r3) (by omega) (by omega)
  simp only [ec0, ec1, ec2, p1, e1, p2, e2, g1, c1, g2, c2, g3, c3, g4', c4', g5', c5', r_bad0 z0, t1, t2, w1, w2, s1, s2, bi_of, F_12_span_78, F_12_span_73, F_12_span_68, F_12_span_33, F_12_span_28, F_12_span_23, P_12_span_78, P_12_span_73, P_12_span_68, P_12_span_33, P_12_span_28, P_12_span_23, if_true, if_false, true_imp_iff, false_imp_iff, not_true_eq_false, not_false_eq_true, true_and, and_true, false_and, and_false, and_self, implies_true, i1_0, i0_1, one_ne, reduceIte]
  exact QC.ok h0 z0 k0 (rb_q t3) (t3.g (by unfold rB; omega)) hc ((cz_q w3).tr (cz_q s3))
theorem q_tour (x1 : Int32) {d : ID} {Mr Mc : Mem} (hr : RI d Mr) (hc : CI d Mc) : P_12_tour_0 x1 Mr ∧ P_11_tour_0 x1 Mc ∧ QC 1 0 Mr Mc (F_12_tour_0 x1 Mr) (F_11_tour_0 x1 Mc) := by
  obtain ⟨h0, z0, k0⟩ := hr.z
  have hUW := h0.1.1.1
  have hT := hUW.2.2.1
  have ec2 : rd Mc 1561 2 = nI (uT (dU d)) := hc.1.1.2.2.2.1
  rw [P_12_tour_0, F_12_tour_0, P_11_tour_0, F_11_tour_0]
  generalize wr Mr 0 0 0 = M0 at *
  have er : rd M0 4 2 = nI (uT (dU d)) := h0.1.1.2.2.2.1
  rcases (rngN (x := x1) (N := uT (dU d)) (by omega)).symm with ⟨g1, c1⟩ | ⟨r1, hr1, rfl, g1, c1⟩
  · by_cases n0 : x1 < 0
    · simp only [cl2, er, ec2, g1, n0, bdN z0 one_ne, F_11_tour_15, F_12_tour_32, F_12_tour_27, P_12_tour_32, P_12_tour_27, if_true, if_false, true_imp_iff, false_imp_iff, not_true_eq_false, not_false_eq_true, true_and, and_true, false_and, and_false, and_self, implies_true, i1_0, i0_1, one_ne, reduceIte]
      exact QC.n h0 k0 hc
    · have n1 : ¬ x1 < nI (uT (dU d)) := fun y => c1 ⟨Int32.not_lt.mp n0, y⟩
      simp only [cl2, er, ec2, g1, n0, n1, bdN z0 one_ne, F_11_tour_15, F_12_tour_32, F_12_tour_27, P_12_tour_32, P_12_tour_27, if_true, if_false, true_imp_iff, false_imp_iff, not_true_eq_false, not_false_eq_true, true_and, and_true, false_and, and_false, and_self, implies_true, i1_0, i0_1, one_ne, reduceIte]
      exact QC.n h0 k0 hc
  have n0 : ¬ nI r1 < 0 := nI_pos (by omega)
  have n1 := c1.2
  have v1 : vp_in (nI r1) 56 := (vp_iff (by omega)).mpr (by omega)
  have v2 : vp_in (nI r1) 6 := (vp_iff (by omega)).mpr (by omega)
  have z : (0 : Int32) + nI r1 = nI r1 := Int32.zero_add _
  have a1 : rd M0 20 r1 = nI (sP (dS d) r1) := h0.1.2.1.2.1 r1 hr1
  have b1 : rd Mc 1624 r1 = nI (sP (dS d) r1) := hc.1.2.1.2.2.2.2.2.2 r1 hr1
  simp only [cl2, er, ec2, g1, n0, n1, r_bad0 z0, z, v1, v2, nI_clamp (n := r1) (by omega), a1, b1, F_12_tour_32, F_12_tour_27, P_12_tour_32, P_12_tour_27, if_true, if_false, true_imp_iff, false_imp_iff, not_true_eq_false, not_false_eq_true, true_and, and_true, false_and, and_false, and_self, implies_true, i1_0, i0_1, one_ne, reduceIte]
  exact QC.ok h0 z0 k0 Kp.rf rfl hc Kp.rf
/-! the best of a row -/
def bst (f : Nat → Int32) : Nat → Int32 × Int32
  | 0 => (-1, 0)
  | k + 1 => if (bst f k).2 < f k then (nI k, f k) else bst f k
def bsA (w : Int32) (z : Int32 × Int32) : Int32 := if w = 0 then z.1 else if z.1 = -1 then z.1 else z.2
theorem bst_s {f : Nat → Int32} {k : Nat} (h : (bst f k).2 < f k) : bst f (k + 1) = (nI k, f k) := by rw [bst, if_pos h]
theorem bst_n {f : Nat → Int32} {k : Nat} (h : ¬ (bst f k).2 < f k) : bst f (k + 1) = bst f k := by rw [bst, if_neg h]
theorem r_crowd {u : MU} {s : SU} {M : Mem} (hp : RP u M) (hr : RR u s (rd M 20)) (w : Int32) : P_12_crowded_37 FU w (-1) 0 0 M ∧ F_12_crowded_37 FU w (-1) 0 0 M = (bsA w (bst (fun r => nI (trs u s r)) (uN u)), M) := by
  have hN := hp.1.1
  have e0 : rd M 4 0 = nI (uN u) := hp.2.1
  refine lq (S := Int32 × Int32) (F := fun n i q => F_12_crowded_37 n w q.1 q.2 i M) (P := fun n i q => P_12_crowded_37 n w q.1 q.2 i M) (Q := fun a => a = (bsA w (bst (fun r => nI (trs u s r)) (uN u)), M)) (uN u) (fun i q => q = bst (fun r => nI (trs u s r)) i) ?_ ?_ FU 0 (-1, 0) rfl (Nat.zero_le _) (FU_ge (by omega))
  · intro n i q hi hI ih
    try dsimp only at hI ih ⊢
    have q1 : ¬ nI (uN u) ≤ nI i := nI_ge hi (by omega)
    obtain ⟨t1, t2⟩ := r_toursIn hp hr hi
    rw [P_12_crowded_37, F_12_crowded_37]
    simp only [cl0, e0, q1, t1, t2, P_12_crowded_71, F_12_crowded_71, if_true, if_false, true_imp_iff, false_imp_iff, not_true_eq_false, not_false_eq_true, true_and, and_true, implies_true, reduceIte]
    by_cases c : q.2 < nI (trs u s i)
    · have := ih (nI i, nI (trs u s i)) (by rw [bst_s (by rw [← hI]; exact c)])
      simpa only [c, if_true, if_false, true_imp_iff, false_imp_iff, not_true_eq_false, not_false_eq_true, true_and, and_true, implies_true, reduceIte] using this
    · have := ih q (by rw [bst_n (by rw [← hI]; exact c)]; exact hI)
      simpa only [c, if_true, if_false, true_imp_iff, false_imp_iff, not_true_eq_false, not_false_eq_true, true_and, and_true, implies_true, reduceIte] using this
  · intro n q hI
    try dsimp only at hI ⊢
    have q1 : nI (uN u) ≤ nI (uN u) := nI_le (Nat.le_refl _) (by omega)
    rw [P_12_crowded_37, F_12_crowded_37]
    simp only [cl0, e0, q1, F_12_crowded_86, if_true, if_false, true_imp_iff, false_imp_iff, not_true_eq_false, not_false_eq_true, true_and, and_true, implies_true, reduceIte]
    rw [← hI]
    unfold bsA
    by_cases c : w = 0
    · rw [if_pos c, if_pos c]
    · rw [if_neg c, if_neg c]; split <;> rfl
theorem c_crowd {u : MU} {s : SU} {M : Mem} (hp : CP 1561 u M) (hr : CR 1622 u s M) (w : Int32) : P_11_crowded_14 FU w (-1) 0 0 M ∧ F_11_crowded_14 FU w (-1) 0 0 M = .inl (some (.int (bsA w (bst (fun r => nI (trs u s r)) (uN u)))), M) := by
  have hN := hp.1.1
  have e0 : rd M 1561 0 = nI (uN u) := hp.2.1
  have e2 : rd M 1561 2 = nI (uT u) := hp.2.2.2.1
  refine lq (S := Int32 × Int32) (F := fun n i q => F_11_crowded_14 n w q.1 q.2 i M) (P := fun n i q => P_11_crowded_14 n w q.1 q.2 i M) (Q := fun a => a = .inl (some (.int (bsA w (bst (fun r => nI (trs u s r)) (uN u)))), M)) (uN u) (fun i q => q = bst (fun r => nI (trs u s r)) i) ?_ ?_ FU 0 (-1, 0) rfl (Nat.zero_le _) (FU_ge (by omega))
  · intro n i q hi hI ih
    try dsimp only at hI ih ⊢
    have q1 : ¬ nI (uN u) ≤ nI i := nI_ge hi (by omega)
    obtain ⟨t1, t2⟩ := c_toursIn hp hr (r := i) (by omega)
    have el : (nI (trs u s i) ≤ q.2) ↔ ¬ q.2 < nI (trs u s i) := Int32.not_lt.symm
    rw [P_11_crowded_14, F_11_crowded_14]
    simp only [e0, e2, q1, t1, t2, el, P_11_crowded_56, F_11_crowded_56, if_true, if_false, true_imp_iff, false_imp_iff, not_true_eq_false, not_false_eq_true, true_and, and_true, implies_true, reduceIte]
    by_cases c : q.2 < nI (trs u s i)
    · have := ih (nI i, nI (trs u s i)) (by rw [bst_s (by rw [← hI]; exact c)])
      simpa only [c, if_true, if_false, true_imp_iff, false_imp_iff, not_true_eq_false, not_false_eq_true, true_and, and_true, implies_true, reduceIte] using this
    · have := ih q (by rw [bst_n (by rw [← hI]; exact c)]; exact hI)
      simpa only [c, if_true, if_false, true_imp_iff, false_imp_iff, not_true_eq_false, not_false_eq_true, true_and, and_true, implies_true, reduceIte] using this
  · intro n q hI
    try dsimp only at hI ⊢
    have q1 : nI (uN u) ≤ nI (uN u) := nI_le (Nat.le_refl _) (by omega)
    rw [P_11_crowded_14, F_11_crowded_14]
    simp only [e0, q1, if_true, if_false, true_imp_iff, false_imp_iff, not_true_eq_false, not_false_eq_true, true_and, and_true, implies_true, reduceIte]
    rw [← hI]
    unfold bsA
    by_cases c1 : q.1 = -1
    · rw [if_pos c1, if_pos c1, c1]; split <;> rfl
    · rw [if_neg c1, if_neg c1]; split <;> rfl
theorem r_worn {u : MU} {s : SU} {M : Mem} (hp : RP u M) (hr : RR u s (rd M 20)) (w : Int32) : P_12_worn_37 FU w (-1) 0 0 M ∧ F_12_worn_37 FU w (-1) 0 0 M = (bsA w (bst (sU s) (uM u)), M) := by
  have hN := hp.1.2.1
  have e0 : rd M 4 1 = nI (uM u) := hp.2.2.1
  refine lq (S := Int32 × Int32) (F := fun n i q => F_12_worn_37 n w q.1 q.2 i M) (P := fun n i q => P_12_worn_37 n w q.1 q.2 i M) (Q := fun a => a = (bsA w (bst (sU s) (uM u)), M)) (uM u) (fun i q => q = bst (sU s) i) ?_ ?_ FU 0 (-1, 0) rfl (Nat.zero_le _) (FU_ge (by omega))
  · intro n i q hi hI ih
    try dsimp only at hI ih ⊢
    have q1 : ¬ nI (uM u) ≤ nI i := nI_ge hi (by omega)
    have t2 := hr.2.2.2.1 i hi
    have e30 : (30 : Int32) + nI i = nI (30 + i) := l_add 30 i
    have v : vp_in (nI (30 + i)) 56 := (vp_iff (by omega)).mpr (by omega)
    rw [P_12_worn_37, F_12_worn_37]
    simp only [cl1, e0, q1, e30, v, nI_clamp (n := 30 + i) (by omega), t2, P_12_worn_79, F_12_worn_79, if_true, if_false, true_imp_iff, false_imp_iff, not_true_eq_false, not_false_eq_true, true_and, and_true, implies_true, reduceIte]
    by_cases c : q.2 < sU s i
    · have := ih (nI i, sU s i) (by rw [bst_s (by rw [← hI]; exact c)])
      simpa only [c, if_true, if_false, true_imp_iff, false_imp_iff, not_true_eq_false, not_false_eq_true, true_and, and_true, implies_true, reduceIte] using this
    · have := ih q (by rw [bst_n (by rw [← hI]; exact c)]; exact hI)
      simpa only [c, if_true, if_false, true_imp_iff, false_imp_iff, not_true_eq_false, not_false_eq_true, true_and, and_true, implies_true, reduceIte] using this
  · intro n q hI
    try dsimp only at hI ⊢
    have q1 : nI (uM u) ≤ nI (uM u) := nI_le (Nat.le_refl _) (by omega)
    rw [P_12_worn_37, F_12_worn_37]
    simp only [cl1, e0, q1, F_12_worn_94, if_true, if_false, true_imp_iff, false_imp_iff, not_true_eq_false, not_false_eq_true, true_and, and_true, implies_true, reduceIte]
    rw [← hI]
    unfold bsA
    by_cases c : w = 0
    · rw [if_pos c, if_pos c]
    · rw [if_neg c, if_neg c]; split <;> rfl
theorem c_worn {u : MU} {s : SU} {M : Mem} (hp : CP 1561 u M) (hr : CR 1622 u s M) (w : Int32) : P_11_worn_14 FU w (-1) 0 0 M ∧ F_11_worn_14 FU w (-1) 0 0 M = .inl (some (.int (bsA w (bst (sU s) (uM u)))), M) := by
  have hN := hp.1.2.1
  have e0 : rd M 1561 1 = nI (uM u) := hp.2.2.1
  refine lq (S := Int32 × Int32) (F := fun n i q => F_11_worn_14 n w q.1 q.2 i M) (P := fun n i q => P_11_worn_14 n w q.1 q.2 i M) (Q := fun a => a = .inl (some (.int (bsA w (bst (sU s) (uM u)))), M)) (uM u) (fun i q => q = bst (sU s) i) ?_ ?_ FU 0 (-1, 0) rfl (Nat.zero_le _) (FU_ge (by omega))
  · intro n i q hi hI ih
    try dsimp only at hI ih ⊢
    have q1 : ¬ nI (uM u) ≤ nI i := nI_ge hi (by omega)
    have t2 : rd M 1623 i = sU s i := hr.2.2.2.2.1 i hi
    have v : vp_in (nI i) 24 := (vp_iff (by omega)).mpr (by omega)
    have el : (sU s i ≤ q.2) ↔ ¬ q.2 < sU s i := Int32.not_lt.symm
    rw [P_11_worn_14, F_11_worn_14]
    simp only [e0, q1, v, nI_clamp (n := i) (by omega), t2, el, P_11_worn_54, F_11_worn_54, if_true, if_false, true_imp_iff, false_imp_iff, not_true_eq_false, not_false_eq_true, true_and, and_true, implies_true, reduceIte]
    by_cases c : q.2 < sU s i
    · have := ih (nI i, sU s i) (by rw [bst_s (by rw [← hI]; exact c)])
      simpa only [c, if_true, if_false, true_imp_iff, false_imp_iff, not_true_eq_false, not_false_eq_true, true_and, and_true, implies_true, reduceIte] using this
    · have := ih q (by rw [bst_n (by rw [← hI]; exact c)]; exact hI)
      simpa only [c, if_true, if_false, true_imp_iff, false_imp_iff, not_true_eq_false, not_false_eq_true, true_and, and_true, implies_true, reduceIte] using this
  · intro n q hI
    try dsimp only at hI ⊢
    have q1 : nI (uM u) ≤ nI (uM u) := nI_le (Nat.le_refl _) (by omega)
    rw [P_11_worn_14, F_11_worn_14]
    simp only [e0, q1, if_true, if_false, true_imp_iff, false_imp_iff, not_true_eq_false, not_false_eq_true, true_and, and_true, implies_true, reduceIte]
    rw [← hI]
    unfold bsA
    by_cases c1 : q.1 = -1
    · rw [if_pos c1, if_pos c1, c1]; split <;> rfl
    · rw [if_neg c1, if_neg c1]; split <;> rfl
theorem q_crowded (x1 : Int32) {d : ID} {Mr Mc : Mem} (hr : RI d Mr) (hc : CI d Mc) : P_12_crowded_0 x1 Mr ∧ P_11_crowded_0 x1 Mc ∧ QC 0 1 Mr Mc (F_12_crowded_0 x1 Mr) (F_11_crowded_0 x1 Mc) := by
  obtain ⟨h0, z0, k0⟩ := hr.z
  have hUW := h0.1.1.1
  have hN := hUW.1
  have hM := hUW.2.1
  have hT := hUW.2.2.1
  have ec0 : rd Mc 1561 0 = nI (uN (dU d)) := hc.1.1.2.1
  have ec1 : rd Mc 1561 1 = nI (uM (dU d)) := hc.1.1.2.2.1
  have ec2 : rd Mc 1561 2 = nI (uT (dU d)) := hc.1.1.2.2.2.1
  rw [P_12_crowded_0, F_12_crowded_0, P_11_crowded_0, F_11_crowded_0]
  generalize wr Mr 0 0 0 = M0 at *
  rcases (rngB (x := x1) (B := 1) (by omega)).symm with ⟨g1, c1⟩ | ⟨r1, hr1, rfl, g1, c1⟩
  · have g1' : ∀ M, F_12_in_0 M x1 0 1 = 0 := g1
    have c1' : ¬ (0 ≤ x1 ∧ x1 ≤ 1) := c1
    have ne1 : ¬ (1 : Int32) = 0 := by decide
    simp only [ec0, ec1, ec2, g1', c1', bdE z0 ne1, r_bad0 z0, F_12_crowded_86, F_12_crowded_25, F_12_crowded_20, P_12_crowded_25, P_12_crowded_20, if_true, if_false, true_imp_iff, false_imp_iff, not_true_eq_false, not_false_eq_true, true_and, and_true, false_and, and_false, and_self, implies_true, i1_0, i0_1, one_ne, reduceIte]
    exact QC.e ne1 h0 k0 hc
  have g1' : ∀ M, F_12_in_0 M (nI r1) 0 1 = 1 := g1
  have c1' : 0 ≤ nI r1 ∧ nI r1 ≤ 1 := c1
  obtain ⟨t1, t2⟩ := r_crowd h0.1.1 h0.1.2.1 (nI r1)
  obtain ⟨w1, w2⟩ := c_crowd hc.1.1 hc.1.2.1 (nI r1)
  simp only [ec0, ec1, ec2, g1', c1', r_bad0 z0, t1, t2, w1, w2, bi_of, F_12_crowded_86, F_12_crowded_25, F_12_crowded_20, P_12_crowded_25, P_12_crowded_20, if_true, if_false, true_imp_iff, false_imp_iff, not_true_eq_false, not_false_eq_true, true_and, and_true, false_and, and_false, and_self, implies_true, i1_0, i0_1, one_ne, reduceIte]
  exact QC.ok h0 z0 k0 Kp.rf rfl hc Kp.rf
theorem q_worn (x1 : Int32) {d : ID} {Mr Mc : Mem} (hr : RI d Mr) (hc : CI d Mc) : P_12_worn_0 x1 Mr ∧ P_11_worn_0 x1 Mc ∧ QC 0 1 Mr Mc (F_12_worn_0 x1 Mr) (F_11_worn_0 x1 Mc) := by
  obtain ⟨h0, z0, k0⟩ := hr.z
  have hUW := h0.1.1.1
  have hN := hUW.1
  have hM := hUW.2.1
  have hT := hUW.2.2.1
  have ec0 : rd Mc 1561 0 = nI (uN (dU d)) := hc.1.1.2.1
  have ec1 : rd Mc 1561 1 = nI (uM (dU d)) := hc.1.1.2.2.1
  have ec2 : rd Mc 1561 2 = nI (uT (dU d)) := hc.1.1.2.2.2.1
  rw [P_12_worn_0, F_12_worn_0, P_11_worn_0, F_11_worn_0]
  generalize wr Mr 0 0 0 = M0 at *
  rcases (rngB (x := x1) (B := 1) (by omega)).symm with ⟨g1, c1⟩ | ⟨r1, hr1, rfl, g1, c1⟩
  · have g1' : ∀ M, F_12_in_0 M x1 0 1 = 0 := g1
    have c1' : ¬ (0 ≤ x1 ∧ x1 ≤ 1) := c1
    have ne1 : ¬ (1 : Int32) = 0 := by decide
    simp only [ec0, ec1, ec2, g1', c1', bdE z0 ne1, r_bad0 z0, F_12_worn_94, F_12_worn_25, F_12_worn_20, P_12_worn_25, P_12_worn_20, if_true, if_false, true_imp_iff, false_imp_iff, not_true_eq_false, not_false_eq_true, true_and, and_true, false_and, and_false, and_self, implies_true, i1_0, i0_1, one_ne, reduceIte]
    exact QC.e ne1 h0 k0 hc
  have g1' : ∀ M, F_12_in_0 M (nI r1) 0 1 = 1 := g1
  have c1' : 0 ≤ nI r1 ∧ nI r1 ≤ 1 := c1
  obtain ⟨t1, t2⟩ := r_worn h0.1.1 h0.1.2.1 (nI r1)
  obtain ⟨w1, w2⟩ := c_worn hc.1.1 hc.1.2.1 (nI r1)
  simp only [ec0, ec1, ec2, g1', c1', r_bad0 z0, t1, t2, w1, w2, bi_of, F_12_worn_94, F_12_worn_25, F_12_worn_20, P_12_worn_25, P_12_worn_20, if_true, if_false, true_imp_iff, false_imp_iff, not_true_eq_false, not_false_eq_true, true_and, and_true, false_and, and_false, and_self, implies_true, i1_0, i0_1, one_ne, reduceIte]
  exact QC.ok h0 z0 k0 Kp.rf rfl hc Kp.rf
/-! rooms that are closed at an hour -/
def clf (u : MU) (s : SU) (L : List Int32) (e h r : Nat) : Int32 := if dOf u s L e r h = 0 then bi r else 0
theorem r_closed {u : MU} {s : SU} {L : List Int32} {M : Mem} (hv : RV u s L M) {e x : Nat} (he : e < 2) (hx : x < 24) : P_12_closed_45 FU (nI x) (nI e) 0 0 M ∧ ∃ M', F_12_closed_45 FU (nI x) (nI e) 0 0 M = (orD (clf u s L e (sH s / 24 * 24 + x)) (uN u), M') ∧ Kp rO M M' := by
  have hN := hv.1.1.1
  have hH := hv.2.1.1.1
  refine lq (S := Int32 × Mem) (F := fun n i q => F_12_closed_45 n (nI x) (nI e) q.1 i q.2) (P := fun n i q => P_12_closed_45 n (nI x) (nI e) q.1 i q.2) (Q := fun a => ∃ M', a = (orD (clf u s L e (sH s / 24 * 24 + x)) (uN u), M') ∧ Kp rO M M') (uN u) (fun i q => q.1 = orD (clf u s L e (sH s / 24 * 24 + x)) i ∧ Kp rO M q.2) ?_ ?_ FU 0 (0, M) ⟨rfl, Kp.rf⟩ (Nat.zero_le _) (FU_ge (by omega))
  · rintro n i ⟨q, M1⟩ hi ⟨hI, hK⟩ ih
    try dsimp only at hI hK ih ⊢
    have V1 := hv.o hK
    have e0 : rd M1 4 0 = nI (uN u) := V1.1.2.1
    have e5 : rd M1 20 55 = nI (sH s) := V1.2.1.2.2.2.2.2
    have q1 : ¬ nI (uN u) ≤ nI i := nI_ge hi (by omega)
    have eh : nI (sH s) / 24 * 24 + nI x = nI (sH s / 24 * 24 + x) := by
      rw [show (24 : Int32) = nI 24 from rfl, pk_div (by omega) (by omega) (by omega), pk_mul, nI_add]
    obtain ⟨t1, M2, t2, t3⟩ := r_doorsOf V1 (r := i) (e := e) (h := sH s / 24 * 24 + x) hi he (by omega)
    have en : (nI (dOf u s L e i (sH s / 24 * 24 + x)) = 0) ↔ dOf u s L e i (sH s / 24 * 24 + x) = 0 := by
      have hle : dOf u s L e i (sH s / 24 * 24 + x) ≤ uM u := cnt_le _ _
      have hm := hv.1.1.2.1
      exact nI_eq (b := 0) (by omega) (by omega)
    rw [P_12_closed_45, F_12_closed_45]
    simp only [cl0, cl55, e0, e5, q1, eh, t1, t2, P_12_closed_79, F_12_closed_79, P_12_closed_90, F_12_closed_90, en, bi_of, if_true, if_false, true_imp_iff, false_imp_iff, not_true_eq_false, not_false_eq_true, true_and, and_true, implies_true, reduceIte]
    by_cases c : dOf u s L e i (sH s / 24 * 24 + x) = 0
    · have := ih (q ||| bi i, M2) ⟨by rw [orD, hI]; unfold clf; rw [if_pos c], hK.tr t3⟩
      simpa only [c, if_true, if_false, true_imp_iff, false_imp_iff, not_true_eq_false, not_false_eq_true, true_and, and_true, implies_true, reduceIte] using this
    · have := ih (q ||| 0, M2) ⟨by rw [orD, hI]; unfold clf; rw [if_neg c], hK.tr t3⟩
      simpa only [c, if_true, if_false, true_imp_iff, false_imp_iff, not_true_eq_false, not_false_eq_true, true_and, and_true, implies_true, reduceIte] using this
  · rintro n ⟨q, M1⟩ ⟨hI, hK⟩
    try dsimp only at hI hK ⊢
    have e0 : rd M1 4 0 = nI (uN u) := (hv.o hK).1.2.1
    have q1 : nI (uN u) ≤ nI (uN u) := nI_le (Nat.le_refl _) (by omega)
    rw [P_12_closed_45, F_12_closed_45]
    simp only [cl0, e0, q1, if_true, if_false, true_imp_iff, false_imp_iff, not_true_eq_false, not_false_eq_true, true_and, and_true, implies_true, reduceIte]
    exact ⟨M1, by rw [hI], hK⟩
theorem cnt0 {p : Nat → Bool} {k : Nat} : cnt p k = 0 ↔ ∀ i, i < k → p i = false := by
  induction k with
  | zero => exact ⟨fun _ i h => by omega, fun _ => rfl⟩
  | succ k ih =>
    rw [cnt]
    constructor
    · intro h i hi
      have h1 : cnt p k = 0 := by omega
      by_cases e : i = k
      · subst e
        cases c : p i with
        | false => rfl
        | true => rw [c] at h; simp at h
      · exact ih.mp h1 i (by omega)
    · intro h
      rw [ih.mpr (fun i hi => h i (by omega)), h k (by omega)]; rfl
theorem c_closedL {u : MU} {s : SU} {L : List Int32} {M : Mem} (hp : CP 1561 u M) {e h : Nat} (he : e < 2) : P_11_closed_49 FU (nI e) (opS u s L h) 0 0 M ∧ F_11_closed_49 FU (nI e) (opS u s L h) 0 0 M = .inl (some (.int (orD (clf u s L e h) (uN u))), M) := by
  have hN := hp.1.1
  have hm := hp.1.2.1
  have e0 : rd M 1561 0 = nI (uN u) := hp.2.1
  have ee : (nI e = 0) ↔ e = 0 := nI_eq (b := 0) (by omega) (by omega)
  refine lq (S := Int32) (F := fun n i q => F_11_closed_49 n (nI e) (opS u s L h) q i M) (P := fun n i q => P_11_closed_49 n (nI e) (opS u s L h) q i M) (Q := fun a => a = .inl (some (.int (orD (clf u s L e h) (uN u))), M)) (uN u) (fun i q => q = orD (clf u s L e h) i) ?_ ?_ FU 0 0 rfl (Nat.zero_le _) (FU_ge (by omega))
  · intro n i q hi hI ih
    try dsimp only at hI ih ⊢
    have q1 : ¬ nI (uN u) ≤ nI i := nI_ge hi (by omega)
    have v : vp_in (nI i) 10 := (vp_iff (by omega)).mpr (by omega)
    have fc := hp.2.2.2.2.2.2.1 i hi
    have key : ∀ x : Int32, (∀ d, bt x d = (decide (d < uM u) && decide (uEn u e d = i))) → ((x &&& opS u s L h = 0) ↔ dOf u s L e i h = 0) := by
      intro x hx
      rw [b_0iff]
      unfold dOf
      rw [cnt0]
      constructor
      · intro y d hd
        have := y d (by omega)
        rw [b_and, hx, b_opS hm, decide_eq_true hd, Bool.true_and, Bool.true_and] at this
        exact this
      · intro y d _
        rw [b_and, hx, b_opS hm]
        by_cases hd : d < uM u
        · rw [decide_eq_true hd, Bool.true_and, Bool.true_and]; exact y d hd
        · rw [decide_eq_false hd, Bool.false_and, Bool.false_and]
    have stp : ∀ x : Int32, (∀ d, bt x d = (decide (d < uM u) && decide (uEn u e d = i))) → P_11_closed_88 (P_11_closed_49 n) (nI e) (opS u s L h) q (nI i) x M ∧ F_11_closed_88 (F_11_closed_49 n) (nI e) (opS u s L h) q (nI i) x M = .inl (some (.int (orD (clf u s L e h) (uN u))), M) := by
      intro x hx
      rw [P_11_closed_88, F_11_closed_88]
      simp only [key x hx, P_11_closed_106, F_11_closed_106, bi_of]
      by_cases c : dOf u s L e i h = 0
      · have := ih (q ||| bi i) (by rw [orD, hI]; unfold clf; rw [if_pos c])
        simpa only [c, if_true, if_false, true_imp_iff, false_imp_iff, not_true_eq_false, not_false_eq_true, true_and, and_true, implies_true, reduceIte] using this
      · have := ih q (by rw [orD, hI]; unfold clf; rw [if_neg c, or_0])
        simpa only [c, if_true, if_false, true_imp_iff, false_imp_iff, not_true_eq_false, not_false_eq_true, true_and, and_true, implies_true, reduceIte] using this
    rw [P_11_closed_49, F_11_closed_49]
    simp only [e0, q1, v, nI_clamp (n := i) (by omega), ee, if_true, if_false, true_imp_iff, false_imp_iff, not_true_eq_false, not_false_eq_true, true_and, and_true, implies_true, reduceIte]
    by_cases c : e = 0
    · have := stp (rd M 1564 i) (fun d => by rw [show uEn u e d = uF u d by unfold uEn; rw [if_pos c]]; exact fc.2.2.1 d)
      simpa only [c, if_true, if_false, true_imp_iff, false_imp_iff, not_true_eq_false, not_false_eq_true, true_and, and_true, implies_true, reduceIte] using this
    · have := stp (rd M 1565 i) (fun d => by rw [show uEn u e d = uG u d by unfold uEn; rw [if_neg c]]; exact fc.2.2.2 d)
      simpa only [c, if_true, if_false, true_imp_iff, false_imp_iff, not_true_eq_false, not_false_eq_true, true_and, and_true, implies_true, reduceIte] using this
  · intro n q hI
    try dsimp only at hI ⊢
    have q1 : nI (uN u) ≤ nI (uN u) := nI_le (Nat.le_refl _) (by omega)
    rw [P_11_closed_49, F_11_closed_49]
    simp only [e0, q1, if_true, if_false, true_imp_iff, false_imp_iff, not_true_eq_false, not_false_eq_true, true_and, and_true, implies_true, reduceIte]
    rw [hI]
theorem q_closed (x1 x2 : Int32) {d : ID} {Mr Mc : Mem} (hr : RI d Mr) (hc : CI d Mc) : P_12_closed_0 x1 x2 Mr ∧ P_11_closed_0 x1 x2 Mc ∧ QC 0 1 Mr Mc (F_12_closed_0 x1 x2 Mr) (F_11_closed_0 x1 x2 Mc) := by
  obtain ⟨h0, z0, k0⟩ := hr.z
  have hUW := h0.1.1.1
  have hN := hUW.1
  have hM := hUW.2.1
  have hT := hUW.2.2.1
  have ec0 : rd Mc 1561 0 = nI (uN (dU d)) := hc.1.1.2.1
  have ec1 : rd Mc 1561 1 = nI (uM (dU d)) := hc.1.1.2.2.1
  have ec2 : rd Mc 1561 2 = nI (uT (dU d)) := hc.1.1.2.2.2.1
  rw [P_12_closed_0, F_12_closed_0, P_11_closed_0, F_11_closed_0]
  generalize wr Mr 0 0 0 = M0 at *
  rcases (rngB (x := x1) (B := 23) (by omega)).symm with ⟨g1, c1⟩ | ⟨r1, hr1, rfl, g1, c1⟩
  · have g1' : ∀ M, F_12_in_0 M x1 0 23 = 0 := g1
    have c1' : ¬ (0 ≤ x1 ∧ x1 ≤ 23) := c1
    have ne1 : ¬ (1 : Int32) = 0 := by decide
    simp only [ec0, ec1, ec2, g1', c1', bdE z0 ne1, r_bad0 z0, F_12_closed_35, F_12_closed_30, F_12_closed_25, P_12_closed_35, P_12_closed_30, P_12_closed_25, F_11_closed_42, P_11_closed_42, if_true, if_false, true_imp_iff, false_imp_iff, not_true_eq_false, not_false_eq_true, true_and, and_true, false_and, and_false, and_self, implies_true, i1_0, i0_1, one_ne, reduceIte]
    exact QC.e ne1 h0 k0 hc
  have g1' : ∀ M, F_12_in_0 M (nI r1) 0 23 = 1 := g1
  have c1' : 0 ≤ nI r1 ∧ nI r1 ≤ 23 := c1
  rcases (rngB (x := x2) (B := 1) (by omega)).symm with ⟨g2, c2⟩ | ⟨r2, hr2, rfl, g2, c2⟩
  · have g2' : ∀ M, F_12_in_0 M x2 0 1 = 0 := g2
    have c2' : ¬ (0 ≤ x2 ∧ x2 ≤ 1) := c2
    have ne2 : ¬ (1 : Int32) = 0 := by decide
    simp only [ec0, ec1, ec2, g1', c1', g2', c2', bdE z0 ne2, r_bad0 z0, F_12_closed_35, F_12_closed_30, F_12_closed_25, P_12_closed_35, P_12_closed_30, P_12_closed_25, F_11_closed_42, P_11_closed_42, if_true, if_false, true_imp_iff, false_imp_iff, not_true_eq_false, not_false_eq_true, true_and, and_true, false_and, and_false, and_self, implies_true, i1_0, i0_1, one_ne, reduceIte]
    exact QC.e ne2 h0 k0 hc
  have g2' : ∀ M, F_12_in_0 M (nI r2) 0 1 = 1 := g2
  have c2' : 0 ≤ nI r2 ∧ nI r2 ≤ 1 := c2
  have hH := h0.1.2.1.1.1
  obtain ⟨t1, M1, t2, t3⟩ := r_closed h0.1 (e := r2) (x := r1) (by omega) (by omega)
  obtain ⟨w1, M2, w2, w3⟩ := c_openDoors hc.1 (h := sH (dS d) / 24 * 24 + r1) (by omega)
  have C2 := hc.q (co_q w3)
  obtain ⟨s1, s2⟩ := c_closedL C2.1.1 (s := dS d) (L := dL d) (e := r2) (h := sH (dS d) / 24 * 24 + r1) (by omega)
  have b1 : rd Mc 1622 0 = nI (sH (dS d)) := hc.1.2.1.2.1
  have eh : nI (sH (dS d)) - (nI (sH (dS d)) - nI (sH (dS d)) / 24 * 24) + nI r1 = nI (sH (dS d) / 24 * 24 + r1) := by
    have e1 : nI (sH (dS d)) - nI (sH (dS d)) / 24 * 24 = nI (sH (dS d) % 24) := pk_rem (a := sH (dS d)) (d := 24) (by omega) (by omega) (by omega)
    rw [e1, pk_sub (by omega), nI_add]
    exact congrArg nI (by omega)
  simp only [ec0, ec1, ec2, g1', c1', g2', c2', r_bad0 z0, b1, eh, t1, t2, w1, w2, s1, s2, bi_of, F_12_closed_35, F_12_closed_30, F_12_closed_25, P_12_closed_35, P_12_closed_30, P_12_closed_25, F_11_closed_42, P_11_closed_42, if_true, if_false, true_imp_iff, false_imp_iff, not_true_eq_false, not_false_eq_true, true_and, and_true, false_and, and_false, and_self, implies_true, i1_0, i0_1, one_ne, reduceIte]
  exact QC.ok h0 z0 k0 (ro_q t3) (t3.g (by unfold rO; omega)) hc (co_q w3)
theorem q_fault {d : ID} {Mr Mc : Mem} (hr : RI d Mr) (hc : CI d Mc) : QD Mr Mc (F_12_fault_0 Mr) (F_11_fault_0 Mc, Mc) := by
  obtain ⟨h0, z0, k0⟩ := hr.z
  rw [F_12_fault_0, F_11_fault_0]
  have a : rd (wr Mr 0 0 0) 0 3 = dP d := h0.2.2.2.2.2.1
  have b : rd Mc 1558 2 = dP d := hc.2.2.2.2.2.1
  rw [a, b]
  exact QD.ok h0 k0 Kp.rf hc Kp.rf
theorem q_status (x1 : Int32) {d : ID} {Mr Mc : Mem} (hr : RI d Mr) (hc : CI d Mc) : P_12_status_0 x1 Mr ∧ QD Mr Mc (F_12_status_0 x1 Mr) (F_11_status_0 Mc x1, Mc) := by
  obtain ⟨h0, z0, k0⟩ := hr.z
  rw [P_12_status_0, F_12_status_0, F_11_status_0]
  generalize wr Mr 0 0 0 = M0 at *
  have a0 : rd M0 2 0 = dN d := h0.2.2.2.2.2.2.2.1
  have a1 : rd M0 2 1 = dE d := h0.2.2.2.2.2.2.2.2
  have b0 : rd Mc 1558 3 = dN d := hc.2.2.2.2.2.2.2.1
  have b1 : rd Mc 1558 4 = dE d := hc.2.2.2.2.2.2.2.2
  rcases (rngB (x := x1) (B := 1) (by omega)).symm with ⟨g, c⟩ | ⟨v, hv, rfl, g, c⟩
  · have g' : ∀ M, F_12_in_0 M x1 0 1 = 0 := g
    have n0 : ¬ x1 = 0 := fun y => c (by rw [y]; decide)
    have n1 : ¬ x1 = 1 := fun y => c (by rw [y]; decide)
    simp only [g', n0, n1, if_true, if_false, true_imp_iff, false_imp_iff, not_true_eq_false, not_false_eq_true, true_and, and_true, false_and, and_false, and_self, implies_true, i1_0, i0_1, one_ne, reduceIte]
    exact QD.ok h0 k0 Kp.rf hc Kp.rf
  · have g' : ∀ M, F_12_in_0 M (nI v) 0 1 = 1 := g
    have vv : vp_in (nI v) 2 := (vp_iff (by omega)).mpr (by omega)
    have cs : v = 0 ∨ v = 1 := by omega
    rcases cs with rfl | rfl
    · have n0 : (nI 0 = 0) = True := eq_true rfl
      simp only [g', n0, vv, nI_clamp (n := 0) (by omega), a0, b0, if_true, if_false, true_imp_iff, false_imp_iff, not_true_eq_false, not_false_eq_true, true_and, and_true, false_and, and_false, and_self, implies_true, i1_0, i0_1, one_ne, reduceIte]
      exact QD.ok h0 k0 Kp.rf hc Kp.rf
    · have n0 : (nI 1 = 0) = False := eq_false (by decide)
      have n1 : (nI 1 = 1) = True := eq_true rfl
      simp only [g', n0, n1, vv, nI_clamp (n := 1) (by omega), a1, b1, if_true, if_false, true_imp_iff, false_imp_iff, not_true_eq_false, not_false_eq_true, true_and, and_true, false_and, and_false, and_self, implies_true, i1_0, i0_1, one_ne, reduceIte]
      exact QD.ok h0 k0 Kp.rf hc Kp.rf
theorem q_count (x1 : Int32) {d : ID} {Mr Mc : Mem} (hr : RI d Mr) (hc : CI d Mc) : QD Mr Mc (F_12_count_0 x1 Mr) (F_11_count_0 Mc x1, Mc) := by
  obtain ⟨h0, z0, k0⟩ := hr.z
  rw [F_12_count_0, F_11_count_0]
  generalize wr Mr 0 0 0 = M0 at *
  have a0 : rd M0 0 38 = nI (dI d).1 := h0.2.2.2.2.1.2.1
  have a1 : rd M0 0 1 = nI (dT d).1 := h0.2.2.1.2.1
  have a2 : rd M0 0 36 = nI (dB d).1 := h0.2.2.2.1.2.1
  have b0 : rd Mc 1558 14 = nI (dI d).1 := hc.2.2.2.2.1.2.1
  have b1 : rd Mc 1558 1 = nI (dT d).1 := hc.2.2.1.2.1
  have b2 : rd Mc 1614 2 = nI (dB d).1 := hc.2.2.2.1.2.1
  rw [a0, a1, a2, b0, b1, b2]
  by_cases c0 : x1 = 0
  · rw [if_pos c0, if_pos c0]; exact QD.ok h0 k0 Kp.rf hc Kp.rf
  rw [if_neg c0, if_neg c0]
  by_cases c1 : x1 = 1
  · rw [if_pos c1, if_pos c1]; exact QD.ok h0 k0 Kp.rf hc Kp.rf
  rw [if_neg c1, if_neg c1]
  by_cases c2 : x1 = 2
  · rw [if_pos c2, if_pos c2]; exact QD.ok h0 k0 Kp.rf hc Kp.rf
  rw [if_neg c2, if_neg c2]; exact QD.ok h0 k0 Kp.rf hc Kp.rf
