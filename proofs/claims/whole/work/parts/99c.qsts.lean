/-! MATHEMATICS 72: questions, both sides (printed by gen/q1.py) -/
theorem ro_q {M M' : Mem} (h : Kp rO M M') : Kp rQy M M' := h.mono (fun c j z => by unfold rO at z; unfold rQy; omega)
theorem co_q {M M' : Mem} (h : Kp cO M M') : Kp cQy M M' := h.mono (fun c j z => by unfold cO at z; unfold cQy; omega)
theorem q_soon (x1 x2 : Int32) {d : ID} {Mr Mc : Mem} (hr : RI d Mr) (hc : CI d Mc) : P_12_soon_0 x1 x2 Mr ∧ P_11_soon_0 x1 x2 Mc ∧ QC 1 0 Mr Mc (F_12_soon_0 x1 x2 Mr) (F_11_soon_0 x1 x2 Mc) := by
  obtain ⟨h0, z0, k0⟩ := hr.z
  have hUW := h0.1.1.1
  have hN := hUW.1
  have hM := hUW.2.1
  have hT := hUW.2.2.1
  have ec0 : rd Mc 1561 0 = nI (uN (dU d)) := hc.1.1.2.1
  have ec1 : rd Mc 1561 1 = nI (uM (dU d)) := hc.1.1.2.2.1
  have ec2 : rd Mc 1561 2 = nI (uT (dU d)) := hc.1.1.2.2.2.1
  rw [P_12_soon_0, F_12_soon_0, P_11_soon_0, F_11_soon_0]
  generalize wr Mr 0 0 0 = M0 at *
  obtain ⟨p1, e1⟩ := roomR h0 x1
  obtain ⟨p2, e2⟩ := roomR h0 x2
  rcases (rngN (x := x1) (N := uN (dU d)) (by omega)).symm with ⟨g1, c1⟩ | ⟨r1, hr1, rfl, g1, c1⟩
  · simp only [ec0, ec1, ec2, p1, e1, p2, e2, g1, c1, bdN z0 one_ne, F_12_soon_45, F_12_soon_32, F_12_soon_27, F_12_soon_22, P_12_soon_32, P_12_soon_27, P_12_soon_22, F_11_soon_23, if_true, if_false, true_imp_iff, false_imp_iff, not_true_eq_false, not_false_eq_true, true_and, and_true, false_and, and_false, and_self, implies_true, i1_0, i0_1, one_ne, reduceIte]
    exact QC.n h0 k0 hc
  rcases (rngN (x := x2) (N := uN (dU d)) (by omega)).symm with ⟨g2, c2⟩ | ⟨r2, hr2, rfl, g2, c2⟩
  · simp only [ec0, ec1, ec2, p1, e1, p2, e2, g1, c1, g2, c2, bdN z0 one_ne, F_12_soon_45, F_12_soon_32, F_12_soon_27, F_12_soon_22, P_12_soon_32, P_12_soon_27, P_12_soon_22, F_11_soon_23, if_true, if_false, true_imp_iff, false_imp_iff, not_true_eq_false, not_false_eq_true, true_and, and_true, false_and, and_false, and_self, implies_true, i1_0, i0_1, one_ne, reduceIte]
    exact QC.n h0 k0 hc
  obtain ⟨v1, M1, v2, v3⟩ := r_soonTo h0.1 (r := r1) (bi r2)
  obtain ⟨w1, M2, w2, w3⟩ := c_soonest hc.1 (bi r1) (bi r2)
  simp only [ec0, ec1, ec2, p1, e1, p2, e2, g1, c1, g2, c2, r_bad0 z0, v1, v2, w1, w2, bi_of, F_12_soon_45, F_12_soon_32, F_12_soon_27, F_12_soon_22, P_12_soon_32, P_12_soon_27, P_12_soon_22, F_11_soon_23, if_true, if_false, true_imp_iff, false_imp_iff, not_true_eq_false, not_false_eq_true, true_and, and_true, false_and, and_false, and_self, implies_true, i1_0, i0_1, one_ne, reduceIte]
  exact QC.ok h0 z0 k0 (ro_q v3) (v3.g (by unfold rO; omega)) hc (co_q w3)
theorem q_out (x1 : Int32) {d : ID} {Mr Mc : Mem} (hr : RI d Mr) (hc : CI d Mc) : P_12_out_0 x1 Mr ∧ P_11_out_0 x1 Mc ∧ QC 1 0 Mr Mc (F_12_out_0 x1 Mr) (F_11_out_0 x1 Mc) := by
  obtain ⟨h0, z0, k0⟩ := hr.z
  have hUW := h0.1.1.1
  have hN := hUW.1
  have hM := hUW.2.1
  have hT := hUW.2.2.1
  have ec0 : rd Mc 1561 0 = nI (uN (dU d)) := hc.1.1.2.1
  have ec1 : rd Mc 1561 1 = nI (uM (dU d)) := hc.1.1.2.2.1
  have ec2 : rd Mc 1561 2 = nI (uT (dU d)) := hc.1.1.2.2.2.1
  rw [P_12_out_0, F_12_out_0, P_11_out_0, F_11_out_0]
  generalize wr Mr 0 0 0 = M0 at *
  obtain ⟨p1, e1⟩ := roomR h0 x1
  rcases (rngN (x := x1) (N := uN (dU d)) (by omega)).symm with ⟨g1, c1⟩ | ⟨r1, hr1, rfl, g1, c1⟩
  · simp only [ec0, ec1, ec2, p1, e1, g1, c1, bdN z0 one_ne, F_12_out_40, F_12_out_24, F_12_out_19, P_12_out_24, P_12_out_19, F_11_out_22, if_true, if_false, true_imp_iff, false_imp_iff, not_true_eq_false, not_false_eq_true, true_and, and_true, false_and, and_false, and_self, implies_true, i1_0, i0_1, one_ne, reduceIte]
    exact QC.n h0 k0 hc
  have f3 : rd M0 4 3 = uX (dU d) := h0.1.1.2.2.2.2.1
  have fc : rd Mc 1561 3 = uX (dU d) := hc.1.1.2.2.2.2.1
  obtain ⟨v1, M1, v2, v3⟩ := r_soonTo h0.1 (r := r1) (uX (dU d))
  obtain ⟨w1, M2, w2, w3⟩ := c_soonest hc.1 (bi r1) (uX (dU d))
  simp only [ec0, ec1, ec2, p1, e1, g1, c1, r_bad0 z0, cl3, f3, fc, v1, v2, w1, w2, bi_of, F_12_out_40, F_12_out_24, F_12_out_19, P_12_out_24, P_12_out_19, F_11_out_22, if_true, if_false, true_imp_iff, false_imp_iff, not_true_eq_false, not_false_eq_true, true_and, and_true, false_and, and_false, and_self, implies_true, i1_0, i0_1, one_ne, reduceIte]
  exact QC.ok h0 z0 k0 (ro_q v3) (v3.g (by unfold rO; omega)) hc (co_q w3)
theorem q_within (x1 x2 : Int32) {d : ID} {Mr Mc : Mem} (hr : RI d Mr) (hc : CI d Mc) : P_12_within_0 x1 x2 Mr ∧ P_11_within_0 x1 x2 Mc ∧ QC 1 2 Mr Mc (F_12_within_0 x1 x2 Mr) (F_11_within_0 x1 x2 Mc) := by
  obtain ⟨h0, z0, k0⟩ := hr.z
  have hUW := h0.1.1.1
  have hN := hUW.1
  have hM := hUW.2.1
  have hT := hUW.2.2.1
  have ec0 : rd Mc 1561 0 = nI (uN (dU d)) := hc.1.1.2.1
  have ec1 : rd Mc 1561 1 = nI (uM (dU d)) := hc.1.1.2.2.1
  have ec2 : rd Mc 1561 2 = nI (uT (dU d)) := hc.1.1.2.2.2.1
  rw [P_12_within_0, F_12_within_0, P_11_within_0, F_11_within_0]
  generalize wr Mr 0 0 0 = M0 at *
  obtain ⟨p1, e1⟩ := roomR h0 x1
  rcases (rngN (x := x1) (N := uN (dU d)) (by omega)).symm with ⟨g1, c1⟩ | ⟨r1, hr1, rfl, g1, c1⟩
  · simp only [ec0, ec1, ec2, p1, e1, g1, c1, bdN z0 one_ne, F_12_within_48, F_12_within_43, F_12_within_24, F_12_within_19, P_12_within_48, P_12_within_43, P_12_within_24, P_12_within_19, F_11_within_24, if_true, if_false, true_imp_iff, false_imp_iff, not_true_eq_false, not_false_eq_true, true_and, and_true, false_and, and_false, and_self, implies_true, i1_0, i0_1, one_ne, reduceIte]
    exact QC.n h0 k0 hc
  rcases (rngB (x := x2) (B := 96) (by omega)).symm with ⟨g2, c2⟩ | ⟨r2, hr2, rfl, g2, c2⟩
  · have g2' : ∀ M, F_12_in_0 M x2 0 96 = 0 := g2
    have c2' : ¬ (0 ≤ x2 ∧ x2 ≤ 96) := c2
    have ne2 : ¬ (2 : Int32) = 0 := by decide
    simp only [ec0, ec1, ec2, p1, e1, g1, c1, g2', c2', bdE z0 ne2, r_bad0 z0, F_12_within_48, F_12_within_43, F_12_within_24, F_12_within_19, P_12_within_48, P_12_within_43, P_12_within_24, P_12_within_19, F_11_within_24, if_true, if_false, true_imp_iff, false_imp_iff, not_true_eq_false, not_false_eq_true, true_and, and_true, false_and, and_false, and_self, implies_true, i1_0, i0_1, one_ne, reduceIte]
    exact QC.e ne2 h0 k0 hc
  have g2' : ∀ M, F_12_in_0 M (nI r2) 0 96 = 1 := g2
  have c2' : 0 ≤ nI r2 ∧ nI r2 ≤ 96 := c2
  obtain ⟨v1, M1, v2, v3⟩ := r_within h0.1 (m := r2) (by omega) (bi r1)
  obtain ⟨w1, M2, w2, w3⟩ := c_reachedIn hc.1 (bi r1) (m := r2) (by omega)
  simp only [ec0, ec1, ec2, p1, e1, g1, c1, g2', c2', r_bad0 z0, v1, v2, w1, w2, bi_of, F_12_within_48, F_12_within_43, F_12_within_24, F_12_within_19, P_12_within_48, P_12_within_43, P_12_within_24, P_12_within_19, F_11_within_24, if_true, if_false, true_imp_iff, false_imp_iff, not_true_eq_false, not_false_eq_true, true_and, and_true, false_and, and_false, and_self, implies_true, i1_0, i0_1, one_ne, reduceIte]
  exact QC.ok h0 z0 k0 (ro_q v3) (v3.g (by unfold rO; omega)) hc (co_q w3)
