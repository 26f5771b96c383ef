/-! MATHEMATICS 74: questions of walks, parting, quiet ways, sleepers, both sides (printed by gen/q3.py) -/
theorem rf_q {M M' : Mem} (h : Kp rF M M') : Kp rQy M M' := h.mono (fun c j z => by unfold rF at z; unfold rQy; omega)
theorem rs_q {M M' : Mem} (h : Kp rS M M') : Kp rQy M M' := h.mono (fun c j z => by unfold rS at z; unfold rQy; omega)
theorem rq_q {M M' : Mem} (h : Kp rQ M M') : Kp rQy M M' := h.mono (fun c j z => by unfold rQ at z; unfold rQy; omega)
theorem rb_q {M M' : Mem} (h : Kp rB M M') : Kp rQy M M' := h.mono (fun c j z => by unfold rB at z; unfold rQy; omega)
theorem cf_q {M M' : Mem} (h : Kp cF M M') : Kp cQy M M' := h.mono (fun c j z => by unfold cF at z; unfold cQy; omega)
theorem cq_q {M M' : Mem} (h : Kp cQ M M') : Kp cQy M M' := h.mono (fun c j z => by unfold cQ at z; unfold cQy; omega)
theorem cz_q {M M' : Mem} (h : Kp cZ M M') : Kp cQy M M' := h.mono (fun c j z => by unfold cZ at z; unfold cQy; omega)
theorem cgb_q {M M' : Mem} (h : Kp (fun c j => cG c j ∨ cB c j) M M') : Kp cQy M M' := h.mono (fun c j z => by unfold cG cB at z; unfold cQy; omega)
theorem cgs_q {M M' : Mem} (h : Kp (fun c j => cG c j ∨ cS c j) M M') : Kp cQy M M' := h.mono (fun c j z => by unfold cG cS at z; unfold cQy; omega)
theorem q_fits {d : ID} {Mr Mc : Mem} (hr : RI d Mr) (hc : CI d Mc) : P_12_fits_0  Mr ∧ P_11_fits_0  Mc ∧ QD Mr Mc (F_12_fits_0  Mr) (F_11_fits_0  Mc) := by
  obtain ⟨h0, z0, k0⟩ := hr.z
  have hUW := h0.1.1.1
  have hN := hUW.1
  have hM := hUW.2.1
  have hT := hUW.2.2.1
  have ec0 : rd Mc 1561 0 = nI (uN (dU d)) := hc.1.1.2.1
  have ec1 : rd Mc 1561 1 = nI (uM (dU d)) := hc.1.1.2.2.1
  have ec2 : rd Mc 1561 2 = nI (uT (dU d)) := hc.1.1.2.2.2.1
  rw [P_12_fits_0, F_12_fits_0, P_11_fits_0, F_11_fits_0]
  generalize wr Mr 0 0 0 = M0 at *
  obtain ⟨t1, t2⟩ := r_fitsNow h0.1.1 h0.1.2.1 h0.2.1
  obtain ⟨w1, M2, w2, w3, w4⟩ := c_standing hc.1.1 hc.1.2.1 hc.2.1
  simp only [ec0, ec1, ec2, r_bad0 z0, t1, t2, w1, w2, bi_of, F_11_fits_7, if_true, if_false, true_imp_iff, false_imp_iff, not_true_eq_false, not_false_eq_true, true_and, and_true, false_and, and_false, and_self, implies_true, i1_0, i0_1, one_ne, reduceIte]
  exact QD.ok h0 k0 Kp.rf hc (cg_q w3)
theorem q_knows {d : ID} {Mr Mc : Mem} (hr : RI d Mr) (hc : CI d Mc) : P_12_knows_0  Mr ∧ P_11_knows_0  Mc ∧ QD Mr Mc (F_12_knows_0  Mr) (F_11_knows_0  Mc) := by
  obtain ⟨h0, z0, k0⟩ := hr.z
  have hUW := h0.1.1.1
  have hN := hUW.1
  have hM := hUW.2.1
  have hT := hUW.2.2.1
  have ec0 : rd Mc 1561 0 = nI (uN (dU d)) := hc.1.1.2.1
  have ec1 : rd Mc 1561 1 = nI (uM (dU d)) := hc.1.1.2.2.1
  have ec2 : rd Mc 1561 2 = nI (uT (dU d)) := hc.1.1.2.2.2.1
  rw [P_12_knows_0, F_12_knows_0, P_11_knows_0, F_11_knows_0]
  generalize wr Mr 0 0 0 = M0 at *
  obtain ⟨t1, a, t2, t3⟩ := r_knows h0.1.1 h0.1.2.1 h0.2.1
  obtain ⟨w1, a2, M2, w2, w3, w4⟩ := c_knows hc.1.1 hc.1.2.1 hc.2.1
  have e := t3.eq w3
  subst e
  simp only [ec0, ec1, ec2, r_bad0 z0, t1, t2, w1, w2, bi_of, F_11_knows_7, if_true, if_false, true_imp_iff, false_imp_iff, not_true_eq_false, not_false_eq_true, true_and, and_true, false_and, and_false, and_self, implies_true, i1_0, i0_1, one_ne, reduceIte]
  exact QD.ok h0 k0 Kp.rf hc (cgb_q w4)
theorem q_ends (x1 : Int32) {d : ID} {Mr Mc : Mem} (hr : RI d Mr) (hc : CI d Mc) : P_12_ends_0 x1 Mr ∧ P_11_ends_0 x1 Mc ∧ QC 1 0 Mr Mc (F_12_ends_0 x1 Mr) (F_11_ends_0 x1 Mc) := by
  obtain ⟨h0, z0, k0⟩ := hr.z
  have hUW := h0.1.1.1
  have hN := hUW.1
  have hM := hUW.2.1
  have hT := hUW.2.2.1
  have ec0 : rd Mc 1561 0 = nI (uN (dU d)) := hc.1.1.2.1
  have ec1 : rd Mc 1561 1 = nI (uM (dU d)) := hc.1.1.2.2.1
  have ec2 : rd Mc 1561 2 = nI (uT (dU d)) := hc.1.1.2.2.2.1
  rw [P_12_ends_0, F_12_ends_0, P_11_ends_0, F_11_ends_0]
  generalize wr Mr 0 0 0 = M0 at *
  obtain ⟨p1, e1⟩ := roomR h0 x1
  rcases (rngN (x := x1) (N := uN (dU d)) (by omega)).symm with ⟨g1, c1⟩ | ⟨r1, hr1, rfl, g1, c1⟩
  · simp only [ec0, ec1, ec2, p1, e1, g1, c1, bdN z0 one_ne, F_12_ends_24, F_12_ends_19, P_12_ends_24, P_12_ends_19, if_true, if_false, true_imp_iff, false_imp_iff, not_true_eq_false, not_false_eq_true, true_and, and_true, false_and, and_false, and_self, implies_true, i1_0, i0_1, one_ne, reduceIte]
    exact QC.n h0 k0 hc
  obtain ⟨t1, t2⟩ := r_fitsNow h0.1.1 h0.1.2.1 h0.2.1
  obtain ⟨w1, M2, w2, w3, w4⟩ := c_standing hc.1.1 hc.1.2.1 hc.2.1
  have t3 := r_has M0 (fitW (dU d) (dS d) (dW d) (dW d).1) (i := r1) (by omega)
  have q2 : F_11_ends_12 (nI r1) (fitW (dU d) (dS d) (dW d) (dW d).1) M2 = .inl (some (.int (if bt (fitW (dU d) (dS d) (dW d) (dW d).1) r1 = true then 1 else 0)), M2) := by
    rw [F_11_ends_12]
    by_cases c : bt (fitW (dU d) (dS d) (dW d) (dW d).1) r1 = true
    · rw [if_neg (fun y => by rw [(b_z (by omega)).mp y] at c; exact absurd c (by decide)), if_pos c]
    · rw [if_pos ((b_z (by omega)).mpr (by rw [Bool.not_eq_true] at c; exact c)), if_neg c]
  have nb : narrow .boolean (.int (if bt (fitW (dU d) (dS d) (dW d) (dW d).1) r1 = true then (1 : Int32) else 0)) = .int (if bt (fitW (dU d) (dS d) (dW d) (dW d).1) r1 = true then 1 else 0) := nb10
  simp only [ec0, ec1, ec2, p1, e1, g1, c1, r_bad0 z0, t1, t2, t3, nb, w1, w2, q2, bi_of, F_12_ends_24, F_12_ends_19, P_12_ends_24, P_12_ends_19, if_true, if_false, true_imp_iff, false_imp_iff, not_true_eq_false, not_false_eq_true, true_and, and_true, false_and, and_false, and_self, implies_true, i1_0, i0_1, one_ne, reduceIte]
  exact QC.ok h0 z0 k0 Kp.rf rfl hc (cg_q w3)
theorem q_slips (x1 : Int32) {d : ID} {Mr Mc : Mem} (hr : RI d Mr) (hc : CI d Mc) : P_12_slips_0 x1 Mr ∧ P_11_slips_0 x1 Mc ∧ QC 0 1 Mr Mc (F_12_slips_0 x1 Mr) (F_11_slips_0 x1 Mc) := by
  obtain ⟨h0, z0, k0⟩ := hr.z
  have hUW := h0.1.1.1
  have hN := hUW.1
  have hM := hUW.2.1
  have hT := hUW.2.2.1
  have ec0 : rd Mc 1561 0 = nI (uN (dU d)) := hc.1.1.2.1
  have ec1 : rd Mc 1561 1 = nI (uM (dU d)) := hc.1.1.2.2.1
  have ec2 : rd Mc 1561 2 = nI (uT (dU d)) := hc.1.1.2.2.2.1
  rw [P_12_slips_0, F_12_slips_0, P_11_slips_0, F_11_slips_0]
  generalize wr Mr 0 0 0 = M0 at *
  rcases (rngB (x := x1) (B := 1) (by omega)).symm with ⟨g1, c1⟩ | ⟨r1, hr1, rfl, g1, c1⟩
  · have g1' : ∀ M, F_12_in_0 M x1 0 1 = 0 := g1
    have c1' : ¬ (0 ≤ x1 ∧ x1 ≤ 1) := c1
    have ne1 : ¬ (1 : Int32) = 0 := by decide
    simp only [ec0, ec1, ec2, g1', c1', bdE z0 ne1, r_bad0 z0, F_12_slips_25, F_12_slips_20, P_12_slips_25, P_12_slips_20, if_true, if_false, true_imp_iff, false_imp_iff, not_true_eq_false, not_false_eq_true, true_and, and_true, false_and, and_false, and_self, implies_true, i1_0, i0_1, one_ne, reduceIte]
    exact QC.e ne1 h0 k0 hc
  have g1' : ∀ M, F_12_in_0 M (nI r1) 0 1 = 1 := g1
  have c1' : 0 ≤ nI r1 ∧ nI r1 ≤ 1 := c1
  have l0 : rd M0 0 35 = nI (dW d).1 := h0.2.1.2.1
  have lc : rd Mc 1592 7 = nI (dW d).1 := hc.2.1.2.1
  have l12 := h0.2.1.1.1
  by_cases w0 : (dW d).1 = 0
  · have l0' : rd M0 0 35 = 0 := by rw [l0, w0]; rfl
    have lc' : rd Mc 1592 7 = 0 := by rw [lc, w0]; rfl
    have hFU : FU = 6999 + 1 := rfl
    have a1 : P_9_fewestWrong_0 Mc ∧ F_9_fewestWrong_0 Mc = (0, Mc) := by
      rw [P_9_fewestWrong_0, F_9_fewestWrong_0, if_pos lc']
      exact ⟨⟨fun y => absurd lc' y, fun _ => trivial⟩, rfl⟩
    have a2 : P_9_firstWrong_0 Mc 0 ∧ F_9_firstWrong_0 Mc 0 = -1 := by
      have e : rd Mc 1592 7 ≤ 0 := by rw [lc']; decide
      rw [P_9_firstWrong_0, F_9_firstWrong_0, hFU, P_9_firstWrong_13, F_9_firstWrong_13, if_pos e]
      exact ⟨⟨fun _ => trivial, fun y => absurd e y⟩, rfl⟩
    have q1 : P_11_slips_14 (nI r1) 0 Mc := by rw [P_11_slips_14]; exact ⟨fun _ => a2.1, fun _ => trivial⟩
    have q2 : F_11_slips_14 (nI r1) 0 Mc = .inl (some (.int (if nI r1 = 0 then 0 else -1)), Mc) := by
      rw [F_11_slips_14, a2.2]; split <;> rfl
    have q3 : (if nI r1 = 0 then ((0 : Int32), M0) else (-1, M0)) = (if nI r1 = 0 then 0 else -1, M0) := by split <;> rfl
    simp only [g1', c1', r_bad0 z0, l0', a1.1, a1.2, q1, q2, q3, F_12_slips_20, P_12_slips_20, F_12_slips_25, P_12_slips_25, if_true, if_false, true_imp_iff, false_imp_iff, not_true_eq_false, not_false_eq_true, true_and, and_true, and_self, implies_true, i1_0, reduceIte]
    exact QC.ok h0 z0 k0 Kp.rf rfl hc Kp.rf
  have l0' : ¬ rd M0 0 35 = 0 := by rw [l0]; exact nI_ne0 (by omega) (by omega)
  obtain ⟨v1, M1, v2, v3, v4⟩ := r_laysSlips h0.1.1 h0.1.2.1 h0.2.1 (by omega)
  have H1 := h0.q (rs_q v3)
  obtain ⟨t1, a, b, t2, t3⟩ := r_slips (nI r1) H1.1.1 h0.2.1.1 (by omega) v4
  obtain ⟨w1, a2, M2, w2, w3, w4, w5, w6⟩ := c_fewestWrong hc.1.1 hc.1.2.1 hc.2.1 (by omega)
  have C2 := hc.q (cgs_q w3)
  obtain ⟨s1, s2⟩ := c_firstWrong C2.1.1 w4 C2.2.1 w5 w6 (by omega)
  obtain ⟨e1, e2⟩ := t3.eq s2
  have q1 : P_11_slips_14 (nI r1) a2 M2 := by rw [P_11_slips_14]; exact ⟨fun _ => s1, fun _ => trivial⟩
  have q2 : F_11_slips_14 (nI r1) a2 M2 = .inl (some (.int (if nI r1 = 0 then a else b)), M2) := by
    rw [F_11_slips_14, ← e1, e2, e1]; split <;> rfl
  simp only [ec0, ec1, ec2, g1', c1', r_bad0 z0, l0', v1, v2, t1, t2, w1, w2, q1, q2, bi_of, F_12_slips_25, F_12_slips_20, P_12_slips_25, P_12_slips_20, if_true, if_false, true_imp_iff, false_imp_iff, not_true_eq_false, not_false_eq_true, true_and, and_true, false_and, and_false, and_self, implies_true, i1_0, i0_1, one_ne, reduceIte]
  exact QC.ok h0 z0 k0 (rs_q v3) (v3.g (by unfold rS; omega)) hc (cgs_q w3)
theorem q_parted (x1 x2 x3 : Int32) {d : ID} {Mr Mc : Mem} (hr : RI d Mr) (hc : CI d Mc) : P_12_parted_0 x1 x2 x3 Mr ∧ P_11_parted_0 x1 x2 x3 Mc ∧ QC 1 2 Mr Mc (F_12_parted_0 x1 x2 x3 Mr) (F_11_parted_0 x1 x2 x3 Mc) := by
  obtain ⟨h0, z0, k0⟩ := hr.z
  have hUW := h0.1.1.1
  have hN := hUW.1
  have hM := hUW.2.1
  have hT := hUW.2.2.1
  have ec0 : rd Mc 1561 0 = nI (uN (dU d)) := hc.1.1.2.1
  have ec1 : rd Mc 1561 1 = nI (uM (dU d)) := hc.1.1.2.2.1
  have ec2 : rd Mc 1561 2 = nI (uT (dU d)) := hc.1.1.2.2.2.1
  rw [P_12_parted_0, F_12_parted_0, P_11_parted_0, F_11_parted_0]
  generalize wr Mr 0 0 0 = M0 at *
  obtain ⟨p1, e1⟩ := roomR h0 x1
  obtain ⟨p2, e2⟩ := roomR h0 x2
  rcases (rngN (x := x1) (N := uN (dU d)) (by omega)).symm with ⟨g1, c1⟩ | ⟨r1, hr1, rfl, g1, c1⟩
  · simp only [ec0, ec1, ec2, p1, e1, p2, e2, g1, c1, bdN z0 one_ne, F_12_parted_55, F_12_parted_50, F_12_parted_32, F_12_parted_27, F_12_parted_22, P_12_parted_55, P_12_parted_50, P_12_parted_32, P_12_parted_27, P_12_parted_22, F_11_parted_57, F_11_parted_45, if_true, if_false, true_imp_iff, false_imp_iff, not_true_eq_false, not_false_eq_true, true_and, and_true, false_and, and_false, and_self, implies_true, i1_0, i0_1, one_ne, reduceIte]
    exact QC.n h0 k0 hc
  rcases (rngN (x := x2) (N := uN (dU d)) (by omega)).symm with ⟨g2, c2⟩ | ⟨r2, hr2, rfl, g2, c2⟩
  · simp only [ec0, ec1, ec2, p1, e1, p2, e2, g1, c1, g2, c2, bdN z0 one_ne, F_12_parted_55, F_12_parted_50, F_12_parted_32, F_12_parted_27, F_12_parted_22, P_12_parted_55, P_12_parted_50, P_12_parted_32, P_12_parted_27, P_12_parted_22, F_11_parted_57, F_11_parted_45, if_true, if_false, true_imp_iff, false_imp_iff, not_true_eq_false, not_false_eq_true, true_and, and_true, false_and, and_false, and_self, implies_true, i1_0, i0_1, one_ne, reduceIte]
    exact QC.n h0 k0 hc
  rcases (rngB (x := x3) (B := 1) (by omega)).symm with ⟨g3, c3⟩ | ⟨r3, hr3, rfl, g3, c3⟩
  · have g3' : ∀ M, F_12_in_0 M x3 0 1 = 0 := g3
    have c3' : ¬ (0 ≤ x3 ∧ x3 ≤ 1) := c3
    have ne3 : ¬ (2 : Int32) = 0 := by decide
    simp only [ec0, ec1, ec2, p1, e1, p2, e2, g1, c1, g2, c2, g3', c3', bdE z0 ne3, r_bad0 z0, F_12_parted_55, F_12_parted_50, F_12_parted_32, F_12_parted_27, F_12_parted_22, P_12_parted_55, P_12_parted_50, P_12_parted_32, P_12_parted_27, P_12_parted_22, F_11_parted_57, F_11_parted_45, if_true, if_false, true_imp_iff, false_imp_iff, not_true_eq_false, not_false_eq_true, true_and, and_true, false_and, and_false, and_self, implies_true, i1_0, i0_1, one_ne, reduceIte]
    exact QC.e ne3 h0 k0 hc
  have g3' : ∀ M, F_12_in_0 M (nI r3) 0 1 = 1 := g3
  have c3' : 0 ≤ nI r3 ∧ nI r3 ≤ 1 := c3
  have ee : (nI r1 = nI r2) ↔ r1 = r2 := nI_eq (by omega) (by omega)
  by_cases ab : r1 = r2
  · have ab2 := ee.mpr ab
    have q3 : (if nI r3 = 0 then ((-1 : Int32), M0) else (0, M0)) = (if nI r3 = 0 then -1 else 0, M0) := by split <;> rfl
    have q4 : (if nI r3 = 0 then (.inl (some (.int (-1)), Mc) : Oc) else .inl (some (.int 0), Mc)) = .inl (some (.int (if nI r3 = 0 then -1 else 0)), Mc) := by split <;> rfl
    simp only [ec0, p1, e1, p2, e2, g1, c1, g2, c2, g3', c3', r_bad0 z0, ab2, q3, q4, F_12_parted_55, F_12_parted_50, F_12_parted_32, F_12_parted_27, F_12_parted_22, P_12_parted_55, P_12_parted_50, P_12_parted_32, P_12_parted_27, P_12_parted_22, if_true, if_false, true_imp_iff, false_imp_iff, not_true_eq_false, not_false_eq_true, true_and, and_true, and_self, implies_true, i1_0, reduceIte]
    exact QC.ok h0 z0 k0 Kp.rf rfl hc Kp.rf
  have ab2 : ¬ nI r1 = nI r2 := fun y => ab (ee.mp y)
  obtain ⟨⟨t0, t1⟩, M1, t2, t3, _⟩ := r_parted (nI r3) ⟨h0.1.1, h0.1.2.1⟩ hr1 hr2 ab
  obtain ⟨w1, M2, w2, w3⟩ := c_fewestP hc.1.1 hc.1.2.1 hr1 hr2 ab
  obtain ⟨s1, M3, s2, s3⟩ := c_firstDoors hc.1.1 hc.1.2.1 hr1 hr2 ab
  by_cases z3 : nI r3 = 0
  · rw [if_pos z3] at t2
    rw [z3] at g3' c3' t1 t2
    simp only [ec0, p1, e1, p2, e2, g1, c1, g2, c2, g3', c3', z3, r_bad0 z0, ab2, t0, t1, t2, w1, w2, F_12_parted_55, F_12_parted_50, F_12_parted_32, F_12_parted_27, F_12_parted_22, P_12_parted_55, P_12_parted_50, P_12_parted_32, P_12_parted_27, P_12_parted_22, F_11_parted_57, F_11_parted_45, if_true, if_false, true_imp_iff, false_imp_iff, not_true_eq_false, not_false_eq_true, true_and, and_true, and_self, implies_true, i1_0, reduceIte]
    exact QC.ok h0 z0 k0 (rf_q t3) (t3.g (by unfold rF; omega)) hc (cf_q w3)
  rw [if_neg z3] at t2
  simp only [ec0, ec1, ec2, p1, e1, p2, e2, g1, c1, g2, c2, g3', c3', r_bad0 z0, ab2, z3, t0, t1, t2, s1, s2, bi_of, F_12_parted_55, F_12_parted_50, F_12_parted_32, F_12_parted_27, F_12_parted_22, P_12_parted_55, P_12_parted_50, P_12_parted_32, P_12_parted_27, P_12_parted_22, F_11_parted_57, F_11_parted_45, if_true, if_false, true_imp_iff, false_imp_iff, not_true_eq_false, not_false_eq_true, true_and, and_true, false_and, and_false, and_self, implies_true, i1_0, i0_1, one_ne, reduceIte]
  exact QC.ok h0 z0 k0 (rf_q t3) (t3.g (by unfold rF; omega)) hc (cf_q s3)
def OcL (a b c : Int32) (v : Int64) (o : Oc) (M' : Mem) : Prop := (c = 0 ∧ o = .inl (some (.long v), M')) ∨ (c = a ∧ ¬ a = 0 ∧ o = .inr ("java/util/NoSuchElementException", M')) ∨ (c = b ∧ ¬ b = 0 ∧ o = .inr ("java/lang/IllegalArgumentException", M'))
def QL (a b : Int32) (Mr Mc : Mem) (zr : Int64 × Mem) (zc : Oc) : Prop := ∃ d' Mc', RI d' zr.2 ∧ Kp rAll Mr zr.2 ∧ CI d' Mc' ∧ Kp cAll Mc Mc' ∧ OcL a b (rd zr.2 0 0) zr.1 zc Mc'
theorem QL.n {d : ID} {Mr M0 Mc : Mem} {b : Int32} (hr : RI d M0) (hk : Kp rQy Mr M0) (hc : CI d Mc) : QL 1 b Mr Mc (0, wr (wr M0 0 0 1) 2 0 (rd M0 2 0 + 1)) (.inr ("java/util/NoSuchElementException", wr Mc 1558 3 (rd Mc 1558 3 + 1))) :=
  ⟨n1D d, _, hr.n.1, (rq_all hk).tr hr.n.2.2, hc.n.1, hc.n.2, Or.inr (Or.inl ⟨hr.n.2.1, one_ne, rfl⟩)⟩
theorem QL.e {d : ID} {Mr M0 Mc : Mem} {a b : Int32} (hb : ¬ b = 0) (hr : RI d M0) (hk : Kp rQy Mr M0) (hc : CI d Mc) : QL a b Mr Mc (0, wr (wr M0 0 0 b) 2 1 (rd M0 2 1 + 1)) (.inr ("java/lang/IllegalArgumentException", wr Mc 1558 4 (rd Mc 1558 4 + 1))) :=
  ⟨e1D d, _, hr.e.1, (rq_all hk).tr hr.e.2.2, hc.e.1, hc.e.2, Or.inr (Or.inr ⟨hr.e.2.1, hb, rfl⟩)⟩
theorem QL.ok {d : ID} {Mr M0 M1 Mc Mc1 : Mem} {a b : Int32} {v : Int64} (hr : RI d M0) (h0 : rd M0 0 0 = 0) (hk : Kp rQy Mr M0) (hk1 : Kp rQy M0 M1) (h00 : rd M1 0 0 = rd M0 0 0) (hc : CI d Mc) (hkc : Kp cQy Mc Mc1) : QL a b Mr Mc (v, M1) (.inl (some (.long v), Mc1)) :=
  ⟨d, _, hr.q hk1, (rq_all hk).tr (rq_all hk1), hc.q hkc, cq_all hkc, Or.inl ⟨h00.trans h0, rfl⟩⟩
theorem q_quiet (x1 x2 x3 : Int32) {d : ID} {Mr Mc : Mem} (hr : RI d Mr) (hc : CI d Mc) : P_12_quiet_0 x1 x2 x3 Mr ∧ P_11_quiet_0 x1 x2 x3 Mc ∧ QL 1 2 Mr Mc (F_12_quiet_0 x1 x2 x3 Mr) (F_11_quiet_0 x1 x2 x3 Mc) := by
  obtain ⟨h0, z0, k0⟩ := hr.z
  have hUW := h0.1.1.1
  have hN := hUW.1
  have hM := hUW.2.1
  have hT := hUW.2.2.1
  have ec0 : rd Mc 1561 0 = nI (uN (dU d)) := hc.1.1.2.1
  have ec1 : rd Mc 1561 1 = nI (uM (dU d)) := hc.1.1.2.2.1
  have ec2 : rd Mc 1561 2 = nI (uT (dU d)) := hc.1.1.2.2.2.1
  rw [P_12_quiet_0, F_12_quiet_0, P_11_quiet_0, F_11_quiet_0]
  generalize wr Mr 0 0 0 = M0 at *
  obtain ⟨p1, e1⟩ := roomR h0 x1
  obtain ⟨p2, e2⟩ := roomR h0 x2
  rcases (rngN (x := x1) (N := uN (dU d)) (by omega)).symm with ⟨g1, c1⟩ | ⟨r1, hr1, rfl, g1, c1⟩
  · simp only [ec0, ec1, ec2, p1, e1, p2, e2, g1, c1, bdN z0 one_ne, F_12_quiet_55, F_12_quiet_50, F_12_quiet_32, F_12_quiet_27, F_12_quiet_22, P_12_quiet_55, P_12_quiet_50, P_12_quiet_32, P_12_quiet_27, P_12_quiet_22, if_true, if_false, true_imp_iff, false_imp_iff, not_true_eq_false, not_false_eq_true, true_and, and_true, false_and, and_false, and_self, implies_true, i1_0, i0_1, one_ne, reduceIte]
    exact QL.n h0 k0 hc
  rcases (rngN (x := x2) (N := uN (dU d)) (by omega)).symm with ⟨g2, c2⟩ | ⟨r2, hr2, rfl, g2, c2⟩
  · simp only [ec0, ec1, ec2, p1, e1, p2, e2, g1, c1, g2, c2, bdN z0 one_ne, F_12_quiet_55, F_12_quiet_50, F_12_quiet_32, F_12_quiet_27, F_12_quiet_22, P_12_quiet_55, P_12_quiet_50, P_12_quiet_32, P_12_quiet_27, P_12_quiet_22, if_true, if_false, true_imp_iff, false_imp_iff, not_true_eq_false, not_false_eq_true, true_and, and_true, false_and, and_false, and_self, implies_true, i1_0, i0_1, one_ne, reduceIte]
    exact QL.n h0 k0 hc
  rcases (rngB (x := x3) (B := 1) (by omega)).symm with ⟨g3, c3⟩ | ⟨r3, hr3, rfl, g3, c3⟩
  · have g3' : ∀ M, F_12_in_0 M x3 0 1 = 0 := g3
    have c3' : ¬ (0 ≤ x3 ∧ x3 ≤ 1) := c3
    have ne3 : ¬ (2 : Int32) = 0 := by decide
    simp only [ec0, ec1, ec2, p1, e1, p2, e2, g1, c1, g2, c2, g3', c3', bdE z0 ne3, r_bad0 z0, F_12_quiet_55, F_12_quiet_50, F_12_quiet_32, F_12_quiet_27, F_12_quiet_22, P_12_quiet_55, P_12_quiet_50, P_12_quiet_32, P_12_quiet_27, P_12_quiet_22, if_true, if_false, true_imp_iff, false_imp_iff, not_true_eq_false, not_false_eq_true, true_and, and_true, false_and, and_false, and_self, implies_true, i1_0, i0_1, one_ne, reduceIte]
    exact QL.e ne3 h0 k0 hc
  have g3' : ∀ M, F_12_in_0 M (nI r3) 0 1 = 1 := g3
  have c3' : 0 ≤ nI r3 ∧ nI r3 ≤ 1 := c3
  obtain ⟨t1, M1, t2, t3⟩ := r_quiet (w := nI r3) h0.1.1 h0.1.2.1 hr1 hr2
  obtain ⟨w1, M2, w2, w3⟩ := c_likeliest hc.1.1 hc.1.2.1 hr1 hr2
  have hv : qL (dU d) (dS d) r1 9 r2 ≤ 68719476736 := qL_le hUW 9 r2
  obtain ⟨⟨s1, s2⟩, s3, s4⟩ := c_terms (M := M2) hv
  have q1 : P_11_quiet_26 (nI r3) (lN (qL (dU d) (dS d) r1 9 r2)) M2 := by rw [P_11_quiet_26]; exact ⟨fun _ => s3, fun _ => s1⟩
  have q2 : F_11_quiet_26 (nI r3) (lN (qL (dU d) (dS d) r1 9 r2)) M2 = .inl (some (.long (qtA (qL (dU d) (dS d) r1 9 r2) (nI r3))), M2) := by
    rw [F_11_quiet_26, s2, s4]
    by_cases c : nI r3 = 0
    · rw [if_pos c, c]
    · have c1 : r3 = 1 := by
        have : ¬ r3 = 0 := fun y => c (by rw [y]; rfl)
        omega
      rw [if_neg c, c1]; rfl
  simp only [ec0, ec1, ec2, p1, e1, p2, e2, g1, c1, g2, c2, g3', c3', r_bad0 z0, t1, t2, w1, w2, q1, q2, bi_of, F_12_quiet_55, F_12_quiet_50, F_12_quiet_32, F_12_quiet_27, F_12_quiet_22, P_12_quiet_55, P_12_quiet_50, P_12_quiet_32, P_12_quiet_27, P_12_quiet_22, if_true, if_false, true_imp_iff, false_imp_iff, not_true_eq_false, not_false_eq_true, true_and, and_true, false_and, and_false, and_self, implies_true, i1_0, i0_1, one_ne, reduceIte]
  exact QL.ok h0 z0 k0 (rq_q t3) (t3.g (by unfold rQ; omega)) hc (cq_q w3)
theorem q_sleepwalk (x1 x2 x3 x4 : Int32) {d : ID} {Mr Mc : Mem} (hr : RI d Mr) (hc : CI d Mc) : P_12_sleepwalk_0 x1 x2 x3 x4 Mr ∧ P_11_sleepwalk_0 x1 x2 x3 x4 Mc ∧ QC 1 2 Mr Mc (F_12_sleepwalk_0 x1 x2 x3 x4 Mr) (F_11_sleepwalk_0 x1 x2 x3 x4 Mc) := by
  obtain ⟨h0, z0, k0⟩ := hr.z
  have hUW := h0.1.1.1
  have hN := hUW.1
  have hM := hUW.2.1
  have hT := hUW.2.2.1
  have ec0 : rd Mc 1561 0 = nI (uN (dU d)) := hc.1.1.2.1
  have ec1 : rd Mc 1561 1 = nI (uM (dU d)) := hc.1.1.2.2.1
  have ec2 : rd Mc 1561 2 = nI (uT (dU d)) := hc.1.1.2.2.2.1
  rw [P_12_sleepwalk_0, F_12_sleepwalk_0, P_11_sleepwalk_0, F_11_sleepwalk_0]
  generalize wr Mr 0 0 0 = M0 at *
  obtain ⟨p1, e1⟩ := roomR h0 x2
  rcases (rngN (x := x2) (N := uN (dU d)) (by omega)).symm with ⟨g1, c1⟩ | ⟨r1, hr1, rfl, g1, c1⟩
  · simp only [ec0, ec1, ec2, p1, e1, g1, c1, bdN z0 one_ne, F_12_sleepwalk_58, F_12_sleepwalk_53, F_12_sleepwalk_48, F_12_sleepwalk_24, F_12_sleepwalk_19, P_12_sleepwalk_58, P_12_sleepwalk_53, P_12_sleepwalk_48, P_12_sleepwalk_24, P_12_sleepwalk_19, F_11_sleepwalk_28, P_11_sleepwalk_28, if_true, if_false, true_imp_iff, false_imp_iff, not_true_eq_false, not_false_eq_true, true_and, and_true, false_and, and_false, and_self, implies_true, i1_0, i0_1, one_ne, reduceIte]
    exact QC.n h0 k0 hc
  rcases (rngB (x := x3) (B := 96) (by omega)).symm with ⟨g2, c2⟩ | ⟨r2, hr2, rfl, g2, c2⟩
  · have g2' : ∀ M, F_12_in_0 M x3 0 96 = 0 := g2
    have c2' : ¬ (0 ≤ x3 ∧ x3 ≤ 96) := c2
    have ne2 : ¬ (2 : Int32) = 0 := by decide
    simp only [ec0, ec1, ec2, p1, e1, g1, c1, g2', c2', bdE z0 ne2, r_bad0 z0, F_12_sleepwalk_58, F_12_sleepwalk_53, F_12_sleepwalk_48, F_12_sleepwalk_24, F_12_sleepwalk_19, P_12_sleepwalk_58, P_12_sleepwalk_53, P_12_sleepwalk_48, P_12_sleepwalk_24, P_12_sleepwalk_19, F_11_sleepwalk_28, P_11_sleepwalk_28, if_true, if_false, true_imp_iff, false_imp_iff, not_true_eq_false, not_false_eq_true, true_and, and_true, false_and, and_false, and_self, implies_true, i1_0, i0_1, one_ne, reduceIte]
    exact QC.e ne2 h0 k0 hc
  have g2' : ∀ M, F_12_in_0 M (nI r2) 0 96 = 1 := g2
  have c2' : 0 ≤ nI r2 ∧ nI r2 ≤ 96 := c2
  rcases (rngB (x := x4) (B := 2) (by omega)).symm with ⟨g3, c3⟩ | ⟨r3, hr3, rfl, g3, c3⟩
  · have g3' : ∀ M, F_12_in_0 M x4 0 2 = 0 := g3
    have c3' : ¬ (0 ≤ x4 ∧ x4 ≤ 2) := c3
    have ne3 : ¬ (2 : Int32) = 0 := by decide
    simp only [ec0, ec1, ec2, p1, e1, g1, c1, g2', c2', g3', c3', bdE z0 ne3, r_bad0 z0, F_12_sleepwalk_58, F_12_sleepwalk_53, F_12_sleepwalk_48, F_12_sleepwalk_24, F_12_sleepwalk_19, P_12_sleepwalk_58, P_12_sleepwalk_53, P_12_sleepwalk_48, P_12_sleepwalk_24, P_12_sleepwalk_19, F_11_sleepwalk_28, P_11_sleepwalk_28, if_true, if_false, true_imp_iff, false_imp_iff, not_true_eq_false, not_false_eq_true, true_and, and_true, false_and, and_false, and_self, implies_true, i1_0, i0_1, one_ne, reduceIte]
    exact QC.e ne3 h0 k0 hc
  have g3' : ∀ M, F_12_in_0 M (nI r3) 0 2 = 1 := g3
  have c3' : 0 ≤ nI r3 ∧ nI r3 ≤ 2 := c3
  obtain ⟨t1, M1, t2, t3, t4, t5⟩ := r_walksBy h0.1 x1 hr1 (m := r2) (by omega)
  obtain ⟨w1, M2, w2, w3, w4⟩ := c_lieDown (u := dU d) (s := dS d) (L := dL d) (M := Mc)
  have C2 := hc.q (cz_q w3)
  obtain ⟨s1, M3, s2, s3, s4, s5, s6, s7⟩ := c_sleep C2.1 w4 x1 hr1 (m := r2) (by omega)
  have si := slK_in (s := dS d) (L := dL d) (x := x1) hUW hr1 r2
  obtain ⟨o1, o2⟩ := r_ones (M := M1) (x := (slK (dU d) (dS d) (dL d) x1 r1 r2).2.2.1)
  have lo : ∀ i, uN (dU d) ≤ i → bt (slK (dU d) (dS d) (dL d) x1 r1 r2).2.2.1 i = false := fun i hi => by
    apply Bool.eq_false_iff.mpr
    intro y
    have := si.2.1 i y
    omega
  have bc : F_6_bitCount_0f7a4_0 M3 (slK (dU d) (dS d) (dL d) x1 r1 r2).2.2.1 = nI (cnt (bt (slK (dU d) (dS d) (dL d) x1 r1 r2).2.2.1) 10) := by
    rw [bcount (fun i h1 h2 => lo i (by omega)), cnt_ext (m := 10) (by omega) (fun i h1 h2 => lo i (by omega))]
  have q1 : P_12_sleepwalk_70 (nI r3) (nI (slK (dU d) (dS d) (dL d) x1 r1 r2).2.1) M1 := by
    rw [P_12_sleepwalk_70, t3]
    exact ⟨fun _ => ⟨fun _ => trivial, fun _ => o1⟩, fun _ => trivial⟩
  have q2 : F_12_sleepwalk_70 (nI r3) (nI (slK (dU d) (dS d) (dL d) x1 r1 r2).2.1) M1 = (if nI r3 = 0 then nI (slK (dU d) (dS d) (dL d) x1 r1 r2).2.1 else if nI r3 = 1 then nI (cnt (bt (slK (dU d) (dS d) (dL d) x1 r1 r2).2.2.1) 10) else nI (slK (dU d) (dS d) (dL d) x1 r1 r2).2.2.2, M1) := by
    rw [F_12_sleepwalk_70, t3, t4, o2]
    by_cases c : nI r3 = 0
    · rw [if_pos c, if_pos c]
    · rw [if_neg c, if_neg c]; split <;> rfl
  have q3 : F_11_sleepwalk_38 (nI r3) M3 = .inl (some (.int (if nI r3 = 0 then nI (slK (dU d) (dS d) (dL d) x1 r1 r2).2.1 else if nI r3 = 1 then nI (cnt (bt (slK (dU d) (dS d) (dL d) x1 r1 r2).2.2.1) 10) else nI (slK (dU d) (dS d) (dL d) x1 r1 r2).2.2.2)), M3) := by
    rw [F_11_sleepwalk_38, s3, s4, s5, bc]
    by_cases c : nI r3 = 0
    · rw [if_pos c, if_pos c]
    · rw [if_neg c, if_neg c]; split <;> rfl
  simp only [ec0, ec1, ec2, p1, e1, g1, c1, g2', c2', g3', c3', r_bad0 z0, t1, t2, q1, q2, w1, w2, s1, s2, q3, bi_of, F_12_sleepwalk_58, F_12_sleepwalk_53, F_12_sleepwalk_48, F_12_sleepwalk_24, F_12_sleepwalk_19, P_12_sleepwalk_58, P_12_sleepwalk_53, P_12_sleepwalk_48, P_12_sleepwalk_24, P_12_sleepwalk_19, F_11_sleepwalk_28, P_11_sleepwalk_28, if_true, if_false, true_imp_iff, false_imp_iff, not_true_eq_false, not_false_eq_true, true_and, and_true, false_and, and_false, and_self, implies_true, i1_0, i0_1, one_ne, reduceIte]
  exact QC.ok h0 z0 k0 (rb_q t5) (t5.g (by unfold rB; omega)) hc ((cz_q w3).tr (cz_q s7))
