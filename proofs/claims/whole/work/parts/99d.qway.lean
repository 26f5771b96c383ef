/-! MATHEMATICS 73: questions of ways, both sides (printed by gen/q2.py) -/
theorem rw_q {M M' : Mem} (h : Kp rW M M') : Kp rQy M M' := h.mono (fun c j z => by unfold rW at z; unfold rQy; omega)
theorem cg_q {M M' : Mem} (h : Kp cG M M') : Kp cQy M M' := h.mono (fun c j z => by unfold cG at z; unfold cQy; omega)
theorem cm_q {M M' : Mem} (h : Kp cM M M') : Kp cQy M M' := h.mono (fun c j z => by unfold cM at z; unfold cQy; omega)
theorem cr_q {M M' : Mem} (h : Kp cR M M') : Kp cQy M M' := h.mono (fun c j z => by unfold cR at z; unfold cQy; omega)
theorem rwr_q {M M' : Mem} (h : Kp (fun c j => rW c j ∨ rR c j) M M') : Kp rQy M M' := h.mono (fun c j z => by unfold rW rR at z; unfold rQy; omega)
theorem c_all {u : MU} {M : Mem} (hp : CP 1561 u M) : F_4_allRooms_0 M = bi (uN u) - 1 := by rw [F_4_allRooms_0, hp.2.1, bi_of]
theorem q_string (x1 : Int32) {d : ID} {Mr Mc : Mem} (hr : RI d Mr) (hc : CI d Mc) : P_12_string_0 x1 Mr ∧ P_11_string_0 x1 Mc ∧ QC 1 0 Mr Mc (F_12_string_0 x1 Mr) (F_11_string_0 x1 Mc) := by
  obtain ⟨h0, z0, k0⟩ := hr.z
  have hUW := h0.1.1.1
  have hN := hUW.1
  have hM := hUW.2.1
  have hT := hUW.2.2.1
  have ec0 : rd Mc 1561 0 = nI (uN (dU d)) := hc.1.1.2.1
  have ec1 : rd Mc 1561 1 = nI (uM (dU d)) := hc.1.1.2.2.1
  have ec2 : rd Mc 1561 2 = nI (uT (dU d)) := hc.1.1.2.2.2.1
  rw [P_12_string_0, F_12_string_0, P_11_string_0, F_11_string_0]
  generalize wr Mr 0 0 0 = M0 at *
  obtain ⟨p1, e1⟩ := roomR h0 x1
  rcases (rngN (x := x1) (N := uN (dU d)) (by omega)).symm with ⟨g1, c1⟩ | ⟨r1, hr1, rfl, g1, c1⟩
  · simp only [ec0, ec1, ec2, p1, e1, g1, c1, bdN z0 one_ne, F_12_string_33, F_12_string_24, F_12_string_19, P_12_string_33, P_12_string_24, P_12_string_19, F_11_string_12, P_11_string_12, if_true, if_false, true_imp_iff, false_imp_iff, not_true_eq_false, not_false_eq_true, true_and, and_true, false_and, and_false, and_self, implies_true, i1_0, i0_1, one_ne, reduceIte]
    exact QC.n h0 k0 hc
  obtain ⟨v1, M1, v2, v3, v4⟩ := r_laysWays h0.1.1 h0.1.2.1
  have H1 := h0.q (rw_q v3)
  have hf := farW_FW (s := dS d) hUW
  obtain ⟨t1, t2⟩ := r_stringTo H1.1.1 v4 hf.1 (r := r1) (by omega)
  obtain ⟨w1, M2, w2, w3, w4⟩ := c_renew hc.1.1 hc.1.2.1
  have C2 := hc.q (cg_q w3)
  have fc : rd M2 1561 3 = uX (dU d) := C2.1.1.2.2.2.2.1
  obtain ⟨s1, s2⟩ := c_fewest C2.1.1 w4 (uX (dU d)) (bi r1)
  have e := few_xb hUW hf (r := r1) (by omega)
  simp only [ec0, ec1, ec2, p1, e1, g1, c1, r_bad0 z0, v1, v2, w1, w2, fc, t1, t2, s1, s2, e, bi_of, F_12_string_33, F_12_string_24, F_12_string_19, P_12_string_33, P_12_string_24, P_12_string_19, F_11_string_12, P_11_string_12, if_true, if_false, true_imp_iff, false_imp_iff, not_true_eq_false, not_false_eq_true, true_and, and_true, false_and, and_false, and_self, implies_true, i1_0, i0_1, one_ne, reduceIte]
  exact QC.ok h0 z0 k0 (rw_q v3) (v3.g (by unfold rW; omega)) hc (cg_q w3)
theorem q_way (x1 x2 : Int32) {d : ID} {Mr Mc : Mem} (hr : RI d Mr) (hc : CI d Mc) : P_12_way_0 x1 x2 Mr ∧ P_11_way_0 x1 x2 Mc ∧ QC 1 0 Mr Mc (F_12_way_0 x1 x2 Mr) (F_11_way_0 x1 x2 Mc) := by
  obtain ⟨h0, z0, k0⟩ := hr.z
  have hUW := h0.1.1.1
  have hN := hUW.1
  have hM := hUW.2.1
  have hT := hUW.2.2.1
  have ec0 : rd Mc 1561 0 = nI (uN (dU d)) := hc.1.1.2.1
  have ec1 : rd Mc 1561 1 = nI (uM (dU d)) := hc.1.1.2.2.1
  have ec2 : rd Mc 1561 2 = nI (uT (dU d)) := hc.1.1.2.2.2.1
  rw [P_12_way_0, F_12_way_0, P_11_way_0, F_11_way_0]
  generalize wr Mr 0 0 0 = M0 at *
  obtain ⟨p1, e1⟩ := roomR h0 x1
  obtain ⟨p2, e2⟩ := roomR h0 x2
  rcases (rngN (x := x1) (N := uN (dU d)) (by omega)).symm with ⟨g1, c1⟩ | ⟨r1, hr1, rfl, g1, c1⟩
  · simp only [ec0, ec1, ec2, p1, e1, p2, e2, g1, c1, bdN z0 one_ne, F_12_way_41, F_12_way_32, F_12_way_27, F_12_way_22, P_12_way_41, P_12_way_32, P_12_way_27, P_12_way_22, F_11_way_17, P_11_way_17, if_true, if_false, true_imp_iff, false_imp_iff, not_true_eq_false, not_false_eq_true, true_and, and_true, false_and, and_false, and_self, implies_true, i1_0, i0_1, one_ne, reduceIte]
    exact QC.n h0 k0 hc
  rcases (rngN (x := x2) (N := uN (dU d)) (by omega)).symm with ⟨g2, c2⟩ | ⟨r2, hr2, rfl, g2, c2⟩
  · simp only [ec0, ec1, ec2, p1, e1, p2, e2, g1, c1, g2, c2, bdN z0 one_ne, F_12_way_41, F_12_way_32, F_12_way_27, F_12_way_22, P_12_way_41, P_12_way_32, P_12_way_27, P_12_way_22, F_11_way_17, P_11_way_17, if_true, if_false, true_imp_iff, false_imp_iff, not_true_eq_false, not_false_eq_true, true_and, and_true, false_and, and_false, and_self, implies_true, i1_0, i0_1, one_ne, reduceIte]
    exact QC.n h0 k0 hc
  obtain ⟨v1, M1, v2, v3, v4⟩ := r_laysWays h0.1.1 h0.1.2.1
  have H1 := h0.q (rw_q v3)
  have hf := farW_FW (s := dS d) hUW
  have t2 : rd M1 (497 + r1) r2 = nI (farW (dU d) (dS d) r1 r2) := v4 r1 r2 (by omega) (by omega)
  have t9 := hf.1 r1 r2 (by omega) (by omega)
  have va : vp_in (nI r1) 10 := (vp_iff (by omega)).mpr (by omega)
  have vb : vp_in (nI r2) 10 := (vp_iff (by omega)).mpr (by omega)
  have t3 := r_orNone (M := M1) (v := farW (dU d) (dS d) r1 r2) (by omega)
  obtain ⟨w1, M2, w2, w3, w4⟩ := c_renew hc.1.1 hc.1.2.1
  have C2 := hc.q (cg_q w3)
  have fc : rd M2 1561 3 = uX (dU d) := C2.1.1.2.2.2.2.1
  obtain ⟨s1, s2⟩ := c_fewest C2.1.1 w4 (bi r1) (bi r2)
  have e := few_bb hUW hf (a := r1) (b := r2) (by omega) (by omega)
  simp only [ec0, ec1, ec2, p1, e1, p2, e2, g1, c1, g2, c2, r_bad0 z0, v1, v2, w1, w2, fc, nI_clamp (n := r1) (by omega), nI_clamp (n := r2) (by omega), va, vb, t2, t3, s1, s2, e, bi_of, F_12_way_41, F_12_way_32, F_12_way_27, F_12_way_22, P_12_way_41, P_12_way_32, P_12_way_27, P_12_way_22, F_11_way_17, P_11_way_17, if_true, if_false, true_imp_iff, false_imp_iff, not_true_eq_false, not_false_eq_true, true_and, and_true, false_and, and_false, and_self, implies_true, i1_0, i0_1, one_ne, reduceIte]
  exact QC.ok h0 z0 k0 (rw_q v3) (v3.g (by unfold rW; omega)) hc (cg_q w3)
theorem q_wing (x1 : Int32) {d : ID} {Mr Mc : Mem} (hr : RI d Mr) (hc : CI d Mc) : P_12_wing_0 x1 Mr ∧ P_11_wing_0 x1 Mc ∧ QC 1 0 Mr Mc (F_12_wing_0 x1 Mr) (F_11_wing_0 x1 Mc) := by
  obtain ⟨h0, z0, k0⟩ := hr.z
  have hUW := h0.1.1.1
  have hN := hUW.1
  have hM := hUW.2.1
  have hT := hUW.2.2.1
  have ec0 : rd Mc 1561 0 = nI (uN (dU d)) := hc.1.1.2.1
  have ec1 : rd Mc 1561 1 = nI (uM (dU d)) := hc.1.1.2.2.1
  have ec2 : rd Mc 1561 2 = nI (uT (dU d)) := hc.1.1.2.2.2.1
  rw [P_12_wing_0, F_12_wing_0, P_11_wing_0, F_11_wing_0]
  generalize wr Mr 0 0 0 = M0 at *
  obtain ⟨p1, e1⟩ := roomR h0 x1
  rcases (rngN (x := x1) (N := uN (dU d)) (by omega)).symm with ⟨g1, c1⟩ | ⟨r1, hr1, rfl, g1, c1⟩
  · simp only [ec0, ec1, ec2, p1, e1, g1, c1, bdN z0 one_ne, F_12_wing_33, F_12_wing_24, F_12_wing_19, P_12_wing_33, P_12_wing_24, P_12_wing_19, F_11_wing_12, P_11_wing_12, if_true, if_false, true_imp_iff, false_imp_iff, not_true_eq_false, not_false_eq_true, true_and, and_true, false_and, and_false, and_self, implies_true, i1_0, i0_1, one_ne, reduceIte]
    exact QC.n h0 k0 hc
  obtain ⟨v1, M1, v2, v3, v4⟩ := r_laysWays h0.1.1 h0.1.2.1
  have H1 := h0.q (rw_q v3)
  have hf := farW_FW (s := dS d) hUW
  obtain ⟨t1, t2⟩ := r_wingOf H1.1.1 v4 hf.1 (r := r1) (by omega)
  obtain ⟨w1, M2, w2, w3, w4⟩ := c_renew hc.1.1 hc.1.2.1
  have C2 := hc.q (cg_q w3)
  have fc : rd M2 1561 3 = uX (dU d) := C2.1.1.2.2.2.2.1
  obtain ⟨s1, s2⟩ := c_closurea C2.1.1 w4 (bi r1)
  obtain ⟨s3, s4⟩ := c_closureb C2.1.1 w4 (bi r1)
  have e := wing_eq hUW hf hr1
  simp only [ec0, ec1, ec2, p1, e1, g1, c1, r_bad0 z0, v1, v2, w1, w2, fc, t1, t2, P_0_wingOf_0, F_0_wingOf_0, P_0_reachFrom_0, F_0_reachFrom_0, P_0_reachTo_0, F_0_reachTo_0, s1, s2, s3, s4, e, bi_of, F_12_wing_33, F_12_wing_24, F_12_wing_19, P_12_wing_33, P_12_wing_24, P_12_wing_19, F_11_wing_12, P_11_wing_12, if_true, if_false, true_imp_iff, false_imp_iff, not_true_eq_false, not_false_eq_true, true_and, and_true, false_and, and_false, and_self, implies_true, i1_0, i0_1, one_ne, reduceIte]
  exact QC.ok h0 z0 k0 (rw_q v3) (v3.g (by unfold rW; omega)) hc (cg_q w3)
theorem q_loop (x1 : Int32) {d : ID} {Mr Mc : Mem} (hr : RI d Mr) (hc : CI d Mc) : P_12_loop_0 x1 Mr ∧ P_11_loop_0 x1 Mc ∧ QC 1 0 Mr Mc (F_12_loop_0 x1 Mr) (F_11_loop_0 x1 Mc) := by
  obtain ⟨h0, z0, k0⟩ := hr.z
  have hUW := h0.1.1.1
  have hN := hUW.1
  have hM := hUW.2.1
  have hT := hUW.2.2.1
  have ec0 : rd Mc 1561 0 = nI (uN (dU d)) := hc.1.1.2.1
  have ec1 : rd Mc 1561 1 = nI (uM (dU d)) := hc.1.1.2.2.1
  have ec2 : rd Mc 1561 2 = nI (uT (dU d)) := hc.1.1.2.2.2.1
  rw [P_12_loop_0, F_12_loop_0, P_11_loop_0, F_11_loop_0]
  generalize wr Mr 0 0 0 = M0 at *
  obtain ⟨p1, e1⟩ := roomR h0 x1
  rcases (rngN (x := x1) (N := uN (dU d)) (by omega)).symm with ⟨g1, c1⟩ | ⟨r1, hr1, rfl, g1, c1⟩
  · simp only [ec0, ec1, ec2, p1, e1, g1, c1, bdN z0 one_ne, F_12_loop_24, F_12_loop_19, P_12_loop_24, P_12_loop_19, if_true, if_false, true_imp_iff, false_imp_iff, not_true_eq_false, not_false_eq_true, true_and, and_true, false_and, and_false, and_self, implies_true, i1_0, i0_1, one_ne, reduceIte]
    exact QC.n h0 k0 hc
  obtain ⟨v1, M1, v2, v3, v4⟩ := r_laysWays h0.1.1 h0.1.2.1
  have H1 := h0.q (rw_q v3)
  have hf := farW_FW (s := dS d) hUW
  obtain ⟨t1, t2⟩ := r_loop H1.1.1 H1.1.2.1 v4 hf.1 (a := r1) (by omega)
  obtain ⟨w1, M2, w2, w3, w4⟩ := c_renew hc.1.1 hc.1.2.1
  have C2 := hc.q (cg_q w3)
  have fc : rd M2 1561 3 = uX (dU d) := C2.1.1.2.2.2.2.1
  obtain ⟨s1, s2⟩ := c_joineda C2.1.1 w4 (bi r1)
  obtain ⟨s3, s4⟩ := c_fewest C2.1.1 w4 (nbA (dU d) (dS d) (bi r1)) (bi r1)
  have e := few_loop hUW hf (a := r1) (by omega)
  have q1 : P_11_loop_12 (nI r1) M2 := by
    simp only [P_11_loop_12, bi_of, P_0_oneAhead_0, F_0_oneAhead_0, s1, s2, s3, true_and, and_true, implies_true, and_self]
  have q2 : F_11_loop_12 (nI r1) M2 = .inl (some (.int (orN (lpT (dU d) (dS d) (farW (dU d) (dS d)) r1 (uM (dU d))))), M2) := by
    rw [e, F_11_loop_12, bi_of, F_0_oneAhead_0, s2, s4]
    split <;> rfl
  simp only [ec0, ec1, ec2, p1, e1, g1, c1, r_bad0 z0, v1, v2, w1, w2, fc, t1, t2, q1, q2, bi_of, F_12_loop_24, F_12_loop_19, P_12_loop_24, P_12_loop_19, if_true, if_false, true_imp_iff, false_imp_iff, not_true_eq_false, not_false_eq_true, true_and, and_true, false_and, and_false, and_self, implies_true, i1_0, i0_1, one_ne, reduceIte]
  exact QC.ok h0 z0 k0 (rw_q v3) (v3.g (by unfold rW; omega)) hc (cg_q w3)
theorem q_longest (x1 : Int32) {d : ID} {Mr Mc : Mem} (hr : RI d Mr) (hc : CI d Mc) : P_12_longest_0 x1 Mr ∧ P_11_longest_0 x1 Mc ∧ QC 0 1 Mr Mc (F_12_longest_0 x1 Mr) (F_11_longest_0 x1 Mc) := by
  obtain ⟨h0, z0, k0⟩ := hr.z
  have hUW := h0.1.1.1
  have hN := hUW.1
  have hM := hUW.2.1
  have hT := hUW.2.2.1
  have ec0 : rd Mc 1561 0 = nI (uN (dU d)) := hc.1.1.2.1
  have ec1 : rd Mc 1561 1 = nI (uM (dU d)) := hc.1.1.2.2.1
  have ec2 : rd Mc 1561 2 = nI (uT (dU d)) := hc.1.1.2.2.2.1
  rw [P_12_longest_0, F_12_longest_0, P_11_longest_0, F_11_longest_0]
  generalize wr Mr 0 0 0 = M0 at *
  rcases (rngB (x := x1) (B := 1) (by omega)).symm with ⟨g1, c1⟩ | ⟨r1, hr1, rfl, g1, c1⟩
  · have g1' : ∀ M, F_12_in_0 M x1 0 1 = 0 := g1
    have c1' : ¬ (0 ≤ x1 ∧ x1 ≤ 1) := c1
    have ne1 : ¬ (1 : Int32) = 0 := by decide
    simp only [ec0, ec1, ec2, g1', c1', bdE z0 ne1, r_bad0 z0, F_12_longest_25, F_12_longest_20, P_12_longest_25, P_12_longest_20, F_11_longest_14, P_11_longest_14, if_true, if_false, true_imp_iff, false_imp_iff, not_true_eq_false, not_false_eq_true, true_and, and_true, false_and, and_false, and_self, implies_true, i1_0, i0_1, one_ne, reduceIte]
    exact QC.e ne1 h0 k0 hc
  have g1' : ∀ M, F_12_in_0 M (nI r1) 0 1 = 1 := g1
  have c1' : 0 ≤ nI r1 ∧ nI r1 ≤ 1 := c1
  obtain ⟨v1, M1, v2, v3, v4⟩ := r_laysWays h0.1.1 h0.1.2.1
  have H1 := h0.q (rw_q v3)
  have hf := farW_FW (s := dS d) hUW
  obtain ⟨t1, t2⟩ := r_longest H1.1.1 v4 hf.1 (nI r1)
  obtain ⟨w1, M2, w2, w3, w4⟩ := c_renew hc.1.1 hc.1.2.1
  have C2 := hc.q (cg_q w3)
  have fc : rd M2 1561 3 = uX (dU d) := C2.1.1.2.2.2.2.1
  obtain ⟨s1, M3, s2, s3, s4, s5⟩ := c_unroll C2.1.1 w4 hf
  have q2 : F_11_longest_28 (nI r1) M3 = .inl (some (.int (if nI r1 = 0 then lgM (lgB (stT (dU d) (farW (dU d) (dS d))) (uN (dU d))) else lgR (lgB (stT (dU d) (farW (dU d) (dS d))) (uN (dU d))))), M3) := by
    rw [F_11_longest_28, s4, s5]
    split <;> rfl
  simp only [ec0, ec1, ec2, g1', c1', r_bad0 z0, v1, v2, w1, w2, fc, t1, t2, s1, s2, q2, bi_of, F_12_longest_25, F_12_longest_20, P_12_longest_25, P_12_longest_20, F_11_longest_14, P_11_longest_14, if_true, if_false, true_imp_iff, false_imp_iff, not_true_eq_false, not_false_eq_true, true_and, and_true, false_and, and_false, and_self, implies_true, i1_0, i0_1, one_ne, reduceIte]
  exact QC.ok h0 z0 k0 (rw_q v3) (v3.g (by unfold rW; omega)) hc ((cg_q w3).tr (cm_q s3))
theorem q_lost (x1 : Int32) {d : ID} {Mr Mc : Mem} (hr : RI d Mr) (hc : CI d Mc) : P_12_lost_0 x1 Mr ∧ P_11_lost_0 x1 Mc ∧ QC 0 1 Mr Mc (F_12_lost_0 x1 Mr) (F_11_lost_0 x1 Mc) := by
  obtain ⟨h0, z0, k0⟩ := hr.z
  have hUW := h0.1.1.1
  have hN := hUW.1
  have hM := hUW.2.1
  have hT := hUW.2.2.1
  have ec0 : rd Mc 1561 0 = nI (uN (dU d)) := hc.1.1.2.1
  have ec1 : rd Mc 1561 1 = nI (uM (dU d)) := hc.1.1.2.2.1
  have ec2 : rd Mc 1561 2 = nI (uT (dU d)) := hc.1.1.2.2.2.1
  rw [P_12_lost_0, F_12_lost_0, P_11_lost_0, F_11_lost_0]
  generalize wr Mr 0 0 0 = M0 at *
  rcases (rngB (x := x1) (B := 2) (by omega)).symm with ⟨g1, c1⟩ | ⟨r1, hr1, rfl, g1, c1⟩
  · have g1' : ∀ M, F_12_in_0 M x1 0 2 = 0 := g1
    have c1' : ¬ (0 ≤ x1 ∧ x1 ≤ 2) := c1
    have ne1 : ¬ (1 : Int32) = 0 := by decide
    simp only [ec0, ec1, ec2, g1', c1', bdE z0 ne1, r_bad0 z0, F_12_lost_25, F_12_lost_20, P_12_lost_25, P_12_lost_20, if_true, if_false, true_imp_iff, false_imp_iff, not_true_eq_false, not_false_eq_true, true_and, and_true, false_and, and_false, and_self, implies_true, i1_0, i0_1, one_ne, reduceIte]
    exact QC.e ne1 h0 k0 hc
  have g1' : ∀ M, F_12_in_0 M (nI r1) 0 2 = 1 := g1
  have c1' : 0 ≤ nI r1 ∧ nI r1 ≤ 2 := c1
  obtain ⟨v1, M1, v2, v3, v4⟩ := r_laysWays h0.1.1 h0.1.2.1
  have H1 := h0.q (rw_q v3)
  have hf := farW_FW (s := dS d) hUW
  obtain ⟨t1, t2⟩ := r_lost H1.1.1 v4 hf.1 (nI r1)
  obtain ⟨w1, M2, w2, w3, w4⟩ := c_renew hc.1.1 hc.1.2.1
  have C2 := hc.q (cg_q w3)
  have fc : rd M2 1561 3 = uX (dU d) := C2.1.1.2.2.2.2.1
  obtain ⟨s1, s2⟩ := c_closurea C2.1.1 w4 (uX (dU d))
  obtain ⟨s3, s4⟩ := c_closureb C2.1.1 w4 (uX (dU d))
  have e1 := lost_eq hUW hf
  have e2 := caught_eq hUW hf
  have e3 := c_all C2.1.1
  have q1 : P_11_lost_14 (nI r1) M2 := by
    simp only [P_11_lost_14, fc, P_0_reachFrom_0, P_0_reachTo_0, s1, s3, true_and, and_true, implies_true, and_self]
  have q2 : F_11_lost_14 (nI r1) M2 = .inl (some (.int (if nI r1 = 0 then lsT (dU d) (farW (dU d) (dS d)) (uN (dU d)) else if nI r1 = 1 then cgT (dU d) (farW (dU d) (dS d)) (uN (dU d)) else lsT (dU d) (farW (dU d) (dS d)) (uN (dU d)) &&& cgT (dU d) (farW (dU d) (dS d)) (uN (dU d)))), M2) := by
    rw [F_11_lost_14, F_0_reachFrom_0, F_0_reachTo_0, fc, s2, s4, e3, e1, e2]
    by_cases c : nI r1 = 0
    · rw [if_pos c, if_pos c]
    · rw [if_neg c, if_neg c]
      split <;> rfl
  simp only [ec0, ec1, ec2, g1', c1', r_bad0 z0, v1, v2, w1, w2, fc, t1, t2, q1, q2, bi_of, F_12_lost_25, F_12_lost_20, P_12_lost_25, P_12_lost_20, if_true, if_false, true_imp_iff, false_imp_iff, not_true_eq_false, not_false_eq_true, true_and, and_true, false_and, and_false, and_self, implies_true, i1_0, i0_1, one_ne, reduceIte]
  exact QC.ok h0 z0 k0 (rw_q v3) (v3.g (by unfold rW; omega)) hc (cg_q w3)
theorem q_round (x1 : Int32) {d : ID} {Mr Mc : Mem} (hr : RI d Mr) (hc : CI d Mc) : P_12_round_0 x1 Mr ∧ P_11_round_0 x1 Mc ∧ QC 1 0 Mr Mc (F_12_round_0 x1 Mr) (F_11_round_0 x1 Mc) := by
  obtain ⟨h0, z0, k0⟩ := hr.z
  have hUW := h0.1.1.1
  have hN := hUW.1
  have hM := hUW.2.1
  have hT := hUW.2.2.1
  have ec0 : rd Mc 1561 0 = nI (uN (dU d)) := hc.1.1.2.1
  have ec1 : rd Mc 1561 1 = nI (uM (dU d)) := hc.1.1.2.2.1
  have ec2 : rd Mc 1561 2 = nI (uT (dU d)) := hc.1.1.2.2.2.1
  rw [P_12_round_0, F_12_round_0, P_11_round_0, F_11_round_0]
  generalize wr Mr 0 0 0 = M0 at *
  obtain ⟨p1, e1⟩ := roomR h0 x1
  rcases (rngN (x := x1) (N := uN (dU d)) (by omega)).symm with ⟨g1, c1⟩ | ⟨r1, hr1, rfl, g1, c1⟩
  · simp only [ec0, ec1, ec2, p1, e1, g1, c1, bdN z0 one_ne, F_12_round_24, F_12_round_19, P_12_round_24, P_12_round_19, F_11_round_20, F_11_round_12, P_11_round_12, if_true, if_false, true_imp_iff, false_imp_iff, not_true_eq_false, not_false_eq_true, true_and, and_true, false_and, and_false, and_self, implies_true, i1_0, i0_1, one_ne, reduceIte]
    exact QC.n h0 k0 hc
  obtain ⟨v1, M1, v2, v3, x, y, v4, v5, v6⟩ := r_roundBoth h0.1.1 h0.1.2.1 hr1
  obtain ⟨w1, M2, w2, w3, w4⟩ := c_renew hc.1.1 hc.1.2.1
  have C2 := hc.q (cg_q w3)
  have fc : rd M2 1561 3 = uX (dU d) := C2.1.1.2.2.2.2.1
  obtain ⟨s1, M3, s2, s3, s4⟩ := c_goRound C2.1.1 w4 hr1
  have e := (v4.eq s4).1
  simp only [ec0, ec1, ec2, p1, e1, g1, c1, r_bad0 z0, v1, v2, w1, w2, fc, v5.1, v5.2, s1, s2, e, bi_of, F_12_round_24, F_12_round_19, P_12_round_24, P_12_round_19, F_11_round_20, F_11_round_12, P_11_round_12, if_true, if_false, true_imp_iff, false_imp_iff, not_true_eq_false, not_false_eq_true, true_and, and_true, false_and, and_false, and_self, implies_true, i1_0, i0_1, one_ne, reduceIte]
  exact QC.ok h0 z0 k0 (rwr_q v3) (v3.g (by unfold rW rR; omega)) hc ((cg_q w3).tr (cr_q s3))
theorem q_last (x1 : Int32) {d : ID} {Mr Mc : Mem} (hr : RI d Mr) (hc : CI d Mc) : P_12_last_0 x1 Mr ∧ P_11_last_0 x1 Mc ∧ QC 1 0 Mr Mc (F_12_last_0 x1 Mr) (F_11_last_0 x1 Mc) := by
  obtain ⟨h0, z0, k0⟩ := hr.z
  have hUW := h0.1.1.1
  have hN := hUW.1
  have hM := hUW.2.1
  have hT := hUW.2.2.1
  have ec0 : rd Mc 1561 0 = nI (uN (dU d)) := hc.1.1.2.1
  have ec1 : rd Mc 1561 1 = nI (uM (dU d)) := hc.1.1.2.2.1
  have ec2 : rd Mc 1561 2 = nI (uT (dU d)) := hc.1.1.2.2.2.1
  rw [P_12_last_0, F_12_last_0, P_11_last_0, F_11_last_0]
  generalize wr Mr 0 0 0 = M0 at *
  obtain ⟨p1, e1⟩ := roomR h0 x1
  rcases (rngN (x := x1) (N := uN (dU d)) (by omega)).symm with ⟨g1, c1⟩ | ⟨r1, hr1, rfl, g1, c1⟩
  · simp only [ec0, ec1, ec2, p1, e1, g1, c1, bdN z0 one_ne, F_12_last_24, F_12_last_19, P_12_last_24, P_12_last_19, F_11_last_20, F_11_last_12, P_11_last_12, if_true, if_false, true_imp_iff, false_imp_iff, not_true_eq_false, not_false_eq_true, true_and, and_true, false_and, and_false, and_self, implies_true, i1_0, i0_1, one_ne, reduceIte]
    exact QC.n h0 k0 hc
  obtain ⟨v1, M1, v2, v3, x, y, v4, v5, v6⟩ := r_roundBoth h0.1.1 h0.1.2.1 hr1
  obtain ⟨w1, M2, w2, w3, w4⟩ := c_renew hc.1.1 hc.1.2.1
  have C2 := hc.q (cg_q w3)
  have fc : rd M2 1561 3 = uX (dU d) := C2.1.1.2.2.2.2.1
  obtain ⟨s1, M3, s2, s3, s4⟩ := c_goRound C2.1.1 w4 hr1
  have e := (v4.eq s4).2
  simp only [ec0, ec1, ec2, p1, e1, g1, c1, r_bad0 z0, v1, v2, w1, w2, fc, v6.1, v6.2, s1, s2, e, bi_of, F_12_last_24, F_12_last_19, P_12_last_24, P_12_last_19, F_11_last_20, F_11_last_12, P_11_last_12, if_true, if_false, true_imp_iff, false_imp_iff, not_true_eq_false, not_false_eq_true, true_and, and_true, false_and, and_false, and_self, implies_true, i1_0, i0_1, one_ne, reduceIte]
  exact QC.ok h0 z0 k0 (rwr_q v3) (v3.g (by unfold rW rR; omega)) hc ((cg_q w3).tr (cr_q s3))
theorem q_meet (x1 x2 x3 : Int32) {d : ID} {Mr Mc : Mem} (hr : RI d Mr) (hc : CI d Mc) : P_12_meet_0 x1 x2 x3 Mr ∧ P_11_meet_0 x1 x2 x3 Mc ∧ QC 1 2 Mr Mc (F_12_meet_0 x1 x2 x3 Mr) (F_11_meet_0 x1 x2 x3 Mc) := by
  obtain ⟨h0, z0, k0⟩ := hr.z
  have hUW := h0.1.1.1
  have hN := hUW.1
  have hM := hUW.2.1
  have hT := hUW.2.2.1
  have ec0 : rd Mc 1561 0 = nI (uN (dU d)) := hc.1.1.2.1
  have ec1 : rd Mc 1561 1 = nI (uM (dU d)) := hc.1.1.2.2.1
  have ec2 : rd Mc 1561 2 = nI (uT (dU d)) := hc.1.1.2.2.2.1
  rw [P_12_meet_0, F_12_meet_0, P_11_meet_0, F_11_meet_0]
  generalize wr Mr 0 0 0 = M0 at *
  obtain ⟨p1, e1⟩ := roomR h0 x1
  obtain ⟨p2, e2⟩ := roomR h0 x2
  rcases (rngN (x := x1) (N := uN (dU d)) (by omega)).symm with ⟨g1, c1⟩ | ⟨r1, hr1, rfl, g1, c1⟩
  · simp only [ec0, ec1, ec2, p1, e1, p2, e2, g1, c1, bdN z0 one_ne, F_12_meet_55, F_12_meet_50, F_12_meet_32, F_12_meet_27, F_12_meet_22, P_12_meet_55, P_12_meet_50, P_12_meet_32, P_12_meet_27, P_12_meet_22, F_11_meet_24, P_11_meet_24, if_true, if_false, true_imp_iff, false_imp_iff, not_true_eq_false, not_false_eq_true, true_and, and_true, false_and, and_false, and_self, implies_true, i1_0, i0_1, one_ne, reduceIte]
    exact QC.n h0 k0 hc
  rcases (rngN (x := x2) (N := uN (dU d)) (by omega)).symm with ⟨g2, c2⟩ | ⟨r2, hr2, rfl, g2, c2⟩
  · simp only [ec0, ec1, ec2, p1, e1, p2, e2, g1, c1, g2, c2, bdN z0 one_ne, F_12_meet_55, F_12_meet_50, F_12_meet_32, F_12_meet_27, F_12_meet_22, P_12_meet_55, P_12_meet_50, P_12_meet_32, P_12_meet_27, P_12_meet_22, F_11_meet_24, P_11_meet_24, if_true, if_false, true_imp_iff, false_imp_iff, not_true_eq_false, not_false_eq_true, true_and, and_true, false_and, and_false, and_self, implies_true, i1_0, i0_1, one_ne, reduceIte]
    exact QC.n h0 k0 hc
  rcases (rngB (x := x3) (B := 1) (by omega)).symm with ⟨g3, c3⟩ | ⟨r3, hr3, rfl, g3, c3⟩
  · have g3' : ∀ M, F_12_in_0 M x3 0 1 = 0 := g3
    have c3' : ¬ (0 ≤ x3 ∧ x3 ≤ 1) := c3
    have ne3 : ¬ (2 : Int32) = 0 := by decide
    simp only [ec0, ec1, ec2, p1, e1, p2, e2, g1, c1, g2, c2, g3', c3', bdE z0 ne3, r_bad0 z0, F_12_meet_55, F_12_meet_50, F_12_meet_32, F_12_meet_27, F_12_meet_22, P_12_meet_55, P_12_meet_50, P_12_meet_32, P_12_meet_27, P_12_meet_22, F_11_meet_24, P_11_meet_24, if_true, if_false, true_imp_iff, false_imp_iff, not_true_eq_false, not_false_eq_true, true_and, and_true, false_and, and_false, and_self, implies_true, i1_0, i0_1, one_ne, reduceIte]
    exact QC.e ne3 h0 k0 hc
  have g3' : ∀ M, F_12_in_0 M (nI r3) 0 1 = 1 := g3
  have c3' : 0 ≤ nI r3 ∧ nI r3 ≤ 1 := c3
  obtain ⟨v1, M1, v2, v3, v4⟩ := r_laysWays h0.1.1 h0.1.2.1
  have H1 := h0.q (rw_q v3)
  have hf := farW_FW (s := dS d) hUW
  obtain ⟨t1, t2⟩ := r_meet H1.1.1 v4 hf.1 (nI r3) (a := r1) (b := r2) (by omega) (by omega)
  obtain ⟨w1, M2, w2, w3, w4⟩ := c_renew hc.1.1 hc.1.2.1
  have C2 := hc.q (cg_q w3)
  have fc : rd M2 1561 3 = uX (dU d) := C2.1.1.2.2.2.2.1
  obtain ⟨s1, M3, s2, s3, s4, s5⟩ := c_bring C2.1.1 w4 hf hr1 hr2
  have q2 : F_11_meet_37 (nI r3) M3 = .inl (some (.int (if nI r3 = 0 then orN (mtB (farW (dU d) (dS d)) r1 r2 (uN (dU d))).1 else (mtB (farW (dU d) (dS d)) r1 r2 (uN (dU d))).2)), M3) := by
    rw [F_11_meet_37, s4, s5]
    split <;> rfl
  simp only [ec0, ec1, ec2, p1, e1, p2, e2, g1, c1, g2, c2, g3', c3', r_bad0 z0, v1, v2, w1, w2, fc, t1, t2, s1, s2, q2, bi_of, F_12_meet_55, F_12_meet_50, F_12_meet_32, F_12_meet_27, F_12_meet_22, P_12_meet_55, P_12_meet_50, P_12_meet_32, P_12_meet_27, P_12_meet_22, F_11_meet_24, P_11_meet_24, if_true, if_false, true_imp_iff, false_imp_iff, not_true_eq_false, not_false_eq_true, true_and, and_true, false_and, and_false, and_self, implies_true, i1_0, i0_1, one_ne, reduceIte]
  exact QC.ok h0 z0 k0 (rw_q v3) (v3.g (by unfold rW; omega)) hc ((cg_q w3).tr (cm_q s3))
theorem q_next (x1 x2 : Int32) {d : ID} {Mr Mc : Mem} (hr : RI d Mr) (hc : CI d Mc) : P_12_next_0 x1 x2 Mr ∧ P_11_next_0 x1 x2 Mc ∧ QC 1 0 Mr Mc (F_12_next_0 x1 x2 Mr) (F_11_next_0 x1 x2 Mc) := by
  obtain ⟨h0, z0, k0⟩ := hr.z
  have hUW := h0.1.1.1
  have hN := hUW.1
  have hM := hUW.2.1
  have hT := hUW.2.2.1
  have ec0 : rd Mc 1561 0 = nI (uN (dU d)) := hc.1.1.2.1
  have ec1 : rd Mc 1561 1 = nI (uM (dU d)) := hc.1.1.2.2.1
  have ec2 : rd Mc 1561 2 = nI (uT (dU d)) := hc.1.1.2.2.2.1
  rw [P_12_next_0, F_12_next_0, P_11_next_0, F_11_next_0]
  generalize wr Mr 0 0 0 = M0 at *
  obtain ⟨p1, e1⟩ := roomR h0 x1
  obtain ⟨p2, e2⟩ := roomR h0 x2
  rcases (rngN (x := x1) (N := uN (dU d)) (by omega)).symm with ⟨g1, c1⟩ | ⟨r1, hr1, rfl, g1, c1⟩
  · simp only [ec0, ec1, ec2, p1, e1, p2, e2, g1, c1, bdN z0 one_ne, F_12_next_32, F_12_next_27, F_12_next_22, P_12_next_32, P_12_next_27, P_12_next_22, F_11_next_17, P_11_next_17, if_true, if_false, true_imp_iff, false_imp_iff, not_true_eq_false, not_false_eq_true, true_and, and_true, false_and, and_false, and_self, implies_true, i1_0, i0_1, one_ne, reduceIte]
    exact QC.n h0 k0 hc
  rcases (rngN (x := x2) (N := uN (dU d)) (by omega)).symm with ⟨g2, c2⟩ | ⟨r2, hr2, rfl, g2, c2⟩
  · simp only [ec0, ec1, ec2, p1, e1, p2, e2, g1, c1, g2, c2, bdN z0 one_ne, F_12_next_32, F_12_next_27, F_12_next_22, P_12_next_32, P_12_next_27, P_12_next_22, F_11_next_17, P_11_next_17, if_true, if_false, true_imp_iff, false_imp_iff, not_true_eq_false, not_false_eq_true, true_and, and_true, false_and, and_false, and_self, implies_true, i1_0, i0_1, one_ne, reduceIte]
    exact QC.n h0 k0 hc
  obtain ⟨v1, M1, v2, v3, v4⟩ := r_laysWays h0.1.1 h0.1.2.1
  have H1 := h0.q (rw_q v3)
  have hf := farW_FW (s := dS d) hUW
  obtain ⟨w1, M2, w2, w3, w4⟩ := c_renew hc.1.1 hc.1.2.1
  have C2 := hc.q (cg_q w3)
  have fc : rd M2 1561 3 = uX (dU d) := C2.1.1.2.2.2.2.1
  obtain ⟨s1, s2⟩ := c_firstDoor C2.1.1 C2.1.2.1 w4 hf hr1 hr2
  have t2 : rd M1 (497 + r1) r2 = nI (farW (dU d) (dS d) r1 r2) := v4 r1 r2 (by omega) (by omega)
  have t9 := hf.1 r1 r2 (by omega) (by omega)
  have va : vp_in (nI r1) 10 := (vp_iff (by omega)).mpr (by omega)
  have vb : vp_in (nI r2) 10 := (vp_iff (by omega)).mpr (by omega)
  have ee : (nI r1 = nI r2) ↔ r1 = r2 := nI_eq (by omega) (by omega)
  have el : (nI (farW (dU d) (dS d) r1 r2) < 999) ↔ farW (dU d) (dS d) r1 r2 < 999 := nI_ltI (b := 999) (by omega) (by omega)
  have q : P_12_next_41 (nI r1) (nI r2) M1 ∧ F_12_next_41 (nI r1) (nI r2) M1 = (if r1 = r2 ∨ ¬ farW (dU d) (dS d) r1 r2 < 999 then -1 else orM (fst? (nxP (dU d) (dS d) (farW (dU d) (dS d)) r1 r2) (uM (dU d)) 0), M1) := by
    rw [P_12_next_41, F_12_next_41, nI_clamp (n := r1) (by omega), nI_clamp (n := r2) (by omega), t2]
    by_cases c1 : r1 = r2
    · have c2 := ee.mpr c1
      rw [if_pos c2, if_pos (Or.inl c1)]
      simp only [c2, va, vb, true_imp_iff, not_true_eq_false, false_imp_iff, and_self, and_true, true_and, implies_true]
    · have c2 : ¬ nI r1 = nI r2 := fun y => c1 (ee.mp y)
      rw [if_neg c2]
      by_cases c3 : farW (dU d) (dS d) r1 r2 < 999
      · obtain ⟨u1, u2⟩ := r_next H1.1.1 H1.1.2.1 v4 hf.1 (a := r1) (b := r2) (by omega) (by omega) (nx_ex hUW hf (by omega) (by omega) c1 c3)
        have c4 := el.mpr c3
        have c5 : ¬ (r1 = r2 ∨ ¬ farW (dU d) (dS d) r1 r2 < 999) := fun y => y.elim c1 (fun w => w c3)
        rw [if_pos c4, if_neg c5, u2]
        simp only [c2, c4, u1, va, vb, not_false_eq_true, true_imp_iff, not_true_eq_false, false_imp_iff, and_self, and_true, true_and, implies_true]
      · have c4 : ¬ nI (farW (dU d) (dS d) r1 r2) < 999 := fun y => c3 (el.mp y)
        rw [if_neg c4, if_pos (Or.inr c3)]
        simp only [c2, c4, va, vb, not_false_eq_true, true_imp_iff, not_true_eq_false, false_imp_iff, and_self, and_true, true_and, implies_true]
  simp only [ec0, ec1, ec2, p1, e1, p2, e2, g1, c1, g2, c2, r_bad0 z0, v1, v2, w1, w2, fc, q.1, q.2, s1, s2, bi_of, F_12_next_32, F_12_next_27, F_12_next_22, P_12_next_32, P_12_next_27, P_12_next_22, F_11_next_17, P_11_next_17, if_true, if_false, true_imp_iff, false_imp_iff, not_true_eq_false, not_false_eq_true, true_and, and_true, false_and, and_false, and_self, implies_true, i1_0, i0_1, one_ne, reduceIte]
  exact QC.ok h0 z0 k0 (rw_q v3) (v3.g (by unfold rW; omega)) hc (cg_q w3)
theorem q_cuts {d : ID} {Mr Mc : Mem} (hr : RI d Mr) (hc : CI d Mc) : P_12_cuts_0  Mr ∧ P_11_cuts_0  Mc ∧ QD Mr Mc (F_12_cuts_0  Mr) (F_11_cuts_0  Mc) := by
  obtain ⟨h0, z0, k0⟩ := hr.z
  have hUW := h0.1.1.1
  have hN := hUW.1
  have hM := hUW.2.1
  have hT := hUW.2.2.1
  have ec0 : rd Mc 1561 0 = nI (uN (dU d)) := hc.1.1.2.1
  have ec1 : rd Mc 1561 1 = nI (uM (dU d)) := hc.1.1.2.2.1
  have ec2 : rd Mc 1561 2 = nI (uT (dU d)) := hc.1.1.2.2.2.1
  rw [P_12_cuts_0, F_12_cuts_0, P_11_cuts_0, F_11_cuts_0]
  generalize wr Mr 0 0 0 = M0 at *
  obtain ⟨v1, M1, v2, v3, v4⟩ := r_laysWays h0.1.1 h0.1.2.1
  have H1 := h0.q (rw_q v3)
  have hf := farW_FW (s := dS d) hUW
  obtain ⟨t1, t2⟩ := r_cuts H1.1.1 v4 hf
  obtain ⟨w1, M2, w2, w3, w4⟩ := c_renew hc.1.1 hc.1.2.1
  have C2 := hc.q (cg_q w3)
  have fc : rd M2 1561 3 = uX (dU d) := C2.1.1.2.2.2.2.1
  obtain ⟨s1, s2⟩ := c_cuts C2.1.1 w4 hf
  simp only [ec0, ec1, ec2, r_bad0 z0, v1, v2, w1, w2, fc, t1, t2, s1, s2, bi_of, F_11_cuts_7, P_11_cuts_7, if_true, if_false, true_imp_iff, false_imp_iff, not_true_eq_false, not_false_eq_true, true_and, and_true, false_and, and_false, and_self, implies_true, i1_0, i0_1, one_ne, reduceIte]
  exact QD.ok h0 k0 (rw_q v3) hc (cg_q w3)
