/-! MATHEMATICS 75: questions of what is told, both sides (printed by gen/q4.py) -/
theorem sumD_cnt {p : Nat → Bool} : ∀ k, sumD (fun d => if p d = true then 1 else 0) k = nI (cnt p k) := by
  intro k
  induction k with
  | zero => rfl
  | succ k ih => rw [sumD, ih, cnt, nI_b]
theorem bc_doors {u : MU} {x : Int32} {p : Nat → Bool} {M : Mem} (hm : uM u ≤ 24) (h : ∀ d, bt x d = (decide (d < uM u) && p d)) : F_6_bitCount_0f7a4_0 M x = nI (cnt p (uM u)) := by
  rw [bcount (fun i h1 h2 => by rw [h, decide_eq_false (by omega), Bool.false_and]), cnt_ext (m := uM u) hm (fun i h1 h2 => by rw [h, decide_eq_false (by omega), Bool.false_and])]
  rw [cnt_cg (fun i hi => by rw [h i, decide_eq_true hi, Bool.true_and])]
theorem q_told (x1 : Int32) {d : ID} {Mr Mc : Mem} (hr : RI d Mr) (hc : CI d Mc) : P_12_told_0 x1 Mr ∧ P_11_told_0 x1 Mc ∧ QC 0 1 Mr Mc (F_12_told_0 x1 Mr) (F_11_told_0 x1 Mc) := by
  obtain ⟨h0, z0, k0⟩ := hr.z
  have hUW := h0.1.1.1
  have hN := hUW.1
  have hM := hUW.2.1
  have hT := hUW.2.2.1
  have ec0 : rd Mc 1561 0 = nI (uN (dU d)) := hc.1.1.2.1
  have ec1 : rd Mc 1561 1 = nI (uM (dU d)) := hc.1.1.2.2.1
  have ec2 : rd Mc 1561 2 = nI (uT (dU d)) := hc.1.1.2.2.2.1
  rw [P_12_told_0, F_12_told_0, P_11_told_0, F_11_told_0]
  generalize wr Mr 0 0 0 = M0 at *
  rcases (rngB (x := x1) (B := 9) (by omega)).symm with ⟨g1, c1⟩ | ⟨r1, hr1, rfl, g1, c1⟩
  · have g1' : ∀ M, F_12_in_0 M x1 0 9 = 0 := g1
    have c1' : ¬ (0 ≤ x1 ∧ x1 ≤ 9) := c1
    have ne1 : ¬ (1 : Int32) = 0 := by decide
    simp only [ec0, ec1, ec2, g1', c1', bdE z0 ne1, r_bad0 z0, F_12_told_26, F_12_told_21, P_12_told_26, P_12_told_21, F_11_told_106, if_true, if_false, true_imp_iff, false_imp_iff, not_true_eq_false, not_false_eq_true, true_and, and_true, false_and, and_false, and_self, implies_true, i1_0, i0_1, one_ne, reduceIte]
    exact QC.e ne1 h0 k0 hc
  have g1' : ∀ M, F_12_in_0 M (nI r1) 0 9 = 1 := g1
  have c1' : 0 ≤ nI r1 ∧ nI r1 ≤ 9 := c1
  obtain ⟨a0, a1, a2, a3, a4, a5⟩ := h0.1.2.1
  obtain ⟨b0, b1, b2, b3, b4, b5, b6⟩ := hc.1.2.1
  have hH := a0.1
  have cs : r1 = 0 ∨ r1 = 1 ∨ r1 = 2 ∨ r1 = 3 ∨ r1 = 4 ∨ r1 = 5 ∨ r1 = 6 ∨ r1 = 7 ∨ r1 = 8 ∨ r1 = 9 := by omega
  rcases cs with rfl | rfl | rfl | rfl | rfl | rfl | rfl | rfl | rfl | rfl
  · have n0 : (nI 0 = 0) = True := eq_true rfl
    have n1 : (nI 0 = 1) = False := eq_false (by decide)
    have n2 : (nI 0 = 2) = False := eq_false (by decide)
    have n3 : (nI 0 = 3) = False := eq_false (by decide)
    have n4 : (nI 0 = 4) = False := eq_false (by decide)
    have n5 : (nI 0 = 5) = False := eq_false (by decide)
    have n6 : (nI 0 = 6) = False := eq_false (by decide)
    have n7 : (nI 0 = 7) = False := eq_false (by decide)
    have n8 : (nI 0 = 8) = False := eq_false (by decide)
    have n9 : (nI 0 = 9) = False := eq_false (by decide)
    have vk : vp_in (nI 0) 4 := (vp_iff (by omega)).mpr (by omega)
    have f : rd M0 4 0 = nI (uN (dU d)) := h0.1.1.2.1
    simp only [ec0, ec1, ec2, g1', c1', r_bad0 z0, bi_of, n0, n1, n2, n3, n4, n5, n6, n7, n8, n9, nI_clamp (n := 0) (by omega), vk, f, F_12_told_26, F_12_told_21, P_12_told_26, P_12_told_21, F_11_told_106, if_true, if_false, true_imp_iff, false_imp_iff, not_true_eq_false, not_false_eq_true, true_and, and_true, false_and, and_false, and_self, implies_true, i1_0, i0_1, one_ne, reduceIte]
    exact QC.ok h0 z0 k0 Kp.rf rfl hc Kp.rf
  · have n0 : (nI 1 = 0) = False := eq_false (by decide)
    have n1 : (nI 1 = 1) = True := eq_true rfl
    have n2 : (nI 1 = 2) = False := eq_false (by decide)
    have n3 : (nI 1 = 3) = False := eq_false (by decide)
    have n4 : (nI 1 = 4) = False := eq_false (by decide)
    have n5 : (nI 1 = 5) = False := eq_false (by decide)
    have n6 : (nI 1 = 6) = False := eq_false (by decide)
    have n7 : (nI 1 = 7) = False := eq_false (by decide)
    have n8 : (nI 1 = 8) = False := eq_false (by decide)
    have n9 : (nI 1 = 9) = False := eq_false (by decide)
    have vk : vp_in (nI 1) 4 := (vp_iff (by omega)).mpr (by omega)
    have f : rd M0 4 1 = nI (uM (dU d)) := h0.1.1.2.2.1
    simp only [ec0, ec1, ec2, g1', c1', r_bad0 z0, bi_of, n0, n1, n2, n3, n4, n5, n6, n7, n8, n9, nI_clamp (n := 1) (by omega), vk, f, F_12_told_26, F_12_told_21, P_12_told_26, P_12_told_21, F_11_told_106, if_true, if_false, true_imp_iff, false_imp_iff, not_true_eq_false, not_false_eq_true, true_and, and_true, false_and, and_false, and_self, implies_true, i1_0, i0_1, one_ne, reduceIte]
    exact QC.ok h0 z0 k0 Kp.rf rfl hc Kp.rf
  · have n0 : (nI 2 = 0) = False := eq_false (by decide)
    have n1 : (nI 2 = 1) = False := eq_false (by decide)
    have n2 : (nI 2 = 2) = True := eq_true rfl
    have n3 : (nI 2 = 3) = False := eq_false (by decide)
    have n4 : (nI 2 = 4) = False := eq_false (by decide)
    have n5 : (nI 2 = 5) = False := eq_false (by decide)
    have n6 : (nI 2 = 6) = False := eq_false (by decide)
    have n7 : (nI 2 = 7) = False := eq_false (by decide)
    have n8 : (nI 2 = 8) = False := eq_false (by decide)
    have n9 : (nI 2 = 9) = False := eq_false (by decide)
    have vk : vp_in (nI 2) 4 := (vp_iff (by omega)).mpr (by omega)
    have f : rd M0 4 2 = nI (uT (dU d)) := h0.1.1.2.2.2.1
    simp only [ec0, ec1, ec2, g1', c1', r_bad0 z0, bi_of, n0, n1, n2, n3, n4, n5, n6, n7, n8, n9, nI_clamp (n := 2) (by omega), vk, f, F_12_told_26, F_12_told_21, P_12_told_26, P_12_told_21, F_11_told_106, if_true, if_false, true_imp_iff, false_imp_iff, not_true_eq_false, not_false_eq_true, true_and, and_true, false_and, and_false, and_self, implies_true, i1_0, i0_1, one_ne, reduceIte]
    exact QC.ok h0 z0 k0 Kp.rf rfl hc Kp.rf
  · have n0 : (nI 3 = 0) = False := eq_false (by decide)
    have n1 : (nI 3 = 1) = False := eq_false (by decide)
    have n2 : (nI 3 = 2) = False := eq_false (by decide)
    have n3 : (nI 3 = 3) = True := eq_true rfl
    have n4 : (nI 3 = 4) = False := eq_false (by decide)
    have n5 : (nI 3 = 5) = False := eq_false (by decide)
    have n6 : (nI 3 = 6) = False := eq_false (by decide)
    have n7 : (nI 3 = 7) = False := eq_false (by decide)
    have n8 : (nI 3 = 8) = False := eq_false (by decide)
    have n9 : (nI 3 = 9) = False := eq_false (by decide)
    simp only [ec0, ec1, ec2, g1', c1', r_bad0 z0, bi_of, n0, n1, n2, n3, n4, n5, n6, n7, n8, n9, nI_clamp (n := 3) (by omega), cl55, a5, b1, F_12_told_26, F_12_told_21, P_12_told_26, P_12_told_21, F_11_told_106, if_true, if_false, true_imp_iff, false_imp_iff, not_true_eq_false, not_false_eq_true, true_and, and_true, false_and, and_false, and_self, implies_true, i1_0, i0_1, one_ne, reduceIte]
    exact QC.ok h0 z0 k0 Kp.rf rfl hc Kp.rf
  · have n0 : (nI 4 = 0) = False := eq_false (by decide)
    have n1 : (nI 4 = 1) = False := eq_false (by decide)
    have n2 : (nI 4 = 2) = False := eq_false (by decide)
    have n3 : (nI 4 = 3) = False := eq_false (by decide)
    have n4 : (nI 4 = 4) = True := eq_true rfl
    have n5 : (nI 4 = 5) = False := eq_false (by decide)
    have n6 : (nI 4 = 6) = False := eq_false (by decide)
    have n7 : (nI 4 = 7) = False := eq_false (by decide)
    have n8 : (nI 4 = 8) = False := eq_false (by decide)
    have n9 : (nI 4 = 9) = False := eq_false (by decide)
    obtain ⟨v1, M1, v2, v3⟩ := r_told4 h0.1
    obtain ⟨w1, M2, w2, w3⟩ := c_openDoors hc.1 (h := sH (dS d)) (by omega)
    have bc : F_6_bitCount_0f7a4_0 M2 (opS (dU d) (dS d) (dL d) (sH (dS d))) = nI (opC (dU d) (dS d) (dL d) (sH (dS d))) := bc_doors hM (b_opS hM)
    simp only [ec0, ec1, ec2, g1', c1', r_bad0 z0, bi_of, n0, n1, n2, n3, n4, n5, n6, n7, n8, n9, nI_clamp (n := 4) (by omega), b1, v1, v2, w1, w2, bc, F_12_told_26, F_12_told_21, P_12_told_26, P_12_told_21, F_11_told_106, if_true, if_false, true_imp_iff, false_imp_iff, not_true_eq_false, not_false_eq_true, true_and, and_true, false_and, and_false, and_self, implies_true, i1_0, i0_1, one_ne, reduceIte]
    exact QC.ok h0 z0 k0 (ro_q v3) (v3.g (by unfold rO; omega)) hc (co_q w3)
  · have n0 : (nI 5 = 0) = False := eq_false (by decide)
    have n1 : (nI 5 = 1) = False := eq_false (by decide)
    have n2 : (nI 5 = 2) = False := eq_false (by decide)
    have n3 : (nI 5 = 3) = False := eq_false (by decide)
    have n4 : (nI 5 = 4) = False := eq_false (by decide)
    have n5 : (nI 5 = 5) = True := eq_true rfl
    have n6 : (nI 5 = 6) = False := eq_false (by decide)
    have n7 : (nI 5 = 7) = False := eq_false (by decide)
    have n8 : (nI 5 = 8) = False := eq_false (by decide)
    have n9 : (nI 5 = 9) = False := eq_false (by decide)
    obtain ⟨v1, v2⟩ := r_sumOf h0.1.1 (b := 6) (by omega)
    have v1' : P_12_sumOf_0 M0 6 := v1
    have v2' : F_12_sumOf_0 M0 6 = nI (cnt (sB (dS d)) (uM (dU d))) := by
      have : F_12_sumOf_0 M0 6 = _ := v2
      rw [this, sumD_cg (g := fun d_1 => if sB (dS d) d_1 = true then 1 else 0) (fun e he => a2 e he), sumD_cnt]
    have bc : F_6_bitCount_0f7a4_0 Mc (rd Mc 1622 2) = nI (cnt (sB (dS d)) (uM (dU d))) := bc_doors hM b3
    simp only [ec0, ec1, ec2, g1', c1', r_bad0 z0, bi_of, n0, n1, n2, n3, n4, n5, n6, n7, n8, n9, nI_clamp (n := 5) (by omega), v1', v2', bc, F_12_told_26, F_12_told_21, P_12_told_26, P_12_told_21, F_11_told_106, if_true, if_false, true_imp_iff, false_imp_iff, not_true_eq_false, not_false_eq_true, true_and, and_true, false_and, and_false, and_self, implies_true, i1_0, i0_1, one_ne, reduceIte]
    exact QC.ok h0 z0 k0 Kp.rf rfl hc Kp.rf
  · have n0 : (nI 6 = 0) = False := eq_false (by decide)
    have n1 : (nI 6 = 1) = False := eq_false (by decide)
    have n2 : (nI 6 = 2) = False := eq_false (by decide)
    have n3 : (nI 6 = 3) = False := eq_false (by decide)
    have n4 : (nI 6 = 4) = False := eq_false (by decide)
    have n5 : (nI 6 = 5) = False := eq_false (by decide)
    have n6 : (nI 6 = 6) = True := eq_true rfl
    have n7 : (nI 6 = 7) = False := eq_false (by decide)
    have n8 : (nI 6 = 8) = False := eq_false (by decide)
    have n9 : (nI 6 = 9) = False := eq_false (by decide)
    obtain ⟨v1, v2⟩ := r_sumOf h0.1.1 (b := 30) (by omega)
    have v1' : P_12_sumOf_0 M0 30 := v1
    have v2' : F_12_sumOf_0 M0 30 = sumD (sU (dS d)) (uM (dU d)) := by
      have : F_12_sumOf_0 M0 30 = _ := v2
      rw [this, sumD_cg (g := sU (dS d)) (fun e he => a3 e he)]
    obtain ⟨w1, w2⟩ := c_usedInAll (M := Mc)
    have w3 : sumD (fun d => rd Mc 1623 d) 24 = sumD (sU (dS d)) (uM (dU d)) := by
      rw [sumD_z hM (fun e h1 h2 => b5 e h1 h2), sumD_cg (g := sU (dS d)) (fun e he => b4 e he)]
    simp only [ec0, ec1, ec2, g1', c1', r_bad0 z0, bi_of, n0, n1, n2, n3, n4, n5, n6, n7, n8, n9, nI_clamp (n := 6) (by omega), v1', v2', w1, w2, w3, F_12_told_26, F_12_told_21, P_12_told_26, P_12_told_21, F_11_told_106, if_true, if_false, true_imp_iff, false_imp_iff, not_true_eq_false, not_false_eq_true, true_and, and_true, false_and, and_false, and_self, implies_true, i1_0, i0_1, one_ne, reduceIte]
    exact QC.ok h0 z0 k0 Kp.rf rfl hc Kp.rf
  · have n0 : (nI 7 = 0) = False := eq_false (by decide)
    have n1 : (nI 7 = 1) = False := eq_false (by decide)
    have n2 : (nI 7 = 2) = False := eq_false (by decide)
    have n3 : (nI 7 = 3) = False := eq_false (by decide)
    have n4 : (nI 7 = 4) = False := eq_false (by decide)
    have n5 : (nI 7 = 5) = False := eq_false (by decide)
    have n6 : (nI 7 = 6) = False := eq_false (by decide)
    have n7 : (nI 7 = 7) = True := eq_true rfl
    have n8 : (nI 7 = 8) = False := eq_false (by decide)
    have n9 : (nI 7 = 9) = False := eq_false (by decide)
    simp only [ec0, ec1, ec2, g1', c1', r_bad0 z0, bi_of, n0, n1, n2, n3, n4, n5, n6, n7, n8, n9, nI_clamp (n := 7) (by omega), cl54, a4, b2, F_12_told_26, F_12_told_21, P_12_told_26, P_12_told_21, F_11_told_106, if_true, if_false, true_imp_iff, false_imp_iff, not_true_eq_false, not_false_eq_true, true_and, and_true, false_and, and_false, and_self, implies_true, i1_0, i0_1, one_ne, reduceIte]
    exact QC.ok h0 z0 k0 Kp.rf rfl hc Kp.rf
  · have n0 : (nI 8 = 0) = False := eq_false (by decide)
    have n1 : (nI 8 = 1) = False := eq_false (by decide)
    have n2 : (nI 8 = 2) = False := eq_false (by decide)
    have n3 : (nI 8 = 3) = False := eq_false (by decide)
    have n4 : (nI 8 = 4) = False := eq_false (by decide)
    have n5 : (nI 8 = 5) = False := eq_false (by decide)
    have n6 : (nI 8 = 6) = False := eq_false (by decide)
    have n7 : (nI 8 = 7) = False := eq_false (by decide)
    have n8 : (nI 8 = 8) = True := eq_true rfl
    have n9 : (nI 8 = 9) = False := eq_false (by decide)
    have f : rd M0 0 35 = nI (dW d).1 := h0.2.1.2.1
    have g : rd Mc 1592 7 = nI (dW d).1 := hc.2.1.2.1
    simp only [ec0, ec1, ec2, g1', c1', r_bad0 z0, bi_of, n0, n1, n2, n3, n4, n5, n6, n7, n8, n9, nI_clamp (n := 8) (by omega), f, g, F_12_told_26, F_12_told_21, P_12_told_26, P_12_told_21, F_11_told_106, if_true, if_false, true_imp_iff, false_imp_iff, not_true_eq_false, not_false_eq_true, true_and, and_true, false_and, and_false, and_self, implies_true, i1_0, i0_1, one_ne, reduceIte]
    exact QC.ok h0 z0 k0 Kp.rf rfl hc Kp.rf
  · have n0 : (nI 9 = 0) = False := eq_false (by decide)
    have n1 : (nI 9 = 1) = False := eq_false (by decide)
    have n2 : (nI 9 = 2) = False := eq_false (by decide)
    have n3 : (nI 9 = 3) = False := eq_false (by decide)
    have n4 : (nI 9 = 4) = False := eq_false (by decide)
    have n5 : (nI 9 = 5) = False := eq_false (by decide)
    have n6 : (nI 9 = 6) = False := eq_false (by decide)
    have n7 : (nI 9 = 7) = False := eq_false (by decide)
    have n8 : (nI 9 = 8) = False := eq_false (by decide)
    have n9 : (nI 9 = 9) = True := eq_true rfl
    have f : rd M0 0 37 = dR d := h0.2.2.2.2.2.2.1
    have g : rd Mc 1558 5 = dR d := hc.2.2.2.2.2.2.1
    simp only [ec0, ec1, ec2, g1', c1', r_bad0 z0, bi_of, n0, n1, n2, n3, n4, n5, n6, n7, n8, n9, nI_clamp (n := 9) (by omega), f, g, F_12_told_26, F_12_told_21, P_12_told_26, P_12_told_21, F_11_told_106, if_true, if_false, true_imp_iff, false_imp_iff, not_true_eq_false, not_false_eq_true, true_and, and_true, false_and, and_false, and_self, implies_true, i1_0, i0_1, one_ne, reduceIte]
    exact QC.ok h0 z0 k0 Kp.rf rfl hc Kp.rf
theorem q_room (x1 x2 : Int32) {d : ID} {Mr Mc : Mem} (hr : RI d Mr) (hc : CI d Mc) : P_12_room_0 x1 x2 Mr ∧ P_11_room_0 x1 x2 Mc ∧ QC 1 2 Mr Mc (F_12_room_0 x1 x2 Mr) (F_11_room_0 x1 x2 Mc) := by
  obtain ⟨h0, z0, k0⟩ := hr.z
  have hUW := h0.1.1.1
  have hN := hUW.1
  have hM := hUW.2.1
  have hT := hUW.2.2.1
  have ec0 : rd Mc 1561 0 = nI (uN (dU d)) := hc.1.1.2.1
  have ec1 : rd Mc 1561 1 = nI (uM (dU d)) := hc.1.1.2.2.1
  have ec2 : rd Mc 1561 2 = nI (uT (dU d)) := hc.1.1.2.2.2.1
  rw [P_12_room_0, F_12_room_0, P_11_room_0, F_11_room_0]
  generalize wr Mr 0 0 0 = M0 at *
  obtain ⟨p1, e1⟩ := roomR h0 x1
  rcases (rngN (x := x1) (N := uN (dU d)) (by omega)).symm with ⟨g1, c1⟩ | ⟨r1, hr1, rfl, g1, c1⟩
  · simp only [ec0, ec1, ec2, p1, e1, g1, c1, bdN z0 one_ne, F_12_room_133, F_12_room_47, F_12_room_42, F_12_room_24, F_12_room_19, P_12_room_47, P_12_room_42, P_12_room_24, P_12_room_19, F_11_room_110, F_11_room_138, P_11_room_110, P_11_room_138, if_true, if_false, true_imp_iff, false_imp_iff, not_true_eq_false, not_false_eq_true, true_and, and_true, false_and, and_false, and_self, implies_true, i1_0, i0_1, one_ne, reduceIte]
    exact QC.n h0 k0 hc
  rcases (rngB (x := x2) (B := 5) (by omega)).symm with ⟨g2, c2⟩ | ⟨r2, hr2, rfl, g2, c2⟩
  · have g2' : ∀ M, F_12_in_0 M x2 0 5 = 0 := g2
    have c2' : ¬ (0 ≤ x2 ∧ x2 ≤ 5) := c2
    have ne2 : ¬ (2 : Int32) = 0 := by decide
    simp only [ec0, ec1, ec2, p1, e1, g1, c1, g2', c2', bdE z0 ne2, r_bad0 z0, F_12_room_133, F_12_room_47, F_12_room_42, F_12_room_24, F_12_room_19, P_12_room_47, P_12_room_42, P_12_room_24, P_12_room_19, F_11_room_110, F_11_room_138, P_11_room_110, P_11_room_138, if_true, if_false, true_imp_iff, false_imp_iff, not_true_eq_false, not_false_eq_true, true_and, and_true, false_and, and_false, and_self, implies_true, i1_0, i0_1, one_ne, reduceIte]
    exact QC.e ne2 h0 k0 hc
  have g2' : ∀ M, F_12_in_0 M (nI r2) 0 5 = 1 := g2
  have c2' : 0 ≤ nI r2 ∧ nI r2 ≤ 5 := c2
  obtain ⟨a0, a1, a2, a3, a4, a5⟩ := h0.1.2.1
  obtain ⟨b0, b1, b2, b3, b4, b5, b6⟩ := hc.1.2.1
  have hH := a0.1
  have vr : vp_in (nI r1) 10 := (vp_iff (by omega)).mpr (by omega)
  have f6 := h0.1.1.2.2.2.2.2.2 r1 hr1
  have fc := hc.1.1.2.2.2.2.2.2.1 r1 hr1
  have cs : r2 = 0 ∨ r2 = 1 ∨ r2 = 2 ∨ r2 = 3 ∨ r2 = 4 ∨ r2 = 5 := by omega
  rcases cs with rfl | rfl | rfl | rfl | rfl | rfl
  · have n0 : (nI 0 = 0) = True := eq_true rfl
    have n1 : (nI 0 = 1) = False := eq_false (by decide)
    have n2 : (nI 0 = 2) = False := eq_false (by decide)
    have n3 : (nI 0 = 3) = False := eq_false (by decide)
    have n4 : (nI 0 = 4) = False := eq_false (by decide)
    have n5 : (nI 0 = 5) = False := eq_false (by decide)
    have q1 : rd M0 6 r1 = nI (uE (dU d) r1) := f6.1
    have q2 : rd Mc 1562 r1 = nI (uE (dU d) r1) := fc.1
    simp only [ec0, ec1, ec2, p1, e1, g1, c1, g2', c2', r_bad0 z0, bi_of, n0, n1, n2, n3, n4, n5, nI_clamp (n := 0) (by omega), vr, nI_clamp (n := r1) (by omega), q1, q2, F_12_room_133, F_12_room_47, F_12_room_42, F_12_room_24, F_12_room_19, P_12_room_47, P_12_room_42, P_12_room_24, P_12_room_19, F_11_room_110, F_11_room_138, P_11_room_110, P_11_room_138, if_true, if_false, true_imp_iff, false_imp_iff, not_true_eq_false, not_false_eq_true, true_and, and_true, false_and, and_false, and_self, implies_true, i1_0, i0_1, one_ne, reduceIte]
    exact QC.ok h0 z0 k0 Kp.rf rfl hc Kp.rf
  · have n0 : (nI 1 = 0) = False := eq_false (by decide)
    have n1 : (nI 1 = 1) = True := eq_true rfl
    have n2 : (nI 1 = 2) = False := eq_false (by decide)
    have n3 : (nI 1 = 3) = False := eq_false (by decide)
    have n4 : (nI 1 = 4) = False := eq_false (by decide)
    have n5 : (nI 1 = 5) = False := eq_false (by decide)
    obtain ⟨q1, q2⟩ := r_isExit h0.1.1 (r := r1) (by omega)
    have q3 : rd Mc 1561 3 = uX (dU d) := hc.1.1.2.2.2.2.1
    have q4 := b_sh (x := uX (dU d)) (i := r1) (by omega)
    have q5 : (if (if bt (uX (dU d)) r1 = true then (1 : Int32) else 0) = 0 then ((0 : Int32), M0) else (1, M0)) = (if bt (uX (dU d)) r1 = true then 1 else 0, M0) := by
      by_cases c : bt (uX (dU d)) r1 = true
      · rw [if_pos c, if_neg one_ne]
      · rw [if_neg c, if_pos rfl]
    simp only [ec0, ec1, ec2, p1, e1, g1, c1, g2', c2', r_bad0 z0, bi_of, n0, n1, n2, n3, n4, n5, nI_clamp (n := 1) (by omega), q1, q2, q3, q4, q5, F_12_room_133, F_12_room_47, F_12_room_42, F_12_room_24, F_12_room_19, P_12_room_47, P_12_room_42, P_12_room_24, P_12_room_19, F_11_room_110, F_11_room_138, P_11_room_110, P_11_room_138, if_true, if_false, true_imp_iff, false_imp_iff, not_true_eq_false, not_false_eq_true, true_and, and_true, false_and, and_false, and_self, implies_true, i1_0, i0_1, one_ne, reduceIte]
    exact QC.ok h0 z0 k0 Kp.rf rfl hc Kp.rf
  · have n0 : (nI 2 = 0) = False := eq_false (by decide)
    have n1 : (nI 2 = 1) = False := eq_false (by decide)
    have n2 : (nI 2 = 2) = True := eq_true rfl
    have n3 : (nI 2 = 3) = False := eq_false (by decide)
    have n4 : (nI 2 = 4) = False := eq_false (by decide)
    have n5 : (nI 2 = 5) = False := eq_false (by decide)
    have q1 : rd M0 8 r1 = nI (uL (dU d) r1) := f6.2
    have q2 : rd Mc 1563 r1 = nI (uL (dU d) r1) := fc.2.1
    simp only [ec0, ec1, ec2, p1, e1, g1, c1, g2', c2', r_bad0 z0, bi_of, n0, n1, n2, n3, n4, n5, nI_clamp (n := 2) (by omega), vr, nI_clamp (n := r1) (by omega), q1, q2, F_12_room_133, F_12_room_47, F_12_room_42, F_12_room_24, F_12_room_19, P_12_room_47, P_12_room_42, P_12_room_24, P_12_room_19, F_11_room_110, F_11_room_138, P_11_room_110, P_11_room_138, if_true, if_false, true_imp_iff, false_imp_iff, not_true_eq_false, not_false_eq_true, true_and, and_true, false_and, and_false, and_self, implies_true, i1_0, i0_1, one_ne, reduceIte]
    exact QC.ok h0 z0 k0 Kp.rf rfl hc Kp.rf
  · have n0 : (nI 3 = 0) = False := eq_false (by decide)
    have n1 : (nI 3 = 1) = False := eq_false (by decide)
    have n2 : (nI 3 = 2) = False := eq_false (by decide)
    have n3 : (nI 3 = 3) = True := eq_true rfl
    have n4 : (nI 3 = 4) = False := eq_false (by decide)
    have n5 : (nI 3 = 5) = False := eq_false (by decide)
    obtain ⟨q1, q2⟩ := r_toursIn h0.1.1 h0.1.2.1 hr1
    obtain ⟨q3, q4⟩ := c_toursIn hc.1.1 hc.1.2.1 (r := r1) (by omega)
    simp only [ec0, ec1, ec2, p1, e1, g1, c1, g2', c2', r_bad0 z0, bi_of, n0, n1, n2, n3, n4, n5, nI_clamp (n := 3) (by omega), q1, q2, q3, q4, F_12_room_133, F_12_room_47, F_12_room_42, F_12_room_24, F_12_room_19, P_12_room_47, P_12_room_42, P_12_room_24, P_12_room_19, F_11_room_110, F_11_room_138, P_11_room_110, P_11_room_138, if_true, if_false, true_imp_iff, false_imp_iff, not_true_eq_false, not_false_eq_true, true_and, and_true, false_and, and_false, and_self, implies_true, i1_0, i0_1, one_ne, reduceIte]
    exact QC.ok h0 z0 k0 Kp.rf rfl hc Kp.rf
  · have n0 : (nI 4 = 0) = False := eq_false (by decide)
    have n1 : (nI 4 = 1) = False := eq_false (by decide)
    have n2 : (nI 4 = 2) = False := eq_false (by decide)
    have n3 : (nI 4 = 3) = False := eq_false (by decide)
    have n4 : (nI 4 = 4) = True := eq_true rfl
    have n5 : (nI 4 = 5) = False := eq_false (by decide)
    obtain ⟨v1, M1, v2, v3⟩ := r_doorsOf h0.1 (r := r1) (e := 0) (h := sH (dS d)) hr1 (by omega) (by omega)
    have n4' : nI 4 - 4 = nI 0 := by decide
    obtain ⟨w1, M2, w2, w3⟩ := c_openDoors hc.1 (h := sH (dS d)) (by omega)
    have C2 := hc.q (co_q w3)
    have fd := (C2.1.1.2.2.2.2.2.2.1 r1 hr1).2.2.1
    have bc : F_6_bitCount_0f7a4_0 M2 (opS (dU d) (dS d) (dL d) (sH (dS d)) &&& rd M2 1564 r1) = nI (dOf (dU d) (dS d) (dL d) 0 r1 (sH (dS d))) := by
      refine bc_doors hM (fun e => ?_)
      rw [b_and, b_opS hM, fd e]
      show _ = (decide (e < uM (dU d)) && (decide (uEn (dU d) 0 e = r1) && opn (dU d) (dS d) (dL d) e (sH (dS d))))
      have eu : uEn (dU d) 0 e = uF (dU d) e := rfl
      rw [eu]
      cases decide (e < uM (dU d)) <;> cases decide (uF (dU d) e = r1) <;> cases opn (dU d) (dS d) (dL d) e (sH (dS d)) <;> rfl
    simp only [ec0, ec1, ec2, p1, e1, g1, c1, g2', c2', r_bad0 z0, bi_of, n0, n1, n2, n3, n4, n5, nI_clamp (n := 4) (by omega), cl55, a5, b1, vr, nI_clamp (n := r1) (by omega), n4', v1, v2, w1, w2, bc, F_12_room_133, F_12_room_47, F_12_room_42, F_12_room_24, F_12_room_19, P_12_room_47, P_12_room_42, P_12_room_24, P_12_room_19, F_11_room_110, F_11_room_138, P_11_room_110, P_11_room_138, if_true, if_false, true_imp_iff, false_imp_iff, not_true_eq_false, not_false_eq_true, true_and, and_true, false_and, and_false, and_self, implies_true, i1_0, i0_1, one_ne, reduceIte]
    exact QC.ok h0 z0 k0 (ro_q v3) (v3.g (by unfold rO; omega)) hc (co_q w3)
  · have n0 : (nI 5 = 0) = False := eq_false (by decide)
    have n1 : (nI 5 = 1) = False := eq_false (by decide)
    have n2 : (nI 5 = 2) = False := eq_false (by decide)
    have n3 : (nI 5 = 3) = False := eq_false (by decide)
    have n4 : (nI 5 = 4) = False := eq_false (by decide)
    have n5 : (nI 5 = 5) = True := eq_true rfl
    obtain ⟨v1, M1, v2, v3⟩ := r_doorsOf h0.1 (r := r1) (e := 1) (h := sH (dS d)) hr1 (by omega) (by omega)
    have n4' : nI 5 - 4 = nI 1 := by decide
    obtain ⟨w1, M2, w2, w3⟩ := c_openDoors hc.1 (h := sH (dS d)) (by omega)
    have C2 := hc.q (co_q w3)
    have fd := (C2.1.1.2.2.2.2.2.2.1 r1 hr1).2.2.2
    have bc : F_6_bitCount_0f7a4_0 M2 (opS (dU d) (dS d) (dL d) (sH (dS d)) &&& rd M2 1565 r1) = nI (dOf (dU d) (dS d) (dL d) 1 r1 (sH (dS d))) := by
      refine bc_doors hM (fun e => ?_)
      rw [b_and, b_opS hM, fd e]
      show _ = (decide (e < uM (dU d)) && (decide (uEn (dU d) 1 e = r1) && opn (dU d) (dS d) (dL d) e (sH (dS d))))
      have eu : uEn (dU d) 1 e = uG (dU d) e := rfl
      rw [eu]
      cases decide (e < uM (dU d)) <;> cases decide (uG (dU d) e = r1) <;> cases opn (dU d) (dS d) (dL d) e (sH (dS d)) <;> rfl
    simp only [ec0, ec1, ec2, p1, e1, g1, c1, g2', c2', r_bad0 z0, bi_of, n0, n1, n2, n3, n4, n5, nI_clamp (n := 5) (by omega), cl55, a5, b1, vr, nI_clamp (n := r1) (by omega), n4', v1, v2, w1, w2, bc, F_12_room_133, F_12_room_47, F_12_room_42, F_12_room_24, F_12_room_19, P_12_room_47, P_12_room_42, P_12_room_24, P_12_room_19, F_11_room_110, F_11_room_138, P_11_room_110, P_11_room_138, if_true, if_false, true_imp_iff, false_imp_iff, not_true_eq_false, not_false_eq_true, true_and, and_true, false_and, and_false, and_self, implies_true, i1_0, i0_1, one_ne, reduceIte]
    exact QC.ok h0 z0 k0 (ro_q v3) (v3.g (by unfold rO; omega)) hc (co_q w3)
theorem q_door (x1 x2 : Int32) {d : ID} {Mr Mc : Mem} (hr : RI d Mr) (hc : CI d Mc) : P_12_door_0 x1 x2 Mr ∧ P_11_door_0 x1 x2 Mc ∧ QC 1 2 Mr Mc (F_12_door_0 x1 x2 Mr) (F_11_door_0 x1 x2 Mc) := by
  obtain ⟨h0, z0, k0⟩ := hr.z
  have hUW := h0.1.1.1
  have hN := hUW.1
  have hM := hUW.2.1
  have hT := hUW.2.2.1
  have ec0 : rd Mc 1561 0 = nI (uN (dU d)) := hc.1.1.2.1
  have ec1 : rd Mc 1561 1 = nI (uM (dU d)) := hc.1.1.2.2.1
  have ec2 : rd Mc 1561 2 = nI (uT (dU d)) := hc.1.1.2.2.2.1
  rw [P_12_door_0, F_12_door_0, P_11_door_0, F_11_door_0]
  generalize wr Mr 0 0 0 = M0 at *
  obtain ⟨p1, e1⟩ := doorR h0 x1
  rcases (rngN (x := x1) (N := uM (dU d)) (by omega)).symm with ⟨g1, c1⟩ | ⟨r1, hr1, rfl, g1, c1⟩
  · simp only [ec0, ec1, ec2, p1, e1, g1, c1, bdN z0 one_ne, F_12_door_48, F_12_door_43, F_12_door_24, F_12_door_19, P_12_door_48, P_12_door_43, P_12_door_24, P_12_door_19, if_true, if_false, true_imp_iff, false_imp_iff, not_true_eq_false, not_false_eq_true, true_and, and_true, false_and, and_false, and_self, implies_true, i1_0, i0_1, one_ne, reduceIte]
    exact QC.n h0 k0 hc
  rcases (rngB (x := x2) (B := 6) (by omega)).symm with ⟨g2, c2⟩ | ⟨r2, hr2, rfl, g2, c2⟩
  · have g2' : ∀ M, F_12_in_0 M x2 0 6 = 0 := g2
    have c2' : ¬ (0 ≤ x2 ∧ x2 ≤ 6) := c2
    have ne2 : ¬ (2 : Int32) = 0 := by decide
    simp only [ec0, ec1, ec2, p1, e1, g1, c1, g2', c2', bdE z0 ne2, r_bad0 z0, F_12_door_48, F_12_door_43, F_12_door_24, F_12_door_19, P_12_door_48, P_12_door_43, P_12_door_24, P_12_door_19, if_true, if_false, true_imp_iff, false_imp_iff, not_true_eq_false, not_false_eq_true, true_and, and_true, false_and, and_false, and_self, implies_true, i1_0, i0_1, one_ne, reduceIte]
    exact QC.e ne2 h0 k0 hc
  have g2' : ∀ M, F_12_in_0 M (nI r2) 0 6 = 1 := g2
  have c2' : 0 ≤ nI r2 ∧ nI r2 ≤ 6 := c2
  obtain ⟨a0, a1, a2, a3, a4, a5⟩ := h0.1.2.1
  obtain ⟨b0, b1, b2, b3, b4, b5, b6⟩ := hc.1.2.1
  have hH := a0.1
  have vr : vp_in (nI r1) 24 := (vp_iff (by omega)).mpr (by omega)
  have f6 := h0.1.1.2.2.2.2.2.1 r1 hr1
  have fc := hc.1.1.2.2.2.2.2.1 r1 hr1
  have v6 : vp_in (nI (6 + r1)) 56 := (vp_iff (by omega)).mpr (by omega)
  have v30 : vp_in (nI (30 + r1)) 56 := (vp_iff (by omega)).mpr (by omega)
  have e6 : (6 : Int32) + nI r1 = nI (6 + r1) := l_add 6 r1
  have e30 : (30 : Int32) + nI r1 = nI (30 + r1) := l_add 30 r1
  have cs : r2 = 0 ∨ r2 = 1 ∨ r2 = 2 ∨ r2 = 3 ∨ r2 = 4 ∨ r2 = 5 ∨ r2 = 6 := by omega
  rcases cs with rfl | rfl | rfl | rfl | rfl | rfl | rfl
  · have n0 : (nI 0 = 0) = True := eq_true rfl
    have n1 : (nI 0 = 1) = False := eq_false (by decide)
    have n2 : (nI 0 = 2) = False := eq_false (by decide)
    have n3 : (nI 0 = 3) = False := eq_false (by decide)
    have n4 : (nI 0 = 4) = False := eq_false (by decide)
    have n5 : (nI 0 = 5) = False := eq_false (by decide)
    have n6 : (nI 0 = 6) = False := eq_false (by decide)
    have le : ((4 : Int32) ≤ nI 0) = False := eq_false (by decide)
    have vk : vp_in (nI 0) 4 := (vp_iff (by omega)).mpr (by omega)
    have q1 : rd M0 (54 + r1) 0 = _ := f6.1
    have q2 : rd Mc 1567 r1 = _ := fc.1
    simp only [ec0, ec1, ec2, p1, e1, g1, c1, g2', c2', r_bad0 z0, bi_of, n0, n1, n2, n3, n4, n5, n6, nI_clamp (n := 0) (by omega), le, vr, vk, nI_clamp (n := r1) (by omega), q1, q2, F_12_door_48, F_12_door_43, F_12_door_24, F_12_door_19, P_12_door_48, P_12_door_43, P_12_door_24, P_12_door_19, if_true, if_false, true_imp_iff, false_imp_iff, not_true_eq_false, not_false_eq_true, true_and, and_true, false_and, and_false, and_self, implies_true, i1_0, i0_1, one_ne, reduceIte]
    exact QC.ok h0 z0 k0 Kp.rf rfl hc Kp.rf
  · have n0 : (nI 1 = 0) = False := eq_false (by decide)
    have n1 : (nI 1 = 1) = True := eq_true rfl
    have n2 : (nI 1 = 2) = False := eq_false (by decide)
    have n3 : (nI 1 = 3) = False := eq_false (by decide)
    have n4 : (nI 1 = 4) = False := eq_false (by decide)
    have n5 : (nI 1 = 5) = False := eq_false (by decide)
    have n6 : (nI 1 = 6) = False := eq_false (by decide)
    have le : ((4 : Int32) ≤ nI 1) = False := eq_false (by decide)
    have vk : vp_in (nI 1) 4 := (vp_iff (by omega)).mpr (by omega)
    have q1 : rd M0 (54 + r1) 1 = _ := f6.2.1
    have q2 : rd Mc 1568 r1 = _ := fc.2.1
    simp only [ec0, ec1, ec2, p1, e1, g1, c1, g2', c2', r_bad0 z0, bi_of, n0, n1, n2, n3, n4, n5, n6, nI_clamp (n := 1) (by omega), le, vr, vk, nI_clamp (n := r1) (by omega), q1, q2, F_12_door_48, F_12_door_43, F_12_door_24, F_12_door_19, P_12_door_48, P_12_door_43, P_12_door_24, P_12_door_19, if_true, if_false, true_imp_iff, false_imp_iff, not_true_eq_false, not_false_eq_true, true_and, and_true, false_and, and_false, and_self, implies_true, i1_0, i0_1, one_ne, reduceIte]
    exact QC.ok h0 z0 k0 Kp.rf rfl hc Kp.rf
  · have n0 : (nI 2 = 0) = False := eq_false (by decide)
    have n1 : (nI 2 = 1) = False := eq_false (by decide)
    have n2 : (nI 2 = 2) = True := eq_true rfl
    have n3 : (nI 2 = 3) = False := eq_false (by decide)
    have n4 : (nI 2 = 4) = False := eq_false (by decide)
    have n5 : (nI 2 = 5) = False := eq_false (by decide)
    have n6 : (nI 2 = 6) = False := eq_false (by decide)
    have le : ((4 : Int32) ≤ nI 2) = False := eq_false (by decide)
    have vk : vp_in (nI 2) 4 := (vp_iff (by omega)).mpr (by omega)
    have q1 : rd M0 (54 + r1) 2 = _ := f6.2.2.1
    have q2 : rd Mc 1569 r1 = _ := fc.2.2.1
    simp only [ec0, ec1, ec2, p1, e1, g1, c1, g2', c2', r_bad0 z0, bi_of, n0, n1, n2, n3, n4, n5, n6, nI_clamp (n := 2) (by omega), le, vr, vk, nI_clamp (n := r1) (by omega), q1, q2, F_12_door_48, F_12_door_43, F_12_door_24, F_12_door_19, P_12_door_48, P_12_door_43, P_12_door_24, P_12_door_19, if_true, if_false, true_imp_iff, false_imp_iff, not_true_eq_false, not_false_eq_true, true_and, and_true, false_and, and_false, and_self, implies_true, i1_0, i0_1, one_ne, reduceIte]
    exact QC.ok h0 z0 k0 Kp.rf rfl hc Kp.rf
  · have n0 : (nI 3 = 0) = False := eq_false (by decide)
    have n1 : (nI 3 = 1) = False := eq_false (by decide)
    have n2 : (nI 3 = 2) = False := eq_false (by decide)
    have n3 : (nI 3 = 3) = True := eq_true rfl
    have n4 : (nI 3 = 4) = False := eq_false (by decide)
    have n5 : (nI 3 = 5) = False := eq_false (by decide)
    have n6 : (nI 3 = 6) = False := eq_false (by decide)
    have le : ((4 : Int32) ≤ nI 3) = False := eq_false (by decide)
    have vk : vp_in (nI 3) 4 := (vp_iff (by omega)).mpr (by omega)
    have q1 : rd M0 (54 + r1) 3 = _ := f6.2.2.2
    have q2 : rd Mc 1570 r1 = _ := fc.2.2.2
    simp only [ec0, ec1, ec2, p1, e1, g1, c1, g2', c2', r_bad0 z0, bi_of, n0, n1, n2, n3, n4, n5, n6, nI_clamp (n := 3) (by omega), le, vr, vk, nI_clamp (n := r1) (by omega), q1, q2, F_12_door_48, F_12_door_43, F_12_door_24, F_12_door_19, P_12_door_48, P_12_door_43, P_12_door_24, P_12_door_19, if_true, if_false, true_imp_iff, false_imp_iff, not_true_eq_false, not_false_eq_true, true_and, and_true, false_and, and_false, and_self, implies_true, i1_0, i0_1, one_ne, reduceIte]
    exact QC.ok h0 z0 k0 Kp.rf rfl hc Kp.rf
  · have n0 : (nI 4 = 0) = False := eq_false (by decide)
    have n1 : (nI 4 = 1) = False := eq_false (by decide)
    have n2 : (nI 4 = 2) = False := eq_false (by decide)
    have n3 : (nI 4 = 3) = False := eq_false (by decide)
    have n4 : (nI 4 = 4) = True := eq_true rfl
    have n5 : (nI 4 = 5) = False := eq_false (by decide)
    have n6 : (nI 4 = 6) = False := eq_false (by decide)
    have le : ((4 : Int32) ≤ nI 4) = True := eq_true (by decide)
    have q1 := a2 r1 hr1
    have q2 := b_sh (x := rd Mc 1622 2) (i := r1) (by omega)
    have q3 : bt (rd Mc 1622 2) r1 = sB (dS d) r1 := by rw [b3, decide_eq_true hr1, Bool.true_and]
    simp only [ec0, ec1, ec2, p1, e1, g1, c1, g2', c2', r_bad0 z0, bi_of, n0, n1, n2, n3, n4, n5, n6, nI_clamp (n := 4) (by omega), le, e6, v6, nI_clamp (n := 6 + r1) (by omega), q1, q2, q3, F_12_door_48, F_12_door_43, F_12_door_24, F_12_door_19, P_12_door_48, P_12_door_43, P_12_door_24, P_12_door_19, if_true, if_false, true_imp_iff, false_imp_iff, not_true_eq_false, not_false_eq_true, true_and, and_true, false_and, and_false, and_self, implies_true, i1_0, i0_1, one_ne, reduceIte]
    exact QC.ok h0 z0 k0 Kp.rf rfl hc Kp.rf
  · have n0 : (nI 5 = 0) = False := eq_false (by decide)
    have n1 : (nI 5 = 1) = False := eq_false (by decide)
    have n2 : (nI 5 = 2) = False := eq_false (by decide)
    have n3 : (nI 5 = 3) = False := eq_false (by decide)
    have n4 : (nI 5 = 4) = False := eq_false (by decide)
    have n5 : (nI 5 = 5) = True := eq_true rfl
    have n6 : (nI 5 = 6) = False := eq_false (by decide)
    have le : ((4 : Int32) ≤ nI 5) = True := eq_true (by decide)
    obtain ⟨v1, M1, v2, v3⟩ := r_open h0.1 hr1 (h := sH (dS d)) (by omega)
    obtain ⟨w1, M2, w2, w3⟩ := c_open hc.1 hr1 (h := sH (dS d)) (by omega)
    have q1 : F_12_door_88 (if opn (dU d) (dS d) (dL d) r1 (sH (dS d)) = true then 1 else 0) M1 = (if opn (dU d) (dS d) (dL d) r1 (sH (dS d)) = true then 1 else 0, M1) := by
      rw [F_12_door_88]
      by_cases c : opn (dU d) (dS d) (dL d) r1 (sH (dS d)) = true
      · rw [if_pos c, if_neg one_ne]
      · rw [if_neg c, if_pos rfl]
    have q2 : F_11_door_119 (if opn (dU d) (dS d) (dL d) r1 (sH (dS d)) = true then 1 else 0) M2 = .inl (some (.int (if opn (dU d) (dS d) (dL d) r1 (sH (dS d)) = true then 1 else 0)), M2) := by
      rw [F_11_door_119]
      by_cases c : opn (dU d) (dS d) (dL d) r1 (sH (dS d)) = true
      · rw [if_pos c, if_neg one_ne]
      · rw [if_neg c, if_pos rfl]
    simp only [ec0, ec1, ec2, p1, e1, g1, c1, g2', c2', r_bad0 z0, bi_of, n0, n1, n2, n3, n4, n5, n6, nI_clamp (n := 5) (by omega), le, cl55, a5, b1, v1, v2, w1, w2, q1, q2, F_12_door_48, F_12_door_43, F_12_door_24, F_12_door_19, P_12_door_48, P_12_door_43, P_12_door_24, P_12_door_19, if_true, if_false, true_imp_iff, false_imp_iff, not_true_eq_false, not_false_eq_true, true_and, and_true, false_and, and_false, and_self, implies_true, i1_0, i0_1, one_ne, reduceIte]
    exact QC.ok h0 z0 k0 (ro_q v3) (v3.g (by unfold rO; omega)) hc (co_q w3)
  · have n0 : (nI 6 = 0) = False := eq_false (by decide)
    have n1 : (nI 6 = 1) = False := eq_false (by decide)
    have n2 : (nI 6 = 2) = False := eq_false (by decide)
    have n3 : (nI 6 = 3) = False := eq_false (by decide)
    have n4 : (nI 6 = 4) = False := eq_false (by decide)
    have n5 : (nI 6 = 5) = False := eq_false (by decide)
    have n6 : (nI 6 = 6) = True := eq_true rfl
    have le : ((4 : Int32) ≤ nI 6) = True := eq_true (by decide)
    have q1 := a3 r1 hr1
    have q2 : rd Mc 1623 r1 = _ := b4 r1 hr1
    simp only [ec0, ec1, ec2, p1, e1, g1, c1, g2', c2', r_bad0 z0, bi_of, n0, n1, n2, n3, n4, n5, n6, nI_clamp (n := 6) (by omega), le, vr, nI_clamp (n := r1) (by omega), e30, v30, nI_clamp (n := 30 + r1) (by omega), q1, q2, F_12_door_48, F_12_door_43, F_12_door_24, F_12_door_19, P_12_door_48, P_12_door_43, P_12_door_24, P_12_door_19, if_true, if_false, true_imp_iff, false_imp_iff, not_true_eq_false, not_false_eq_true, true_and, and_true, false_and, and_false, and_self, implies_true, i1_0, i0_1, one_ne, reduceIte]
    exact QC.ok h0 z0 k0 Kp.rf rfl hc Kp.rf
theorem q_open (x1 x2 x3 : Int32) {d : ID} {Mr Mc : Mem} (hr : RI d Mr) (hc : CI d Mc) : P_12_open_0 x1 x2 x3 Mr ∧ P_11_open_0 x1 x2 x3 Mc ∧ QC 1 2 Mr Mc (F_12_open_0 x1 x2 x3 Mr) (F_11_open_0 x1 x2 x3 Mc) := by
  obtain ⟨h0, z0, k0⟩ := hr.z
  have hUW := h0.1.1.1
  have hN := hUW.1
  have hM := hUW.2.1
  have hT := hUW.2.2.1
  have ec0 : rd Mc 1561 0 = nI (uN (dU d)) := hc.1.1.2.1
  have ec1 : rd Mc 1561 1 = nI (uM (dU d)) := hc.1.1.2.2.1
  have ec2 : rd Mc 1561 2 = nI (uT (dU d)) := hc.1.1.2.2.2.1
  rw [P_12_open_0, F_12_open_0, P_11_open_0, F_11_open_0]
  generalize wr Mr 0 0 0 = M0 at *
  obtain ⟨p1, e1⟩ := doorR h0 x1
  rcases (rngN (x := x1) (N := uM (dU d)) (by omega)).symm with ⟨g1, c1⟩ | ⟨r1, hr1, rfl, g1, c1⟩
  · simp only [ec0, ec1, ec2, p1, e1, g1, c1, bdN z0 one_ne, F_12_open_74, F_12_open_58, F_12_open_53, F_12_open_48, F_12_open_24, F_12_open_19, P_12_open_74, P_12_open_58, P_12_open_53, P_12_open_48, P_12_open_24, P_12_open_19, F_11_open_35, P_11_open_35, if_true, if_false, true_imp_iff, false_imp_iff, not_true_eq_false, not_false_eq_true, true_and, and_true, false_and, and_false, and_self, implies_true, i1_0, i0_1, one_ne, reduceIte]
    exact QC.n h0 k0 hc
  rcases (rngB (x := x2) (B := 23) (by omega)).symm with ⟨g2, c2⟩ | ⟨r2, hr2, rfl, g2, c2⟩
  · have g2' : ∀ M, F_12_in_0 M x2 0 23 = 0 := g2
    have c2' : ¬ (0 ≤ x2 ∧ x2 ≤ 23) := c2
    have ne2 : ¬ (2 : Int32) = 0 := by decide
    simp only [ec0, ec1, ec2, p1, e1, g1, c1, g2', c2', bdE z0 ne2, r_bad0 z0, F_12_open_74, F_12_open_58, F_12_open_53, F_12_open_48, F_12_open_24, F_12_open_19, P_12_open_74, P_12_open_58, P_12_open_53, P_12_open_48, P_12_open_24, P_12_open_19, F_11_open_35, P_11_open_35, if_true, if_false, true_imp_iff, false_imp_iff, not_true_eq_false, not_false_eq_true, true_and, and_true, false_and, and_false, and_self, implies_true, i1_0, i0_1, one_ne, reduceIte]
    exact QC.e ne2 h0 k0 hc
  have g2' : ∀ M, F_12_in_0 M (nI r2) 0 23 = 1 := g2
  have c2' : 0 ≤ nI r2 ∧ nI r2 ≤ 23 := c2
  rcases (rngB (x := x3) (B := 99) (by omega)).symm with ⟨g3, c3⟩ | ⟨r3, hr3, rfl, g3, c3⟩
  · have g3' : ∀ M, F_12_in_0 M x3 0 99 = 0 := g3
    have c3' : ¬ (0 ≤ x3 ∧ x3 ≤ 99) := c3
    have ne3 : ¬ (2 : Int32) = 0 := by decide
    simp only [ec0, ec1, ec2, p1, e1, g1, c1, g2', c2', g3', c3', bdE z0 ne3, r_bad0 z0, F_12_open_74, F_12_open_58, F_12_open_53, F_12_open_48, F_12_open_24, F_12_open_19, P_12_open_74, P_12_open_58, P_12_open_53, P_12_open_48, P_12_open_24, P_12_open_19, F_11_open_35, P_11_open_35, if_true, if_false, true_imp_iff, false_imp_iff, not_true_eq_false, not_false_eq_true, true_and, and_true, false_and, and_false, and_self, implies_true, i1_0, i0_1, one_ne, reduceIte]
    exact QC.e ne3 h0 k0 hc
  have g3' : ∀ M, F_12_in_0 M (nI r3) 0 99 = 1 := g3
  have c3' : 0 ≤ nI r3 ∧ nI r3 ≤ 99 := c3
  obtain ⟨v1, M1, v2, v3⟩ := r_isOpenBy (h := r3 * 24 + r2) hr1 (by omega) h0.1.1 h0.1.2.1 h0.1.2.2
  have m1 : (r3 * 24 + r2) % 24 = r2 := by omega
  have m2 : (r3 * 24 + r2) / 24 = r3 := by omega
  rw [m1, m2] at v1 v2
  obtain ⟨w1, M2, w2, w3⟩ := c_open hc.1 hr1 (h := r3 * 24 + r2) (by omega)
  have e24 : nI r3 * 24 + nI r2 = nI (r3 * 24 + r2) := by rw [show (24 : Int32) = nI 24 from rfl, pk_mul, nI_add]
  have nb : narrow .boolean (.int (if opn (dU d) (dS d) (dL d) r1 (r3 * 24 + r2) = true then (1 : Int32) else 0)) = .int (if opn (dU d) (dS d) (dL d) r1 (r3 * 24 + r2) = true then 1 else 0) := nb10
  simp only [ec0, ec1, ec2, p1, e1, g1, c1, g2', c2', g3', c3', r_bad0 z0, e24, nb, v1, v2, w1, w2, bi_of, F_12_open_74, F_12_open_58, F_12_open_53, F_12_open_48, F_12_open_24, F_12_open_19, P_12_open_74, P_12_open_58, P_12_open_53, P_12_open_48, P_12_open_24, P_12_open_19, F_11_open_35, P_11_open_35, if_true, if_false, true_imp_iff, false_imp_iff, not_true_eq_false, not_false_eq_true, true_and, and_true, false_and, and_false, and_self, implies_true, i1_0, i0_1, one_ne, reduceIte]
  exact QC.ok h0 z0 k0 (ro_q v3) (v3.g (by omega)) hc (co_q w3)
