/-! MATHEMATICS 49: a museum taken, in the class -/
theorem Kp.cp {p : Nat → Nat → Prop} {M M1 : Mem} (h : Kp p M M1) {a sp b dp n : Nat} (hp : ∀ j, p b j) : Kp p M (cpM M1 a sp b dp n) := by
  intro c j hn
  refine ⟨?_, (h c j hn).2⟩
  rw [rd_cp, if_neg (fun z => hn (by rw [z.1]; exact hp j))]
  exact (h c j hn).1
theorem ck8 : (8 : Int32).toNatClampNeg = 8 := by decide
theorem ck10 : (10 : Int32).toNatClampNeg = 10 := by decide
theorem ck24 : (24 : Int32).toNatClampNeg = 24 := by decide
def cCp (c _j : Nat) : Prop := 1561 ≤ c ∧ c ≤ 1571
theorem c_copy {d : DU} {M : Mem} (hd : CD d M) : CP 1561 d.1 (F_4_copyFrom_0 M) ∧ (∀ t, t < uT d.1 → rd (F_4_copyFrom_0 M) 1571 t = nI (d.2 t)) ∧ Kp cCp M (F_4_copyFrom_0 M) := by
  obtain ⟨⟨h0, h1, h2, h3, h4, h5, h6, h7⟩, h8, h9⟩ := hd
  have hN := h0.1
  have hM := h0.2.1
  have hT := h0.2.2.1
  rw [F_4_copyFrom_0, cl0, cl6, ck8, ck10, ck24]
  refine ⟨⟨h0, ?_, ?_, ?_, ?_, fun e he => ?_, fun r hr => ?_, fun v hv => ?_⟩, fun t ht => ?_, ?_⟩
  · simp only [rd_cp, rd_wr, Nat.reduceEqDiff, false_and, and_false, and_self, true_and, if_false, if_true]; exact h1
  · simp only [rd_cp, rd_wr, Nat.reduceEqDiff, false_and, and_false, and_self, true_and, if_false, if_true]; exact h2
  · simp only [rd_cp, rd_wr, Nat.reduceEqDiff, false_and, and_false, and_self, true_and, if_false, if_true]; exact h3
  · simp only [rd_cp, rd_wr, Nat.reduceEqDiff, false_and, and_false, and_self, true_and, if_false, if_true]; exact h4
  · have he' : e < 0 + 24 := by omega
    simp only [rd_cp, rd_wr, Nat.reduceAdd, Nat.reduceEqDiff, false_and, true_and, if_false, Nat.zero_le, he', and_self, if_true, Nat.sub_zero, Nat.zero_add, show e < 24 from by omega]
    exact h5 e he
  · have hr' : r < 0 + 10 := by omega
    simp only [rd_cp, rd_wr, Nat.reduceAdd, Nat.reduceEqDiff, false_and, true_and, if_false, Nat.zero_le, hr', and_self, if_true, Nat.sub_zero, Nat.zero_add, show r < 10 from by omega]
    exact h6 r hr
  · have hv' : v < 0 + 8 := by omega
    simp only [rd_cp, rd_wr, Nat.reduceAdd, Nat.reduceEqDiff, false_and, true_and, if_false, Nat.zero_le, hv', and_self, if_true, Nat.sub_zero, Nat.zero_add, show v < 8 from hv]
    exact h7 v hv
  · have ht' : t < 0 + 6 := by omega
    simp only [rd_cp, rd_wr, Nat.reduceEqDiff, false_and, true_and, if_false, Nat.zero_le, ht', and_self, if_true, Nat.sub_zero, Nat.zero_add, show t < 6 from by omega]
    exact h9 t ht
  · refine Kp.cp (Kp.cp (Kp.cp (Kp.cp (Kp.cp (Kp.cp (Kp.cp (Kp.cp (Kp.cp (Kp.cp (Kp.w (Kp.w (Kp.w (Kp.w Kp.rf ?_) ?_) ?_) ?_) ?_) ?_) ?_) ?_) ?_) ?_) ?_) ?_) ?_) ?_
    all_goals first | (intro j; exact ⟨by omega, by omega⟩) | exact ⟨by omega, by omega⟩
def cBg (c j : Nat) : Prop := c = 1622 ∨ c = 1623 ∨ c = 1624
theorem c_begin7 {d : DU} {M : Mem} (hw : DW d) (h : ∀ t, t < uT d.1 → rd M 1571 t = nI (d.2 t)) : P_7_begin_0 M ∧ ∃ M', F_7_begin_0 M = M' ∧ CR 1622 d.1 (s0U d) M' ∧ Kp cBg M M' := by
  rw [P_7_begin_0, F_7_begin_0]
  have e24 : ∀ i, i ≤ 24 → (((24 : Int32) ≤ nI i) ↔ 24 ≤ i) := fun i hi => nI_leI (a := 24) (by omega) (by omega)
  have hT := hw.1.2.2.1
  have hM := hw.1.2.1
  have K0 : Kp cBg M (wr (wr (wr M 1622 0 0) 1622 1 0) 1622 2 0) := ((Kp.rf.w (Or.inl rfl)).w (Or.inl rfl)).w (Or.inl rfl)
  have a0 : rd (wr (wr (wr M 1622 0 0) 1622 1 0) 1622 2 0) 1622 0 = 0 := by simp [rd_wr]
  have a1 : rd (wr (wr (wr M 1622 0 0) 1622 1 0) 1622 2 0) 1622 1 = 0 := by simp [rd_wr]
  have a2 : rd (wr (wr (wr M 1622 0 0) 1622 1 0) 1622 2 0) 1622 2 = 0 := rd_s _ _ _ _
  generalize wr (wr (wr M 1622 0 0) 1622 1 0) 1622 2 0 = M1 at *
  refine lq (S := Mem) (F := fun n i q => F_7_begin_17 n i q) (P := fun n i q => P_7_begin_17 n i q) (Q := fun a => ∃ M', a = M' ∧ CR 1622 d.1 (s0U d) M' ∧ Kp cBg M M') (24) (fun i q => Kp cBg M q ∧ rd q 1622 0 = 0 ∧ rd q 1622 1 = 0 ∧ rd q 1622 2 = 0 ∧ (∀ j, j < i → rd q 1623 j = 0)) ?_ ?_ FU 0 M1 ⟨K0, a0, a1, a2, fun j h => by omega⟩ (Nat.zero_le _) (FU_ge (by omega))
  · intro n i q hi hI ih
    obtain ⟨k1, k2, k3, k4, k5⟩ := hI
    have v1 : vp_in (nI i) 24 := (vp_iff (by omega)).mpr hi
    have c1 : ¬ 24 ≤ i := by omega
    have hg := ih (wr q 1623 i 0) ⟨k1.w (Or.inr (Or.inl rfl)), by rw [rd_c (by decide)]; exact k2, by rw [rd_c (by decide)]; exact k3, by rw [rd_c (by decide)]; exact k4, fun j hj => by
      by_cases e : j = i
      · rw [e, rd_s]
      · rw [rd_i e]; exact k5 j (by omega)⟩
    rw [P_7_begin_17, F_7_begin_17, nI_clamp (n := i) (by omega)]
    simp only [e24 i (by omega), c1, v1, if_true, if_false, true_imp_iff, false_imp_iff, not_true_eq_false, not_false_eq_true, true_and, and_true, implies_true, reduceIte]
    exact hg
  · intro n q hI
    obtain ⟨k1, k2, k3, k4, k5⟩ := hI
    rw [P_7_begin_17, F_7_begin_17, cl0, cl6]
    simp only [e24 24 (by omega), Nat.le_refl, if_true, if_false, true_imp_iff, false_imp_iff, not_true_eq_false, not_false_eq_true, true_and, and_true, implies_true, reduceIte]
    have g : ∀ c j, c ≠ 1624 → rd (cpM q 1571 0 1624 0 6) c j = rd q c j := fun c j hc => by rw [rd_cp, if_neg (fun z => hc z.1)]
    refine ⟨_, rfl, ⟨⟨by show (0 : Nat) ≤ 960; omega, hw.2⟩, ?_, ?_, fun e => ?_, fun e he => ?_, fun e he1 he2 => ?_, fun t ht => ?_⟩, Kp.cp k1 (fun j => Or.inr (Or.inr rfl))⟩
    · rw [g 1622 0 (by decide)]; exact k2
    · rw [g 1622 1 (by decide)]; exact k3
    · rw [g 1622 2 (by decide), k4, b_0]
      show false = (_ && false)
      rw [Bool.and_false]
    · rw [g (1622 + 1) e (by decide)]; exact k5 e (by omega)
    · rw [g (1622 + 1) e (by decide)]; exact k5 e he2
    · rw [rd_cp, if_pos ⟨rfl, Nat.zero_le _, by omega⟩, Nat.sub_zero, Nat.zero_add, k1.g (by unfold cBg; omega)]
      exact h t ht
/-- what the taking of a museum leaves in the class -/
theorem LW1 : LW [-1] := by
  refine ⟨by decide, ⟨by decide, by decide⟩, fun z => absurd z (by decide), fun _ => ⟨by decide, rfl⟩⟩
theorem c_anew {d : DU} {M : Mem} (hd : CD d M) : P_11_museum_48 (F_4_copyFrom_0 (wr M 1558 2 (-1))) ∧ ∃ M', F_11_museum_48 (F_4_copyFrom_0 (wr M 1558 2 (-1))) = .inl (some (.int (nI (uN d.1))), M') ∧ CV d.1 (s0U d) [-1] M' ∧ rd M' 1592 7 = 0 ∧ rd M' 1614 2 = 0 ∧ rd M' 1558 2 = -1 ∧ rd M' 1558 14 = 0 ∧ rd M' 1558 5 = 0 ∧ (∀ t, t < uT d.1 → rd M' 1571 t = nI (d.2 t)) ∧ Kp (fun c j => (c = 1558 ∧ (j = 2 ∨ j = 5 ∨ j = 14)) ∨ cCp c j ∨ cBg c j ∨ (c = 1614 ∧ j = 2) ∨ (c = 1583 ∧ j = 3) ∨ (c = 1584 ∧ j = 0) ∨ (c = 1592 ∧ j = 7)) M M' := by
  have K0 : Kp (fun c j => c = 1558 ∧ j = 2) M (wr M 1558 2 (-1)) := Kp.rf.w ⟨rfl, rfl⟩
  have d0 : CD d (wr M 1558 2 (-1)) := hd.g (fun c j _ _ _ => rd_c (by omega))
  have s0 : rd (wr M 1558 2 (-1)) 1558 2 = -1 := rd_s _ _ _ _
  generalize wr M 1558 2 (-1) = M0 at *
  obtain ⟨a1, a2, a3⟩ := c_copy d0
  have s1 : rd (F_4_copyFrom_0 M0) 1558 2 = -1 := by rw [a3.g (by unfold cCp; omega)]; exact s0
  generalize F_4_copyFrom_0 M0 = M1 at *
  obtain ⟨b1, M2, b2, b3, b4⟩ := c_begin7 hd.2.1 a2
  have p2 : CP 1561 d.1 M2 := a1.k b4 (fun c j z => by unfold cBg at z; omega)
  have s2 : rd M2 1558 2 = -1 := by rw [b4.g (by unfold cBg; omega)]; exact s1
  have t2 : ∀ t, t < uT d.1 → rd M2 1571 t = nI (d.2 t) := fun t ht => by rw [b4.g (by unfold cBg; omega)]; exact a2 t ht
  rw [P_11_museum_48, F_11_museum_48, P_8_begin_0, F_8_begin_0, F_8_begin_8, b2, F_11_museum_59, F_2_clear_0, F_11_museum_66, F_9_clear_0, F_11_museum_73, cl0]
  have K2 : Kp (fun c j => (c = 1558 ∧ (j = 2 ∨ j = 5 ∨ j = 14)) ∨ cCp c j ∨ cBg c j ∨ (c = 1614 ∧ j = 2) ∨ (c = 1583 ∧ j = 3) ∨ (c = 1584 ∧ j = 0) ∨ (c = 1592 ∧ j = 7)) M M2 := ((K0.mono (fun c j z => by omega)).tr (a3.mono (fun c j z => Or.inr (Or.inl z)))).tr (b4.mono (fun c j z => Or.inr (Or.inr (Or.inl z))))
  have K3 : Kp (fun c j => (c = 1558 ∧ (j = 5 ∨ j = 14)) ∨ (c = 1614 ∧ j = 2) ∨ (c = 1583 ∧ j = 3) ∨ (c = 1584 ∧ j = 0) ∨ (c = 1592 ∧ j = 7)) M2 (wr (wr (wr (wr (wr (wr M2 1614 2 0) 1584 0 (-1)) 1583 3 1) 1592 7 0) 1558 14 0) 1558 5 0) := (((((Kp.rf.w (by omega)).w (by omega)).w (by omega)).w (by omega)).w (by omega)).w (by omega)
  have eN : rd (wr (wr (wr (wr (wr (wr M2 1614 2 0) 1584 0 (-1)) 1583 3 1) 1592 7 0) 1558 14 0) 1558 5 0) 1561 0 = nI (uN d.1) := by rw [K3.g (by omega)]; exact p2.2.1
  rw [eN]
  refine ⟨b1, _, rfl, ⟨p2.k K3 (fun c j z => by omega), b3.k K3 (fun c j z => by omega), ⟨LW1, ?_, fun i hi => ?_⟩⟩, ?_, ?_, ?_, ?_, ?_, fun t ht => ?_, K2.tr (K3.mono (fun c j z => by omega))⟩
  · simp [rd_wr]; rfl
  · have : i = 0 := by have : i < 1 := hi; omega
    subst this
    simp [rd_wr]
  · simp [rd_wr]
  · simp [rd_wr]
  · rw [K3.g (by omega)]; exact s2
  · simp [rd_wr]
  · exact rd_s _ _ _ _
  · rw [K3.g (by omega)]; exact t2 t ht
