/-! MATHEMATICS 55: the calls law, both sides -/
def rB0 (c j : Nat) : Prop := (c = 0 ∧ j = 0) ∨ rBg c j
theorem r_in1 {M : Mem} {n t : Nat} (hn : n ≤ t) (ht : t ≤ 600) : F_12_in_0 M (nI n) 0 (nI t) = 1 := by
  have e0 : ¬ nI n < 0 := nI_pos (by omega)
  have e1 : ¬ nI t < nI n := by rw [nI_ltI (by omega) (by omega)]; omega
  rw [F_12_in_0, if_neg e0, if_neg e1]
theorem r_bad0 {M : Mem} {x y : Int32} (h : rd M 0 0 = 0) : P_12_bad_0 0 x y M ∧ F_12_bad_0 0 x y M = (0, M) := by
  rw [P_12_bad_0, F_12_bad_0, if_pos rfl, F_12_bad_26, if_pos h]
  exact ⟨⟨fun _ => trivial, fun z => absurd rfl z⟩, rfl⟩
theorem r_bad1 {M : Mem} (h : rd M 0 0 = 0) : P_12_bad_0 1 1 1 M ∧ F_12_bad_0 1 1 1 M = (1, wr (wr M 0 0 1) 2 1 (rd M 2 1 + 1)) := by
  rw [P_12_bad_0, F_12_bad_0, if_neg one_ne, if_pos h, cl1, rd_c (by decide), F_12_bad_26, rd_c (by decide), rd_s, if_neg one_ne]
  exact ⟨⟨fun z => absurd z one_ne, fun _ => ⟨fun z => absurd h z, fun _ => (vp_iff (i := 1) (by omega)).mpr (by omega)⟩⟩, rfl⟩
theorem r_lawG {tb : Nat → Nat} {n t : Nat} {M : Mem} (hn : n ≤ 150) (hnt : n ≤ t) (ht : t ≤ 600) (h1 : rd M 0 1 = nI t) (hT : ∀ i, i < t → rd M 1 i = nI (tb i) ∧ tb i < 256) : P_12_law_0 (nI n) M ∧ ∃ M1, Kp rB0 M M1 ∧ rd M1 0 0 = 0 ∧ rd M1 0 1 = 0 ∧ RLd (lawA tb n) M1 (F_12_law_0 (nI n) M) := by
  have K0 : Kp rB0 M (wr M 0 0 0) := Kp.rf.w (Or.inl ⟨rfl, rfl⟩)
  have a1 : rd (wr M 0 0 0) 0 1 = nI t := by rw [rd_i (by decide)]; exact h1
  have a0 : rd (wr M 0 0 0) 0 0 = 0 := rd_s _ _ _ _
  have aT : ∀ i, i < n → rd (wr M 0 0 0) 1 i = nI (tb i) ∧ tb i < 256 := fun i hi => by rw [rd_c (by decide)]; exact hT i (by omega)
  have e150 : nI n ≤ 150 := (nI_leI (b := 150) (by omega) (by omega)).mpr hn
  rw [P_12_law_0, F_12_law_0, a1, r_in1 hnt ht, if_neg one_ne, if_pos e150]
  generalize wr M 0 0 0 = M0 at *
  obtain ⟨b1, b2⟩ := r_bad0 (x := 1) (y := 1) a0
  obtain ⟨c1, M1, c2, c3, c4, c5, c6, c7, c8⟩ := r_starts (tb := tb) (by omega) aT
  obtain ⟨d1, d2⟩ := r_law45 hn c3 c7
  rw [P_12_law_30, F_12_law_30, b2, P_12_law_35, F_12_law_35, if_pos rfl, c2]
  refine ⟨⟨fun z => absurd z one_ne, fun _ => ⟨fun _ => ⟨b1, fun _ => ⟨c1, d1⟩, fun z => absurd rfl z⟩, fun z => absurd e150 z⟩⟩, M1, K0.tr (c8.mono (fun c j z => Or.inr z)), ?_, c4, d2⟩
  rw [c8.g (by unfold rBg; omega)]; exact a0
theorem r_lawB {x : Int32} {M : Mem} (hx : F_12_in_0 (wr M 0 0 0) x 0 (rd (wr M 0 0 0) 0 1) = 0 ∨ ¬ x ≤ 150) : P_12_law_0 x M ∧ F_12_law_0 x M = (0, wr (wr (wr M 0 0 0) 0 0 1) 2 1 (rd M 2 1 + 1)) := by
  have a0 : rd (wr M 0 0 0) 0 0 = 0 := rd_s _ _ _ _
  have e2 : rd (wr M 0 0 0) 2 1 = rd M 2 1 := rd_c (by decide)
  obtain ⟨b1, b2⟩ := r_bad1 a0
  have key : P_12_law_25 x (wr M 0 0 0) ∧ F_12_law_25 x (wr M 0 0 0) = (0, wr (wr (wr M 0 0 0) 0 0 1) 2 1 (rd M 2 1 + 1)) := by
    rw [P_12_law_25, F_12_law_25, P_12_law_30, F_12_law_30, b2, P_12_law_35, F_12_law_35, if_neg one_ne, e2]
    exact ⟨⟨b1, fun z => absurd z one_ne, fun _ => trivial⟩, rfl⟩
  rw [P_12_law_0, F_12_law_0]
  by_cases c : F_12_in_0 (wr M 0 0 0) x 0 (rd (wr M 0 0 0) 0 1) = 0
  · rw [if_pos c]
    exact ⟨⟨fun _ => key.1, fun z => absurd c z⟩, key.2⟩
  · rcases hx with h | h
    · exact absurd h c
    · rw [if_neg c, if_neg h]
      exact ⟨⟨fun z => absurd z c, fun _ => ⟨fun z => absurd z h, fun _ => key.1⟩⟩, key.2⟩
