/-! MATHEMATICS 46: the beginnings and ends of a text -/
def rBg (c j : Nat) : Prop := c = 0 ∧ (j = 1 ∨ j = 2 ∨ j = 4 ∨ j = 5 ∨ j = 6 ∨ j = 7 ∨ j = 8)
theorem r_starts {tb : Nat → Nat} {n : Nat} {M : Mem} (hn : n ≤ 600) (hT : ∀ i, i < n → rd M 1 i = nI (tb i) ∧ tb i < 256) : P_12_starts_0 (nI n) M ∧ ∃ M', F_12_starts_0 (nI n) M = M' ∧ RT tb n (skT tb n 0) M' ∧ rd M' 0 1 = 0 ∧ rd M' 0 6 = -1 ∧ rd M' 0 7 = 0 ∧ rd M' 0 8 = 0 ∧ Kp rBg M M' := by
  rw [P_12_starts_0, F_12_starts_0, F_12_starts_39]
  have hK : Kp rBg M (wr (wr (wr (wr (wr (wr (wr M 0 1 0) 0 2 (nI n)) 0 4 0) 0 5 0) 0 6 (-1)) 0 7 0) 0 8 0) := ((((((Kp.rf.w ⟨rfl, by omega⟩).w ⟨rfl, by omega⟩).w ⟨rfl, by omega⟩).w ⟨rfl, by omega⟩).w ⟨rfl, by omega⟩).w ⟨rfl, by omega⟩).w ⟨rfl, by omega⟩
  have a1 : rd (wr (wr (wr (wr (wr (wr (wr M 0 1 0) 0 2 (nI n)) 0 4 0) 0 5 0) 0 6 (-1)) 0 7 0) 0 8 0) 0 1 = 0 := by simp [rd_wr]
  have a2 : rd (wr (wr (wr (wr (wr (wr (wr M 0 1 0) 0 2 (nI n)) 0 4 0) 0 5 0) 0 6 (-1)) 0 7 0) 0 8 0) 0 2 = nI n := by simp [rd_wr]
  have a4 : rd (wr (wr (wr (wr (wr (wr (wr M 0 1 0) 0 2 (nI n)) 0 4 0) 0 5 0) 0 6 (-1)) 0 7 0) 0 8 0) 0 4 = 0 := by simp [rd_wr]
  have a5 : rd (wr (wr (wr (wr (wr (wr (wr M 0 1 0) 0 2 (nI n)) 0 4 0) 0 5 0) 0 6 (-1)) 0 7 0) 0 8 0) 0 5 = 0 := by simp [rd_wr]
  have a6 : rd (wr (wr (wr (wr (wr (wr (wr M 0 1 0) 0 2 (nI n)) 0 4 0) 0 5 0) 0 6 (-1)) 0 7 0) 0 8 0) 0 6 = -1 := by simp [rd_wr]
  have a7 : rd (wr (wr (wr (wr (wr (wr (wr M 0 1 0) 0 2 (nI n)) 0 4 0) 0 5 0) 0 6 (-1)) 0 7 0) 0 8 0) 0 7 = 0 := by simp [rd_wr]
  have a8 : rd (wr (wr (wr (wr (wr (wr (wr M 0 1 0) 0 2 (nI n)) 0 4 0) 0 5 0) 0 6 (-1)) 0 7 0) 0 8 0) 0 8 = 0 := rd_s _ _ _ _
  generalize wr (wr (wr (wr (wr (wr (wr M 0 1 0) 0 2 (nI n)) 0 4 0) 0 5 0) 0 6 (-1)) 0 7 0) 0 8 0 = M1 at *
  have T : RT tb n 0 M1 := ⟨⟨hn, a2, fun i hi => by rw [hK.g (by unfold rBg; omega)]; exact hT i hi⟩, a4, Nat.zero_le _, a5⟩
  obtain ⟨b1, M2, b2, b3, b4⟩ := r_bl T
  rw [b2]
  refine ⟨b1, M2, rfl, b3, ?_, ?_, ?_, ?_, hK.tr (b4.mono (fun c j z => by unfold r4 at z; unfold rBg; omega))⟩
  · rw [b4.g (by unfold r4; omega)]; exact a1
  · rw [b4.g (by unfold r4; omega)]; exact a6
  · rw [b4.g (by unfold r4; omega)]; exact a7
  · rw [b4.g (by unfold r4; omega)]; exact a8
theorem d0_w : DW d0U := by
  refine ⟨⟨?_, ?_, ?_, ?_, ?_, ?_⟩, ?_⟩
  · show 0 ≤ 10
    omega
  · show 0 ≤ 24
    omega
  · show 0 ≤ 6
    omega
  · intro i _; exact b_0 i
  · intro d hd; exact absurd (show d < 0 from hd) (by omega)
  · intro d hd; exact absurd (show d < 0 from hd) (by omega)
  · intro d hd; exact absurd (show d < 0 from hd) (by omega)
theorem r_tells {M : Mem} : P_12_tellsNothing_0 M ∧ ∃ M', F_12_tellsNothing_0 M = M' ∧ RD d0U M' ∧ Kp rD M M' := by
  rw [P_12_tellsNothing_0, F_12_tellsNothing_0]
  have e4 : ∀ i, i ≤ 4 → (((4 : Int32) ≤ nI i) ↔ 4 ≤ i) := fun i hi => nI_leI (a := 4) (by omega) (by omega)
  have e10 : ∀ i, i ≤ 10 → (((10 : Int32) ≤ nI i) ↔ 10 ≤ i) := fun i hi => nI_leI (a := 10) (by omega) (by omega)
  have two : ∀ M1 : Mem, Kp rD M M1 → (∀ j, j < 4 → rd M1 3 j = 0) → P_12_tellsNothing_22 FU (nI 0) M1 ∧ ∃ M', F_12_tellsNothing_22 FU (nI 0) M1 = M' ∧ RD d0U M' ∧ Kp rD M M' := by
    intro M1 hK h3
    refine lq (S := Mem) (F := fun n i q => F_12_tellsNothing_22 n i q) (P := fun n i q => P_12_tellsNothing_22 n i q) (Q := fun a => ∃ M', a = M' ∧ RD d0U M' ∧ Kp rD M M') (10) (fun i q => Kp rD M q ∧ (∀ j, j < 4 → rd q 3 j = 0) ∧ ∀ j, j < i → rd q 7 j = 16) ?_ ?_ FU 0 M1 ⟨hK, h3, fun j h => by omega⟩ (Nat.zero_le _) (FU_ge (by omega))
    · intro n i q hi hI ih
      have hg := ih (wr q 7 i 16) ⟨hI.1.w (Or.inr (Or.inr (Or.inl rfl))), fun j hj => by rw [rd_c (by decide)]; exact hI.2.1 j hj, fun j hj => by
        by_cases e : j = i
        · rw [e, rd_s]
        · rw [rd_i e]; exact hI.2.2 j (by omega)⟩
      have v1 : vp_in (nI i) 10 := (vp_iff (by omega)).mpr hi
      have c1 : ¬ 10 ≤ i := by omega
      rw [P_12_tellsNothing_22, F_12_tellsNothing_22, nI_clamp (n := i) (by omega)]
      simp only [e10 i (by omega), c1, v1, if_true, if_false, true_imp_iff, false_imp_iff, not_true_eq_false, not_false_eq_true, true_and, and_true, implies_true, reduceIte]
      exact hg
    · intro n q hI
      rw [P_12_tellsNothing_22, F_12_tellsNothing_22]
      simp only [e10 10 (by omega), Nat.le_refl, if_true, if_false, true_imp_iff, false_imp_iff, not_true_eq_false, not_false_eq_true, true_and, and_true, implies_true, reduceIte]
      refine ⟨q, rfl, ⟨d0_w, hI.2.1 0 (by omega), hI.2.1 1 (by omega), hI.2.1 2 (by omega), hI.2.1 3 (by omega), fun e he => absurd (show e < 0 from he) (by omega), fun e he => absurd (show e < 0 from he) (by omega), fun r _ hr => hI.2.2 r hr, fun e he => absurd (show e < 0 from he) (by omega)⟩, hI.1⟩
  refine lq (S := Mem) (F := fun n i q => F_12_tellsNothing_2 n i q) (P := fun n i q => P_12_tellsNothing_2 n i q) (Q := fun a => ∃ M', a = M' ∧ RD d0U M' ∧ Kp rD M M') (4) (fun i q => Kp rD M q ∧ (∀ j, j < i → rd q 3 j = 0)) ?_ ?_ FU 0 M ⟨Kp.rf, fun j h => by omega⟩ (Nat.zero_le _) (FU_ge (by omega))
  · intro n i q hi hI ih
    have hg := ih (wr q 3 i 0) ⟨hI.1.w (Or.inl rfl), fun j hj => by
      by_cases e : j = i
      · rw [e, rd_s]
      · rw [rd_i e]; exact hI.2 j (by omega)⟩
    have v1 : vp_in (nI i) 4 := (vp_iff (by omega)).mpr hi
    have c1 : ¬ 4 ≤ i := by omega
    rw [P_12_tellsNothing_2, F_12_tellsNothing_2, nI_clamp (n := i) (by omega)]
    simp only [e4 i (by omega), c1, v1, if_true, if_false, true_imp_iff, false_imp_iff, not_true_eq_false, not_false_eq_true, true_and, and_true, implies_true, reduceIte]
    exact hg
  · intro n q hI
    rw [P_12_tellsNothing_2, F_12_tellsNothing_2]
    simp only [e4 4 (by omega), Nat.le_refl, if_true, if_false, true_imp_iff, false_imp_iff, not_true_eq_false, not_false_eq_true, true_and, and_true, implies_true, reduceIte]
    exact two q hI.1 hI.2
theorem c_clear {M : Mem} : P_4_clear_0 M ∧ ∃ M', F_4_clear_0 M = M' ∧ CD d0U M' ∧ Kp cD M M' := by
  rw [P_4_clear_0, F_4_clear_0]
  have e8 : ∀ i, i ≤ 8 → (((8 : Int32) ≤ nI i) ↔ 8 ≤ i) := fun i hi => nI_leI (a := 8) (by omega) (by omega)
  have hK : Kp cD M (wr (wr (wr (wr M 1572 0 0) 1572 1 0) 1572 2 0) 1572 3 0) := (((Kp.rf.w (Or.inr ⟨by omega, by omega⟩)).w (Or.inr ⟨by omega, by omega⟩)).w (Or.inr ⟨by omega, by omega⟩)).w (Or.inr ⟨by omega, by omega⟩)
  have h0 : ∀ j, j < 4 → rd (wr (wr (wr (wr M 1572 0 0) 1572 1 0) 1572 2 0) 1572 3 0) 1572 j = 0 := by
    intro j hj
    simp only [rd_wr, true_and]
    by_cases c3 : j = 3
    · rw [if_pos c3]
    rw [if_neg c3]
    by_cases c2 : j = 2
    · rw [if_pos c2]
    rw [if_neg c2]
    by_cases c1 : j = 1
    · rw [if_pos c1]
    rw [if_neg c1, if_pos (by omega)]
  generalize wr (wr (wr (wr M 1572 0 0) 1572 1 0) 1572 2 0) 1572 3 0 = M1 at *
  refine lq (S := Mem) (F := fun n i q => F_4_clear_22 n i q) (P := fun n i q => P_4_clear_22 n i q) (Q := fun a => ∃ M', a = M' ∧ CD d0U M' ∧ Kp cD M M') (8) (fun i q => Kp cD M q ∧ (∀ j, j < 4 → rd q 1572 j = 0) ∧ ∀ j, j < i → rd q 1577 j = 0) ?_ ?_ FU 0 M1 ⟨hK, h0, fun j h => by omega⟩ (Nat.zero_le _) (FU_ge (by omega))
  · intro n i q hi hI ih
    have hg := ih (wr q 1577 i 0) ⟨hI.1.w (Or.inr ⟨by omega, by omega⟩), fun j hj => by rw [rd_c (by decide)]; exact hI.2.1 j hj, fun j hj => by
      by_cases e : j = i
      · rw [e, rd_s]
      · rw [rd_i e]; exact hI.2.2 j (by omega)⟩
    have v1 : vp_in (nI i) 8 := (vp_iff (by omega)).mpr hi
    have c1 : ¬ 8 ≤ i := by omega
    rw [P_4_clear_22, F_4_clear_22, nI_clamp (n := i) (by omega)]
    simp only [e8 i (by omega), c1, v1, if_true, if_false, true_imp_iff, false_imp_iff, not_true_eq_false, not_false_eq_true, true_and, and_true, implies_true, reduceIte]
    exact hg
  · intro n q hI
    rw [P_4_clear_22, F_4_clear_22]
    simp only [e8 8 (by omega), Nat.le_refl, if_true, if_false, true_imp_iff, false_imp_iff, not_true_eq_false, not_false_eq_true, true_and, and_true, implies_true, reduceIte]
    refine ⟨q, rfl, ⟨⟨d0_w.1, hI.2.1 0 (by omega), hI.2.1 1 (by omega), hI.2.1 2 (by omega), hI.2.1 3 (by omega), fun e he => absurd (show e < 0 from he) (by omega), fun e he => absurd (show e < 0 from he) (by omega), fun v hv r => ?_⟩, d0_w, fun e he => absurd (show e < 0 from he) (by omega)⟩, hI.1⟩
    have : rd q (1572 + 5) v = 0 := hI.2.2 v hv
    rw [this, b_0]
    show false = (decide (r < 0) && _)
    simp
/-! the law's text -/
theorem lMany_sk {tb : Nat → Nat} {n p : Nat} {op : Nat → Option Int32} {one : Nat → TRs LwP} (h : one (skT tb n p) = one p) : lMany tb n op one (skT tb n p) = lMany tb n op one p := by unfold lMany; rw [h]
theorem lOne_sk {tb : Nat → Nat} {n o p : Nat} {rec : Nat → Nat → TRs LwP} (hp : p ≤ n) : lOne tb n rec o (skT tb n p) = lOne tb n rec o p := by
  unfold lOne
  rw [sk_sk hp, tkN_sk hp]
theorem lSum_sk {tb : Nat → Nat} {n k o p : Nat} (hp : p ≤ n) : lSum tb n (k + 1) o (skT tb n p) = lSum tb n (k + 1) o p := by
  rw [lSum, lSum]
  exact lMany_sk (lMany_sk (lOne_sk hp))
def lawA (tb : Nat → Nat) (n : Nat) : TRs (List Int32) := bnd (lSum tb n 8 0 0) (fun x => if skT tb n x.2 < n then .inl (1, skT tb n x.2) else .inr x.1)
theorem lawA_w {tb : Nat → Nat} {n : Nat} {L : List Int32} (hn : n ≤ 150) (h : lawA tb n = .inr L) : LW L ∧ 0 < L.length := by
  have g := gd_sum (tb := tb) (n := n) 8 0 0 (by omega) (by omega) (Nat.zero_le _)
  unfold lawA at h
  cases o : lSum tb n 8 0 0 with
  | inl e => rw [o] at h; cases h
  | inr x =>
    rw [o] at h g
    obtain ⟨g1, g2, g3, g4⟩ := g
    have h' : (if skT tb n x.2 < n then (.inl (1, skT tb n x.2) : TRs (List Int32)) else .inr x.1) = .inr L := h
    by_cases c : skT tb n x.2 < n
    · rw [if_pos c] at h'; cases h'
    · rw [if_neg c] at h'
      cases h'
      refine ⟨⟨by omega, ?_⟩, by omega⟩
      have := g4 [] 0 (by omega) rfl
      rw [List.append_nil] at this
      exact this
