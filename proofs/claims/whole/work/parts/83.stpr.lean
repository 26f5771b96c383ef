/-! MATHEMATICS 53: the word of a step in the reference -/
def skI (tb : Nat → Nat) (n q : Nat) : Int32 := match stK tb n q with
  | some k => nI k
  | none => -1
theorem r_stepHere {tb : Nat → Nat} {n p : Nat} {M : Mem} (h : RT tb n p M) : P_12_stepHere_0 M ∧ ∃ M', F_12_stepHere_0 M = (skI tb n (skT tb n p), M') ∧ RT tb n (skT tb n p) M' ∧ Kp r4 M M' := by
  obtain ⟨g1, M1, g2, g3, g4⟩ := r_wordHere h
  have hb := sk_b (tb := tb) h.2.2.1
  have hq : skT tb n (skT tb n p) = skT tb n p := sk_sk h.2.2.1
  have e1 : (wdV tb n (skT tb n p) = 204) ↔ isW (wT 15) tb n (skT tb n p) = true := wdV_is (tb := tb) hb.2 (w := wT 15) (wT_ok 14 (by omega))
  rw [P_12_stepHere_0, F_12_stepHere_0, if_pos h.2.2.2, g2]
  simp only [h.2.2.2, g1, P_12_stepHere_11, F_12_stepHere_11, e1, if_true, if_false, true_imp_iff, false_imp_iff, not_true_eq_false, not_false_eq_true, true_and, and_true, implies_true, reduceIte]
  unfold skI stK
  generalize skT tb n p = q at *
  by_cases k0 : isW (wT 15) tb n q = true
  · simp only [k0, if_true, if_false, true_imp_iff, false_imp_iff, not_true_eq_false, not_false_eq_true, true_and, and_true, implies_true, reduceIte]
    exact ⟨M1, rfl, g3, g4⟩
  obtain ⟨a1, M2, a2, a3, a4⟩ := r_isWordq g3 hq (w := wT 16) (wT_ok 15 (by omega)) (a := 2) (b := 1) (c := 18) (d := 0) (e := 0) (f := 0) (fun _ => rfl)
  obtain ⟨b1, M3, b2, b3, b4⟩ := r_isWordq a3 hq (w := wT 17) (wT_ok 16 (by omega)) (a := 21) (b := 14) (c := 2) (d := 1) (e := 18) (f := 0) (fun _ => rfl)
  obtain ⟨c1, M4, c2, c3, c4⟩ := r_isWordq b3 hq (w := wT 7) (wT_ok 6 (by omega)) (a := 8) (b := 15) (c := 21) (d := 18) (e := 0) (f := 0) (fun _ => rfl)
  obtain ⟨d1, M5, d2, d3, d4⟩ := r_isWordq c3 hq (w := wT 18) (wT_ok 17 (by omega)) (a := 1) (b := 7) (c := 1) (d := 9) (e := 14) (f := 0) (fun _ => rfl)
  have K2 := g4.tr a4
  have K3 := K2.tr b4
  have K4 := K3.tr c4
  have K5 := K4.tr d4
  simp only [Bool.false_eq_true, k0, P_12_stepHere_19, F_12_stepHere_19, a1, a2, P_12_stepHere_30, F_12_stepHere_30, b1, b2, P_12_stepHere_48, F_12_stepHere_48, c1, c2, P_12_stepHere_67, F_12_stepHere_67, d1, d2, F_12_stepHere_85, if10, if_true, if_false, true_imp_iff, false_imp_iff, not_true_eq_false, not_false_eq_true, true_and, and_true, implies_true, reduceIte]
  by_cases k1 : isW (wT 16) tb n q = true
  · simp only [k1, if_true, if_false, true_imp_iff, false_imp_iff, not_true_eq_false, not_false_eq_true, true_and, and_true, implies_true, reduceIte]; exact ⟨M2, rfl, a3, K2⟩
  by_cases k2 : isW (wT 17) tb n q = true
  · simp only [Bool.false_eq_true, k1, k2, if_true, if_false, true_imp_iff, false_imp_iff, not_true_eq_false, not_false_eq_true, true_and, and_true, implies_true, reduceIte]; exact ⟨M3, rfl, b3, K3⟩
  by_cases k3 : isW (wT 7) tb n q = true
  · simp only [Bool.false_eq_true, k1, k2, k3, if_true, if_false, true_imp_iff, false_imp_iff, not_true_eq_false, not_false_eq_true, true_and, and_true, implies_true, reduceIte]; exact ⟨M4, rfl, c3, K4⟩
  by_cases k4 : isW (wT 18) tb n q = true
  · simp only [Bool.false_eq_true, k1, k2, k3, k4, if_true, if_false, true_imp_iff, false_imp_iff, not_true_eq_false, not_false_eq_true, true_and, and_true, implies_true, reduceIte]; exact ⟨M5, rfl, d3, K5⟩
  · simp only [Bool.false_eq_true, k1, k2, k3, k4, if_true, if_false, true_imp_iff, false_imp_iff, not_true_eq_false, not_false_eq_true, true_and, and_true, implies_true, reduceIte]; exact ⟨M5, rfl, d3, K5⟩
theorem stK_b {tb : Nat → Nat} {n q k : Nat} (h : stK tb n q = some k) : k ≤ 4 ∧ ∃ t, t < 18 ∧ isW (wT (t + 1)) tb n q = true ∧ 2 ≤ (wT (t + 1)).length := by
  unfold stK at h
  by_cases c0 : isW (wT 15) tb n q = true
  · rw [if_pos c0] at h; cases h; exact ⟨by omega, 14, by omega, c0, by decide⟩
  rw [if_neg c0] at h
  by_cases c1 : isW (wT 16) tb n q = true
  · rw [if_pos c1] at h; cases h; exact ⟨by omega, 15, by omega, c1, by decide⟩
  rw [if_neg c1] at h
  by_cases c2 : isW (wT 17) tb n q = true
  · rw [if_pos c2] at h; cases h; exact ⟨by omega, 16, by omega, c2, by decide⟩
  rw [if_neg c2] at h
  by_cases c3 : isW (wT 7) tb n q = true
  · rw [if_pos c3] at h; cases h; exact ⟨by omega, 6, by omega, c3, by decide⟩
  rw [if_neg c3] at h
  by_cases c4 : isW (wT 18) tb n q = true
  · rw [if_pos c4] at h; cases h; exact ⟨by omega, 17, by omega, c4, by decide⟩
  rw [if_neg c4] at h; cases h
theorem stK_we {tb : Nat → Nat} {n q k : Nat} (hq : q ≤ n) (h : stK tb n q = some k) : q + 2 ≤ weT tb n q ∧ weT tb n q ≤ n := by
  obtain ⟨_, t, h1, h2, h3⟩ := stK_b h
  unfold isW at h2
  rw [Bool.and_eq_true, decide_eq_true_eq, decide_eq_true_eq] at h2
  have := (we_b (tb := tb) hq).2.1
  omega
theorem stK_no {tb : Nat → Nat} {n q : Nat} (h : ¬ (q < n ∧ smP (tb q) = true)) : stK tb n q = none := by
  unfold stK
  rw [if_neg (isW_no h (wT_ok 14 (by omega))), if_neg (isW_no h (wT_ok 15 (by omega))), if_neg (isW_no h (wT_ok 16 (by omega))), if_neg (isW_no h (wT_ok 6 (by omega))), if_neg (isW_no h (wT_ok 17 (by omega)))]
