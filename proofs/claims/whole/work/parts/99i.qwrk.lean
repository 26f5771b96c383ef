/-! MATHEMATICS 78: states copied; the call work, both sides -/
theorem RR.cg {u : MU} {s : SU} {f g : Nat → Int32} (hu : UW u) (h : RR u s f) (e : ∀ j, j < 56 → g j = f j) : RR u s g := by
  obtain ⟨h0, h1, h2, h3, h4, h5⟩ := h
  have a1 := hu.2.1
  have a2 := hu.2.2.1
  exact ⟨h0, fun t ht => by rw [e _ (by omega)]; exact h1 t ht, fun d hd => by rw [e _ (by omega)]; exact h2 d hd, fun d hd => by rw [e _ (by omega)]; exact h3 d hd, by rw [e _ (by omega)]; exact h4, by rw [e _ (by omega)]; exact h5⟩
theorem r_copa {a : Nat} (ha : a < 16) {M : Mem} : P_12_copiesa_0 a M ∧ ∃ M', F_12_copiesa_0 a M = M' ∧ (∀ j, j < 56 → rd M' (478 + a) j = rd M 20 j) ∧ Kp (fun c _ => c = 478 + a) M M' := by
  rw [P_12_copiesa_0, F_12_copiesa_0]
  suffices h : P_12_copiesa_2 FU a 0 M ∧ ∃ M', F_12_copiesa_2 FU a 0 M = M' ∧ (∀ j, j < 56 → rd M' (478 + a) j = rd M 20 j) ∧ Kp (fun c _ => c = 478 + a) M M' from ⟨⟨ha, h.1⟩, h.2⟩
  refine lq (S := Mem) (F := fun n i q => F_12_copiesa_2 n a i q) (P := fun n i q => P_12_copiesa_2 n a i q) (Q := fun x => ∃ M', x = M' ∧ (∀ j, j < 56 → rd M' (478 + a) j = rd M 20 j) ∧ Kp (fun c _ => c = 478 + a) M M') (56) (fun i q => (∀ j, j < i → rd q (478 + a) j = rd M 20 j) ∧ Kp (fun c _ => c = 478 + a) M q) ?_ ?_ FU 0 M ⟨fun j hj => by omega, Kp.rf⟩ (Nat.zero_le _) (FU_ge (by omega))
  · intro n i q hi hI ih
    try dsimp only at hI ih ⊢
    have q1 : ¬ (56 : Int32) ≤ nI i := nI_ge (b := 56) hi (by omega)
    have v : vp_in (nI i) 56 := (vp_iff (by omega)).mpr hi
    have e20 : rd q 20 i = rd M 20 i := hI.2.g (by omega)
    rw [P_12_copiesa_2, F_12_copiesa_2]
    simp only [q1, v, nI_clamp (n := i) (by omega), e20, ha, if_true, if_false, true_imp_iff, false_imp_iff, not_true_eq_false, not_false_eq_true, true_and, and_true, implies_true, reduceIte]
    refine ih _ ⟨fun j hj => ?_, hI.2.w rfl⟩
    by_cases e : j = i
    · rw [e, rd_s]
    · rw [rd_i e]; exact hI.1 j (by omega)
  · intro n q hI
    try dsimp only at hI ⊢
    rw [P_12_copiesa_2, F_12_copiesa_2]
    simp only [(by decide : (56 : Int32) ≤ nI 56), ha, if_true, if_false, true_imp_iff, false_imp_iff, not_true_eq_false, not_false_eq_true, true_and, and_true, implies_true, reduceIte]
    exact ⟨q, rfl, hI.1, hI.2⟩
theorem r_copb {a : Nat} (ha : a < 16) {M : Mem} : P_12_copiesb_0 a M ∧ ∃ M', F_12_copiesb_0 a M = M' ∧ (∀ j, j < 56 → rd M' 20 j = rd M (478 + a) j) ∧ Kp (fun c _ => c = 20) M M' := by
  rw [P_12_copiesb_0, F_12_copiesb_0]
  suffices h : P_12_copiesb_2 FU a 0 M ∧ ∃ M', F_12_copiesb_2 FU a 0 M = M' ∧ (∀ j, j < 56 → rd M' 20 j = rd M (478 + a) j) ∧ Kp (fun c _ => c = 20) M M' from ⟨⟨ha, h.1⟩, h.2⟩
  refine lq (S := Mem) (F := fun n i q => F_12_copiesb_2 n a i q) (P := fun n i q => P_12_copiesb_2 n a i q) (Q := fun x => ∃ M', x = M' ∧ (∀ j, j < 56 → rd M' 20 j = rd M (478 + a) j) ∧ Kp (fun c _ => c = 20) M M') (56) (fun i q => (∀ j, j < i → rd q 20 j = rd M (478 + a) j) ∧ Kp (fun c _ => c = 20) M q) ?_ ?_ FU 0 M ⟨fun j hj => by omega, Kp.rf⟩ (Nat.zero_le _) (FU_ge (by omega))
  · intro n i q hi hI ih
    try dsimp only at hI ih ⊢
    have q1 : ¬ (56 : Int32) ≤ nI i := nI_ge (b := 56) hi (by omega)
    have v : vp_in (nI i) 56 := (vp_iff (by omega)).mpr hi
    have e20 : rd q (478 + a) i = rd M (478 + a) i := hI.2.g (by omega)
    rw [P_12_copiesb_2, F_12_copiesb_2]
    simp only [q1, v, nI_clamp (n := i) (by omega), e20, ha, if_true, if_false, true_imp_iff, false_imp_iff, not_true_eq_false, not_false_eq_true, true_and, and_true, implies_true, reduceIte]
    refine ih _ ⟨fun j hj => ?_, hI.2.w rfl⟩
    by_cases e : j = i
    · rw [e, rd_s]
    · rw [rd_i e]; exact hI.1 j (by omega)
  · intro n q hI
    try dsimp only at hI ⊢
    rw [P_12_copiesb_2, F_12_copiesb_2]
    simp only [(by decide : (56 : Int32) ≤ nI 56), ha, if_true, if_false, true_imp_iff, false_imp_iff, not_true_eq_false, not_false_eq_true, true_and, and_true, implies_true, reduceIte]
    exact ⟨q, rfl, hI.1, hI.2⟩
theorem st_copy {a b : Nat} {u : MU} {s : SU} {M : Mem} (hab : a + 2 < b ∨ b + 2 < a) (h : CR b u s M) (hu : UW u) : CR a u s (stCopy a b M) ∧ Kp (fun c _ => c = a ∨ c = a + 1 ∨ c = a + 2) M (stCopy a b M) := by
  obtain ⟨h0, h1, h2, h3, h4, h5, h6⟩ := h
  have hM := hu.2.1
  have hT := hu.2.2.1
  have K : Kp (fun c _ => c = a ∨ c = a + 1 ∨ c = a + 2) M (stCopy a b M) := by
    unfold stCopy stW
    exact (((((Kp.rf.w (Or.inl rfl)).w (Or.inl rfl)).w (Or.inl rfl)).cp (fun _ => Or.inr (Or.inl rfl))).cp (fun _ => Or.inr (Or.inr rfl)))
  have g0 : rd (stCopy a b M) a 0 = rd M b 0 := by
    unfold stCopy stW
    rw [rd_cp, if_neg (by omega), rd_cp, if_neg (by omega), rd_i (by decide), rd_i (by decide), rd_s]
  have g1 : rd (stCopy a b M) a 1 = rd M b 1 := by
    unfold stCopy stW
    rw [rd_cp, if_neg (by omega), rd_cp, if_neg (by omega), rd_i (by decide), rd_s, rd_c (by omega)]
  have g2 : rd (stCopy a b M) a 2 = rd M b 2 := by
    unfold stCopy stW
    rw [rd_cp, if_neg (by omega), rd_cp, if_neg (by omega), rd_s, rd_c (by omega), rd_c (by omega)]
  have g3 : ∀ d, d < 24 → rd (stCopy a b M) (a + 1) d = rd M (b + 1) d := by
    intro d hd
    unfold stCopy stW
    rw [rd_cp, if_neg (by omega), rd_cp, if_pos (by omega), rd_c (by omega), rd_c (by omega), rd_c (by omega)]
    rw [Nat.sub_zero, Nat.zero_add]
  have g4 : ∀ t, t < 6 → rd (stCopy a b M) (a + 2) t = rd M (b + 2) t := by
    intro t ht
    unfold stCopy stW
    rw [rd_cp, if_pos (by omega), rd_cp, if_neg (by omega), rd_c (by omega), rd_c (by omega), rd_c (by omega)]
    rw [Nat.sub_zero, Nat.zero_add]
  exact ⟨⟨h0, by rw [g0]; exact h1, by rw [g1]; exact h2, fun d => by rw [g2]; exact h3 d, fun d hd => by rw [g3 d (by omega)]; exact h4 d hd, fun d h1 h2 => by rw [g3 d (by omega)]; exact h5 d h1 h2, fun t ht => by rw [g4 t (by omega)]; exact h6 t ht⟩, K⟩
def upS (f : Nat → SU) (i : Nat) (v : SU) : Nat → SU := fun j => if j = i then v else f j
/-- after a work -/
def wkD (d : ID) (z : RU) : ID := (dU d, z.2.2.2, dL d, dW d, ((dB d).1 + 1, upS (dB d).2 (dB d).1 (dS d)), dI d, (0, (dT d).2), -1, nI z.2.2.1, dN d, dE d)
def RWe (d : ID) (tb : Nat → Nat) (n : Nat) (M : Mem) (z : Int32 × Mem) : Prop := match wkP tb n (dU d) with
  | .inl e => z.1 = nI e.1 - 10 ∧ rd z.2 0 3 = nI e.2 ∧ Kp (fun c j => rSs 0 c j ∨ (c = 0 ∧ j = 3)) M z.2
  | .inr y => z.1 = nI (rnP (dU d) (dL d) 7 y.1 (0, 0, 0, dS d)).2.1 ∧ RI (wkD d (rnP (dU d) (dL d) 7 y.1 (0, 0, 0, dS d))) z.2 ∧ Kp rAll M z.2 ∧ rd z.2 0 0 = rd M 0 0
theorem r_work67 {d : ID} {tb : Nat → Nat} {n : Nat} {M : Mem} (hn : n ≤ 150) (h : RT tb n (skT tb n 0) M) (h8 : rd M 0 8 = 0) (hr : RI (tkD d (dL d) (dW d) (dP d)) M) (hk : (dB d).1 < 16) : P_12_work_67 M ∧ RWe d tb n M (F_12_work_67 M) := by
  have hu : RP (dU d) M := hr.1.1
  obtain ⟨M1, a1, a2, a3, a4⟩ := r_wtx hn h hu h8
  rw [a2]
  unfold RWe
  cases oo : wkP tb n (dU d) with
  | inl e =>
    rw [oo] at a3
    obtain ⟨b1, b2⟩ : RE e M1 ∧ TxE tb n M1 := a3
    have q1 : P_12_work_101 M1 := by
      rw [P_12_work_101]
      exact ⟨fun y => absurd y b1.ne, fun _ => trivial⟩
    have q2 : F_12_work_101 M1 = (nI e.1 - 10, wr M1 0 3 (nI e.2)) := by
      rw [F_12_work_101, if_neg b1.ne, F_12_work_112, F_12_ends2_0, b1.2.1, rd_i (by decide), b1.1]
    have q := And.intro q1 q2
    rw [q.2]
    exact ⟨a1 q.1, rfl, rd_s _ _ _ _, (a4.mono (fun c j z => Or.inl z)).w (Or.inr ⟨rfl, rfl⟩)⟩
  | inr y =>
    obtain ⟨l, p'⟩ := y
    rw [oo] at a3
    obtain ⟨b1, b2, b3⟩ : rd M1 0 5 = 0 ∧ rd M1 0 30 = nI (0 + szP 1 7 l) ∧ RAP 7 l 0 M1 := a3
    have gb : 2 * szP 1 7 l + 0 ≤ p' ∧ p' ≤ n ∧ PWP (dU d) 7 l := by
      have := wst_b (tb := tb) (n := n) (u := dU d) 7 0 0 (by omega) (Nat.zero_le _)
      have e : wSt tb n (dU d) 7 0 0 = .inr (l, p') := oo
      rw [e] at this
      exact this
    have K1 : Kp (fun c j => rSs 0 c j ∨ (c = 0 ∧ j = 3)) M (wr M1 0 3 (-1)) := (a4.mono (fun c j z => Or.inl z)).w (Or.inr ⟨rfl, rfl⟩)
    obtain ⟨r1, r2, r3, r4', r5, r6, r7, r8, r9⟩ := hr
    have V1 : RV (dU d) (dS d) (dL d) (wr M1 0 3 (-1)) := r1.k K1 (fun c j z => by unfold rSs at z; omega)
    have e36 : rd (wr M1 0 3 (-1)) 0 36 = nI (dB d).1 := by rw [K1.g (by unfold rSs; omega)]; exact r4'.2.1
    have v36 : vp_in (nI (dB d).1) 16 := (vp_iff (by omega)).mpr hk
    obtain ⟨c1, M2, c2, c3, c4⟩ := r_copa (M := wr M1 0 3 (-1)) hk
    have e36' : rd M2 0 36 = nI (dB d).1 := by rw [c4.g (by omega)]; exact e36
    have e30 : rd M2 0 30 = nI (szP 1 7 l) := by rw [c4.g (by omega), rd_i (by decide), b2, Nat.zero_add]
    have K5 : Kp (fun c j => c = 0 ∧ (j = 36 ∨ j = 37 ∨ j = 40 ∨ j = 41)) M2 (wr (wr (wr (wr M2 0 36 (nI ((dB d).1 + 1))) 0 40 0) 0 41 0) 0 37 0) := (((Kp.rf.w ⟨rfl, by omega⟩).w ⟨rfl, by omega⟩).w ⟨rfl, by omega⟩).w ⟨rfl, by omega⟩
    have V2 : RV (dU d) (dS d) (dL d) M2 := V1.k c4 (fun c j z => by omega)
    have A2 : RAP 7 l 0 M2 := RAP.g 7 l 0 b3 (fun x j w1 w2 => by rw [c4.g (by omega), rd_c (by omega)])
    have q134 : (H_12_goes 8 (nI 0) (nI (0 + szP 1 7 l)) (wr (wr (wr (wr M2 0 36 (nI ((dB d).1 + 1))) 0 40 0) 0 41 0) 0 37 0) → P_12_work_134 M2) ∧ F_12_work_134 M2 = F_12_work_168 (G_12_goes 8 (nI 0) (nI (0 + szP 1 7 l)) (wr (wr (wr (wr M2 0 36 (nI ((dB d).1 + 1))) 0 40 0) 0 41 0) 0 37 0)) := by
      have e3 : rd (wr (wr (wr (wr M2 0 36 (nI ((dB d).1 + 1))) 0 40 0) 0 41 0) 0 37 0) 0 30 = nI (0 + szP 1 7 l) := by rw [K5.g (by omega), e30, Nat.zero_add]
      rw [P_12_work_134, F_12_work_134, e36', nI_1, e3]
      exact ⟨id, rfl⟩
    have K5r : ∀ x j, rd (wr (wr (wr (wr M2 0 36 (nI ((dB d).1 + 1))) 0 40 0) 0 41 0) 0 37 0) (398 + x) j = rd M2 (398 + x) j := fun x j => K5.g (by omega)
    have Z5 : RZ (dU d) (dL d) (0, 0, 0, dS d) (wr (wr (wr (wr M2 0 36 (nI ((dB d).1 + 1))) 0 40 0) 0 41 0) 0 37 0) := ⟨V2.k K5 (fun c j z => by omega), by rw [rd_i (by decide), rd_i (by decide), rd_s]; rfl, by rw [rd_i (by decide), rd_s]; rfl, by rw [rd_s]; rfl, Nat.zero_le _⟩
    have f36 : rd (wr (wr (wr (wr M2 0 36 (nI ((dB d).1 + 1))) 0 40 0) 0 41 0) 0 37 0) 0 36 = nI ((dB d).1 + 1) := by rw [rd_i (by decide), rd_i (by decide), rd_i (by decide), rd_s]
    generalize wr (wr (wr (wr M2 0 36 (nI ((dB d).1 + 1))) 0 40 0) 0 41 0) 0 37 0 = M5 at *
    obtain ⟨d1, M6, d2, d3, d4⟩ := r_goes (u := dU d) (L := dL d) 7 8 (by omega) l 0 (0, 0, 0, dS d) M5 (RAP.g 7 l 0 A2 (fun x j _ _ => K5r x j)) gb.2.2 Z5 (by omega)
    have q : P_12_work_101 M1 ∧ F_12_work_101 M1 = (rd M6 0 41, M6) := by
      rw [P_12_work_101, F_12_work_101, if_pos b1, e36, nI_clamp (n := (dB d).1) (by omega), c2, q134.2, d2, F_12_work_168]
      exact ⟨⟨fun _ => ⟨v36, c1, q134.1 d1⟩, fun y => absurd b1 y⟩, rfl⟩
    rw [q.2]
    have KA : Kp (fun c j => (c = 0 ∧ (j = 3 ∨ j = 4 ∨ j = 5 ∨ j = 6 ∨ j = 8 ∨ j = 30 ∨ j = 36 ∨ j = 37 ∨ j = 40 ∨ j = 41)) ∨ (398 ≤ c ∧ c < 478) ∨ c = 478 + (dB d).1 ∨ c = 15 ∨ c = 16 ∨ c = 20) M M6 := (((K1.mono (fun c j z => by unfold rSs at z; omega)).tr (c4.mono (fun c j z => by omega))).tr (K5.mono (fun c j z => by omega))).tr (d4.mono (fun c j z => by unfold rGo rDo at z; omega))
    have eB : ∀ i, ¬ i = (dB d).1 → upS (dB d).2 (dB d).1 (dS d) i = (dB d).2 i := fun i hi => by unfold upS; rw [if_neg hi]
    have eB' : upS (dB d).2 (dB d).1 (dS d) (dB d).1 = dS d := by unfold upS; rw [if_pos rfl]
    refine ⟨a1 q.1, d3.2.2.1, ⟨d3.1, r2.k KA (fun c j z => by omega), r3.k KA (fun c j z => by omega), ⟨show (dB d).1 + 1 ≤ 16 by omega, ?_, fun i hi => ?_⟩, r5.k KA (fun c j z => by omega), ?_, d3.2.2.2.1, ?_, ?_⟩, KA.mono (fun c j z => by unfold rAll; omega), KA.g (by omega)⟩
    · show rd M6 0 36 = nI ((dB d).1 + 1)
      rw [d4.g (by unfold rGo rDo; omega)]; exact f36
    · have hi' : i < (dB d).1 + 1 := hi
      show RR (dU d) (upS (dB d).2 (dB d).1 (dS d) i) (rd M6 (478 + i))
      by_cases e : i = (dB d).1
      · rw [e, eB']
        refine RR.cg hu.1 V1.2.1 (fun j hj => ?_)
        rw [d4.g (by unfold rGo rDo; omega), K5.g (by omega)]; exact c3 j hj
      · rw [eB i e, KA.row (c := 478 + i) (fun j z => by omega)]
        exact r4'.2.2 i (show i < (dB d).1 by omega)
    · show rd M6 0 3 = -1
      rw [d4.g (by unfold rGo rDo; omega), K5.g (by omega), c4.g (by omega), rd_s]
    · rw [KA.g (by omega)]; exact r8
    · rw [KA.g (by omega)]; exact r9
