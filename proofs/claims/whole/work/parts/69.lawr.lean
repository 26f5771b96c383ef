/-! MATHEMATICS 39: a law's text in the reference -/
def RLw (A : List Int32) (M : Mem) : Prop := rd M 0 22 = nI A.length ∧ ∀ i, i < A.length → rd M (238 + i) 0 = (prC (A.getD i 0)).1 ∧ rd M (238 + i) 1 = (prC (A.getD i 0)).2
def rL (c j : Nat) : Prop := (c = 0 ∧ (j = 4 ∨ j = 5 ∨ j = 6 ∨ j = 8 ∨ j = 22)) ∨ (238 ≤ c ∧ c < 398)
def rN (c j : Nat) : Prop := (c = 0 ∧ j = 22) ∨ (238 ≤ c ∧ c < 398)
theorem RLw.k {p : Nat → Nat → Prop} {A : List Int32} {M M' : Mem} (h : RLw A M) (hA : A.length ≤ 150) (hk : Kp p M M') (hp : ∀ c j, p c j → ¬ rN c j) : RLw A M' := by
  refine ⟨by rw [hk.g (fun z => hp _ _ z (Or.inl ⟨rfl, rfl⟩))]; exact h.1, fun i hi => ?_⟩
  rw [hk.g (fun z => hp _ _ z (Or.inr ⟨by omega, by omega⟩)), hk.g (fun z => hp _ _ z (Or.inr ⟨by omega, by omega⟩))]
  exact h.2 i hi
theorem RLw.t {A : List Int32} {M M' : Mem} (h : RLw A M) (hA : A.length ≤ 150) (hk : Kp rT M M') : RLw A M' := h.k hA hk (fun c j z => by unfold rT at z; unfold rN; omega)
theorem RLw.t4 {A : List Int32} {M M' : Mem} (h : RLw A M) (hA : A.length ≤ 150) (hk : Kp r4 M M') : RLw A M' := h.k hA hk (fun c j z => by unfold r4 at z; unfold rN; omega)
theorem Kp.tL {M M' : Mem} (h : Kp rT M M') : Kp rL M M' := h.mono (fun c j z => by unfold rT at z; unfold rL; omega)
theorem Kp.t4L {M M' : Mem} (h : Kp r4 M M') : Kp rL M M' := h.mono (fun c j z => by unfold r4 at z; unfold rL; omega)
theorem Kp.nL {M M' : Mem} (h : Kp rN M M') : Kp rL M M' := h.mono (fun c j z => by unfold rN at z; unfold rL; omega)
theorem RT.n {tb : Nat → Nat} {n p : Nat} {M M' : Mem} (h : RT tb n p M) (hk : Kp rN M M') : RT tb n p M' := h.k hk (fun c j z => by unfold rN at z; omega)
theorem r_notes {A : List Int32} {M : Mem} {x y c : Int32} (h : RLw A M) (h5 : rd M 0 5 = 0) (hA : A.length < 150) (hc : prC c = (x, y)) : P_12_notes_0 x y M ∧ ∃ M', F_12_notes_0 x y M = M' ∧ RLw (A ++ [c]) M' ∧ Kp rN M M' := by
  have v1 : vp_in (nI A.length) 160 := (vp_iff (by omega)).mpr (by omega)
  have e1 : rd (wr M (238 + A.length) 0 x) 0 22 = nI A.length := by rw [rd_c (by omega)]; exact h.1
  have e2 : rd (wr (wr M (238 + A.length) 0 x) (238 + A.length) 1 y) 0 22 = nI A.length := by rw [rd_c (by omega)]; exact e1
  rw [P_12_notes_0, F_12_notes_0, if_pos h5, h.1, cl0, cl1, nI_clamp (n := A.length) (by omega), e1, nI_clamp (n := A.length) (by omega), e2]
  refine ⟨⟨fun _ => ⟨v1, v1⟩, fun z => absurd h5 z⟩, _, rfl, ⟨?_, fun i hi => ?_⟩, ((Kp.rf.w (Or.inr ⟨by omega, by omega⟩)).w (Or.inr ⟨by omega, by omega⟩)).w (Or.inl ⟨rfl, rfl⟩)⟩
  · rw [rd_s, nI_1, List.length_append]; rfl
  · rw [List.length_append] at hi
    have hi' : i < A.length + 1 := hi
    have g : ∀ j, rd (wr (wr (wr M (238 + A.length) 0 x) (238 + A.length) 1 y) 0 22 (nI A.length + 1)) (238 + i) j = rd (wr (wr M (238 + A.length) 0 x) (238 + A.length) 1 y) (238 + i) j := fun j => rd_c (by omega)
    rw [g, g]
    by_cases ce : i = A.length
    · subst ce
      rw [rd_s, rd_i (by decide), rd_s]
      have : (A ++ [c]).getD A.length 0 = c := by simp [List.getD]
      rw [this, hc]
      exact ⟨rfl, rfl⟩
    · have g2 : ∀ j, rd (wr (wr M (238 + A.length) 0 x) (238 + A.length) 1 y) (238 + i) j = rd M (238 + i) j := fun j => by rw [rd_c (by omega), rd_c (by omega)]
      rw [g2, g2]
      have : (A ++ [c]).getD i 0 = A.getD i 0 := by
        simp only [List.getD_eq_getElem?_getD]
        rw [List.getElem?_append_left (by omega)]
      rw [this]
      exact h.2 i (by omega)
theorem r_notesN {M : Mem} {x y : Int32} (h5 : ¬ rd M 0 5 = 0) : P_12_notes_0 x y M ∧ F_12_notes_0 x y M = M := by
  rw [P_12_notes_0, F_12_notes_0, if_neg h5]
  exact ⟨⟨fun z => absurd z h5, fun _ => trivial⟩, rfl⟩
def RLo (tb : Nat → Nat) (n : Nat) (A : List Int32) (o : Nat) (r : TRs LwP) (M : Mem) : Prop := match r with
  | .inl e => RE e M ∧ TxE tb n M
  | .inr x => RT tb n x.2 M ∧ RLw (A ++ x.1) M ∧ rd M 0 8 = nI o
def RSp (tb : Nat → Nat) (n : Nat) (F : Mem → Mem) (P : Mem → Prop) (o : Nat) (a : Nat → TRs LwP) : Prop := (∀ M, ¬ rd M 0 5 = 0 → P M ∧ F M = M) ∧ ∀ (A : List Int32) (p : Nat) (M : Mem), RT tb n p M → RLw A M → rd M 0 8 = nI o → A.length ≤ p → P M ∧ ∃ M', F M = M' ∧ RLo tb n A o (a p) M' ∧ Kp rL M M'
/-! words -/
theorem r_takesq {tb : Nat → Nat} {n q : Nat} {M : Mem} (h : RT tb n q M) (hq : skT tb n q = q) {w : List Nat} (hw : okWd w) {a b c d e f : Int32} (h6 : ∀ M', F_12_six_0 M' a b c d e f = nI (cdW w)) : P_12_takes_0 a b c d e f M ∧ ∃ M', F_12_takes_0 a b c d e f M = (if isW w tb n q = true then 1 else 0, M') ∧ RT tb n (if isW w tb n q = true then weT tb n q else q) M' ∧ Kp r4 M M' := by
  have := r_takes h hw h6
  rw [hq] at this
  exact this
def knI (tb : Nat → Nat) (n q : Nat) : Int32 := match wdK tb n q with
  | some k => nI k
  | none => -1
def knQ (tb : Nat → Nat) (n q : Nat) : Nat := match wdK tb n q with
  | some _ => weT tb n q
  | none => q
theorem r_knownHere {tb : Nat → Nat} {n q : Nat} {M : Mem} (h : RT tb n q M) (hq : skT tb n q = q) : P_12_knownHere_0 M ∧ ∃ M', F_12_knownHere_0 M = (knI tb n q, M') ∧ RT tb n (knQ tb n q) M' ∧ Kp r4 M M' := by
  obtain ⟨a1, M1, a2, a3, a4⟩ := r_takesq h hq (w := wT 6) (wT_ok 5 (by omega)) (a := 16) (b := 12) (c := 1) (d := 14) (e := 0) (f := 0) (fun _ => rfl)
  rw [P_12_knownHere_0, F_12_knownHere_0, a2]
  unfold knI knQ wdK
  by_cases k0 : isW (wT 6) tb n q = true
  · rw [if_pos k0] at a3
    simp only [k0, a1, P_12_knownHere_13, F_12_knownHere_13, i10, if_true, if_false, true_imp_iff, false_imp_iff, not_true_eq_false, not_false_eq_true, true_and, and_true, implies_true, reduceIte]
    exact ⟨M1, rfl, a3, a4⟩
  rw [if_neg k0] at a3
  obtain ⟨b1, M2, b2, b3, b4⟩ := r_takesq a3 hq (w := wT 7) (wT_ok 6 (by omega)) (a := 8) (b := 15) (c := 21) (d := 18) (e := 0) (f := 0) (fun _ => rfl)
  simp only [Bool.false_eq_true, k0, a1, P_12_knownHere_13, F_12_knownHere_13, b1, b2, if_true, if_false, true_imp_iff, false_imp_iff, not_true_eq_false, not_false_eq_true, true_and, and_true, implies_true, reduceIte]
  by_cases k1 : isW (wT 7) tb n q = true
  · rw [if_pos k1] at b3
    simp only [k1, P_12_knownHere_32, F_12_knownHere_32, i10, if_true, if_false, true_imp_iff, false_imp_iff, not_true_eq_false, not_false_eq_true, true_and, and_true, implies_true, reduceIte]
    exact ⟨M2, rfl, b3, a4.tr b4⟩
  rw [if_neg k1] at b3
  obtain ⟨c1, M3, c2, c3, c4⟩ := r_takesq b3 hq (w := wT 8) (wT_ok 7 (by omega)) (a := 4) (b := 1) (c := 25) (d := 0) (e := 0) (f := 0) (fun _ => rfl)
  have K3 := (a4.tr b4).tr c4
  simp only [Bool.false_eq_true, k1, P_12_knownHere_32, F_12_knownHere_32, c1, c2, if_true, if_false, true_imp_iff, false_imp_iff, not_true_eq_false, not_false_eq_true, true_and, and_true, implies_true, reduceIte]
  by_cases k2 : isW (wT 8) tb n q = true
  · rw [if_pos k2] at c3
    simp only [k2, P_12_knownHere_48, F_12_knownHere_48, i10, if_true, if_false, true_imp_iff, false_imp_iff, not_true_eq_false, not_false_eq_true, true_and, and_true, implies_true, reduceIte]
    exact ⟨M3, rfl, c3, K3⟩
  rw [if_neg k2] at c3
  obtain ⟨d1, M4, d2, d3, d4⟩ := r_takesq c3 hq (w := wT 2) (wT_ok 1 (by omega)) (a := 4) (b := 15) (c := 15) (d := 18) (e := 0) (f := 0) (fun _ => rfl)
  have K4 := K3.tr d4
  simp only [Bool.false_eq_true, k2, P_12_knownHere_48, F_12_knownHere_48, d1, d2, if_true, if_false, true_imp_iff, false_imp_iff, not_true_eq_false, not_false_eq_true, true_and, and_true, implies_true, reduceIte]
  by_cases k3 : isW (wT 2) tb n q = true
  · rw [if_pos k3] at d3
    simp only [k3, P_12_knownHere_66, F_12_knownHere_66, i10, if_true, if_false, true_imp_iff, false_imp_iff, not_true_eq_false, not_false_eq_true, true_and, and_true, implies_true, reduceIte]
    exact ⟨M4, rfl, d3, K4⟩
  rw [if_neg k3] at d3
  obtain ⟨e1, M5, e2, e3, e4⟩ := r_takesq d3 hq (w := wT 9) (wT_ok 8 (by omega)) (a := 6) (b := 18) (c := 15) (d := 13) (e := 0) (f := 0) (fun _ => rfl)
  have K5 := K4.tr e4
  simp only [Bool.false_eq_true, k3, P_12_knownHere_66, F_12_knownHere_66, e1, e2, if_true, if_false, true_imp_iff, false_imp_iff, not_true_eq_false, not_false_eq_true, true_and, and_true, implies_true, reduceIte]
  by_cases k4 : isW (wT 9) tb n q = true
  · rw [if_pos k4] at e3
    simp only [k4, P_12_knownHere_85, F_12_knownHere_85, i10, if_true, if_false, true_imp_iff, false_imp_iff, not_true_eq_false, not_false_eq_true, true_and, and_true, implies_true, reduceIte]
    exact ⟨M5, rfl, e3, K5⟩
  rw [if_neg k4] at e3
  have ff : P_12_isTo_0 M5 ∧ ∃ M', F_12_isTo_0 M5 = (if isW (wT 10) tb n q = true then 1 else 0, M') ∧ RT tb n (if isW (wT 10) tb n q = true then weT tb n q else q) M' ∧ Kp r4 M5 M' := by
    have := r_isTo e3
    rw [hq] at this
    exact this
  obtain ⟨f1, M6, f2, f3, f4⟩ := ff
  have K6 := K5.tr f4
  simp only [Bool.false_eq_true, k4, P_12_knownHere_85, F_12_knownHere_85, f1, f2, if_true, if_false, true_imp_iff, false_imp_iff, not_true_eq_false, not_false_eq_true, true_and, and_true, implies_true, reduceIte]
  by_cases k5 : isW (wT 10) tb n q = true
  · rw [if_pos k5] at f3
    simp only [k5, P_12_knownHere_94, F_12_knownHere_94, i10, if_true, if_false, true_imp_iff, false_imp_iff, not_true_eq_false, not_false_eq_true, true_and, and_true, implies_true, reduceIte]
    exact ⟨M6, rfl, f3, K6⟩
  rw [if_neg k5] at f3
  obtain ⟨g1, M7, g2, g3, g4⟩ := r_takesq f3 hq (w := wT 11) (wT_ok 10 (by omega)) (a := 19) (b := 5) (c := 5) (d := 19) (e := 0) (f := 0) (fun _ => rfl)
  have K7 := K6.tr g4
  simp only [Bool.false_eq_true, k5, P_12_knownHere_94, F_12_knownHere_94, g1, g2, if_true, if_false, true_imp_iff, false_imp_iff, not_true_eq_false, not_false_eq_true, true_and, and_true, implies_true, reduceIte]
  by_cases k6 : isW (wT 11) tb n q = true
  · rw [if_pos k6] at g3
    simp only [k6, P_12_knownHere_111, F_12_knownHere_111, i10, if_true, if_false, true_imp_iff, false_imp_iff, not_true_eq_false, not_false_eq_true, true_and, and_true, implies_true, reduceIte]
    exact ⟨M7, rfl, g3, K7⟩
  rw [if_neg k6] at g3
  obtain ⟨h1, M8, h2, h3, h4⟩ := r_takesq g3 hq (w := wT 12) (wT_ok 11 (by omega)) (a := 21) (b := 19) (c := 5) (d := 4) (e := 0) (f := 0) (fun _ => rfl)
  have K8 := K7.tr h4
  simp only [Bool.false_eq_true, k6, P_12_knownHere_111, F_12_knownHere_111, h1, h2, F_12_knownHere_129, if_true, if_false, true_imp_iff, false_imp_iff, not_true_eq_false, not_false_eq_true, true_and, and_true, implies_true, reduceIte]
  by_cases k7 : isW (wT 12) tb n q = true
  · rw [if_pos k7] at h3
    simp only [k7, i10, if_true, if_false, true_imp_iff, false_imp_iff, not_true_eq_false, not_false_eq_true, true_and, and_true, implies_true, reduceIte]
    exact ⟨M8, rfl, h3, K8⟩
  rw [if_neg k7] at h3
  simp only [Bool.false_eq_true, k7, if_true, if_false, true_imp_iff, false_imp_iff, not_true_eq_false, not_false_eq_true, true_and, and_true, implies_true, reduceIte]
  exact ⟨M8, rfl, h3, K8⟩
theorem r_opensOne {tb : Nat → Nat} {n q o : Nat} {M : Mem} (h : RT tb n q M) (h8 : rd M 0 8 = nI o) (ho : o ≤ 6) : ∃ M', F_12_opensOne_0 M = ((if o = 6 then 0 else 1), M') ∧ (o = 6 → RE (3, q) M' ∧ TxE tb n M') ∧ (o ≠ 6 → M' = wr M 0 8 (nI (o + 1))) ∧ Kp rL M M' := by
  have e6 : (nI o = 6) ↔ o = 6 := nI_eq (b := 6) (by omega) (by omega)
  have n6 := h.1.1
  have hq := h.2.2.1
  rw [F_12_opensOne_0, if_pos h.2.2.2, h8]
  simp only [e6]
  by_cases c : o = 6
  · rw [if_pos c, if_pos c]
    obtain ⟨M2, w1, w2, w3⟩ := r_wrong h.2.2.2 (k := 3) (q := q) (by omega) (by omega) (by omega)
    have w1' : F_12_wrong_0 3 (nI q) M = M2 := w1
    rw [h.2.1, w1', F_12_opensOne_25, F_12_opensOne_45, if_neg w2.ne]
    exact ⟨M2, rfl, fun _ => ⟨w2, h.1.k w3 (fun c j z => by unfold rT at z; omega), q, hq, by rw [← w1', r_wrong4]; exact h.2.1⟩, fun z => absurd c z, w3.tL⟩
  · rw [if_neg c, if_neg c, F_12_opensOne_28, if_pos h.2.2.2, F_12_opensOne_45, rd_i (by decide), if_pos h.2.2.2, h8, nI_1]
    exact ⟨_, rfl, fun z => absurd z c, fun _ => rfl, Kp.rf.w (Or.inl ⟨rfl, by omega⟩)⟩
