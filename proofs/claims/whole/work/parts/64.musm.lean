/-! MATHEMATICS 34: the reference's clause and the reading of a museum -/
def kdT (tb : Nat → Nat) (n q : Nat) : Int32 := if isW (wT 1) tb n q = true then 0 else if isW (wT 2) tb n q = true then 1 else if isW (wT 4) tb n q = true then 2 else if isW (wT 3) tb n q = true then 3 else if isW (wT 5) tb n q = true then 4 else -1
theorem six_1 : ∀ M', F_12_six_0 M' 18 15 15 13 0 0 = nI (cdW (wT 1)) := fun _ => rfl
theorem six_2 : ∀ M', F_12_six_0 M' 4 15 15 18 0 0 = nI (cdW (wT 2)) := fun _ => rfl
theorem six_3 : ∀ M', F_12_six_0 M' 5 24 9 20 0 0 = nI (cdW (wT 3)) := fun _ => rfl
theorem six_4 : ∀ M', F_12_six_0 M' 20 15 21 18 0 0 = nI (cdW (wT 4)) := fun _ => rfl
theorem six_5 : ∀ M', F_12_six_0 M' 23 1 18 4 5 18 = nI (cdW (wT 5)) := fun _ => rfl
theorem r_isWordq {tb : Nat → Nat} {n q : Nat} {M : Mem} (h : RT tb n q M) (hq : skT tb n q = q) {w : List Nat} (hw : okWd w) {a b c d e f : Int32} (h6 : ∀ M', F_12_six_0 M' a b c d e f = nI (cdW w)) : P_12_isWord_0 a b c d e f M ∧ ∃ M', F_12_isWord_0 a b c d e f M = (if isW w tb n q = true then 1 else 0, M') ∧ RT tb n q M' ∧ Kp r4 M M' := by
  have := r_isWord h hw h6
  rw [hq] at this
  exact this
theorem r_kindHere {tb : Nat → Nat} {n p : Nat} {M : Mem} (h : RT tb n p M) : P_12_kindHere_0 M ∧ ∃ M', F_12_kindHere_0 M = (kdT tb n (skT tb n p), M') ∧ RT tb n (skT tb n p) M' ∧ Kp r4 M M' := by
  obtain ⟨a1, M1, a2, a3, a4⟩ := r_isWord h (wT_ok 0 (by omega)) six_1
  have hq : skT tb n (skT tb n p) = skT tb n p := sk_sk h.2.2.1
  generalize skT tb n p = q at *
  obtain ⟨b1, M2, b2, b3, b4⟩ := r_isWordq a3 hq (wT_ok 1 (by omega)) six_2
  obtain ⟨c1, M3, c2, c3, c4⟩ := r_isWordq b3 hq (wT_ok 3 (by omega)) six_4
  obtain ⟨d1, M4, d2, d3, d4⟩ := r_isWordq c3 hq (wT_ok 2 (by omega)) six_3
  obtain ⟨e1, M5, e2, e3, e4⟩ := r_isWordq d3 hq (wT_ok 4 (by omega)) six_5
  rw [P_12_kindHere_0, F_12_kindHere_0, a2]
  unfold kdT
  simp only [a1, P_12_kindHere_14, F_12_kindHere_14, b1, b2, P_12_kindHere_32, F_12_kindHere_32, c1, c2, P_12_kindHere_51, F_12_kindHere_51, d1, d2, P_12_kindHere_69, F_12_kindHere_69, e1, e2, F_12_kindHere_87, if10, if_true, if_false, true_imp_iff, false_imp_iff, not_true_eq_false, not_false_eq_true, true_and, and_true, implies_true, reduceIte]
  by_cases k1 : isW (wT 1) tb n q = true
  · simp only [Bool.false_eq_true, k1, if_true, if_false, true_imp_iff, false_imp_iff, not_true_eq_false, not_false_eq_true, true_and, and_true, implies_true, reduceIte]; exact ⟨M1, rfl, a3, a4⟩
  · by_cases k2 : isW (wT 2) tb n q = true
    · simp only [Bool.false_eq_true, k1, k2, if_true, if_false, true_imp_iff, false_imp_iff, not_true_eq_false, not_false_eq_true, true_and, and_true, implies_true, reduceIte]; exact ⟨M2, rfl, b3, a4.tr b4⟩
    · by_cases k4 : isW (wT 4) tb n q = true
      · simp only [Bool.false_eq_true, k1, k2, k4, if_true, if_false, true_imp_iff, false_imp_iff, not_true_eq_false, not_false_eq_true, true_and, and_true, implies_true, reduceIte]; exact ⟨M3, rfl, c3, (a4.tr b4).tr c4⟩
      · by_cases k3 : isW (wT 3) tb n q = true
        · simp only [Bool.false_eq_true, k1, k2, k3, k4, if_true, if_false, true_imp_iff, false_imp_iff, not_true_eq_false, not_false_eq_true, true_and, and_true, implies_true, reduceIte]; exact ⟨M4, rfl, d3, ((a4.tr b4).tr c4).tr d4⟩
        · by_cases k5 : isW (wT 5) tb n q = true
          · simp only [Bool.false_eq_true, k1, k2, k3, k4, k5, if_true, if_false, true_imp_iff, false_imp_iff, not_true_eq_false, not_false_eq_true, true_and, and_true, implies_true, reduceIte]; exact ⟨M5, rfl, e3, (((a4.tr b4).tr c4).tr d4).tr e4⟩
          · simp only [Bool.false_eq_true, k1, k2, k3, k4, k5, if_true, if_false, true_imp_iff, false_imp_iff, not_true_eq_false, not_false_eq_true, true_and, and_true, implies_true, reduceIte]; exact ⟨M5, rfl, e3, (((a4.tr b4).tr c4).tr d4).tr e4⟩
theorem r_clause {tb : Nat → Nat} {n p c : Nat} {d : DU} {M : Mem} (h : RT tb n p M) (hd : RD d M) (h7 : rd M 0 7 = nI c) (hc : c ≤ 60) : P_12_clause_0 M ∧ ∃ M', F_12_clause_0 M = M' ∧ RC tb n (c + 1) (bnd (clA tb n d (c = 60) p) (sgA tb n)) M' ∧ Kp rC M M' := by
  obtain ⟨a1, M1, a2, a3, a4⟩ := r_kindHere h
  have hb := sk_b (tb := tb) h.2.2.1
  have n6 := h.1.1
  unfold clA
  generalize skT tb n p = q at *
  have d1 : RD d M1 := hd.k a4 (fun c j z => by unfold r4 at z; unfold rD; omega)
  have s1 : rd M1 0 7 = nI c := by rw [a4.g (by unfold r4; omega)]; exact h7
  have K1 : Kp rC M M1 := a4.mono (fun c j z => by unfold r4 at z; unfold rC; omega)
  obtain ⟨b1, M2, b2, b3, b4⟩ := r_sw a3
  have d2 : RD d M2 := d1.k b4 (fun c j z => by unfold r4 at z; unfold rD; omega)
  have s2 : rd M2 0 7 = nI c := by rw [b4.g (by unfold r4; omega)]; exact s1
  have K2 : Kp rC M M2 := K1.tr (b4.mono (fun c j z => by unfold r4 at z; unfold rC; omega))
  rw [P_12_clause_0, F_12_clause_0, a2]
  have e60 : (nI c = 60) ↔ c = 60 := nI_eq (b := 60) (by omega) (by omega)
  obtain ⟨i0, i1, i2, i3, i4, i5, i6, i7, i8⟩ := d1
  have eN : (nI (uN d.1) = 10) ↔ uN d.1 = 10 := nI_eq (b := 10) (by have := i0.1.1; omega) (by omega)
  have eM : (nI (uM d.1) = 24) ↔ uM d.1 = 24 := nI_eq (b := 24) (by have := i0.1.2.1; omega) (by omega)
  have eT : (nI (uT d.1) = 6) ↔ uT d.1 = 6 := nI_eq (b := 6) (by have := i0.1.2.2.1; omega) (by omega)
  have hN := i0.1.1
  have hM := i0.1.2.1
  have hT := i0.1.2.2.1
  have fail : ∀ (k : Nat) (x : Int32), 1 ≤ k → k ≤ 3 → P_12_clause_87 x (F_12_wrong_0 (nI k) (nI q) M1) ∧ ∃ M', F_12_clause_87 x (F_12_wrong_0 (nI k) (nI q) M1) = M' ∧ (RE (k, q) M' ∧ TxE tb n M') ∧ Kp rC M M' := by
    intro k x hk1 hk3
    obtain ⟨M3, w1, w2, w3⟩ := r_wrong a3.2.2.2 (k := k) (q := q) hk1 hk3 (by omega)
    rw [w1, P_12_clause_87, F_12_clause_87, if_neg w2.ne]
    exact ⟨⟨fun z => absurd z w2.ne, fun _ => trivial⟩, M3, rfl, ⟨w2, a3.1.k w3 (fun c j z => by unfold rT at z; omega), q, hb.2, by rw [← w1, r_wrong4]; exact a3.2.1⟩, K1.tr w3.tC⟩
  have go : ∀ (x : Int32) (o : TRs (DU × Nat)), (P_12_clause_99 x M2 ∧ ∃ M', F_12_clause_99 x M2 = M' ∧ RC tb n (c + 1) o M' ∧ Kp rC M2 M') → P_12_clause_87 x M1 ∧ ∃ M', F_12_clause_87 x M1 = M' ∧ RC tb n (c + 1) o M' ∧ Kp rC M M' := by
    intro x o hh
    obtain ⟨y1, M', y2, y3, y4⟩ := hh
    rw [P_12_clause_87, F_12_clause_87, if_pos a3.2.2.2, b2]
    exact ⟨⟨fun _ => ⟨b1, y1⟩, fun z => absurd a3.2.2.2 z⟩, M', y2, y3, K2.tr y4⟩
  have f3 : ∀ x, P_12_clause_78 x M1 ∧ ∃ M', F_12_clause_78 x M1 = M' ∧ (RE (3, q) M' ∧ TxE tb n M') ∧ Kp rC M M' := by
    intro x
    rw [P_12_clause_78, F_12_clause_78, a3.2.1]
    exact fail 3 x (by omega) (by omega)
  suffices hs : P_12_clause_4 (kdT tb n q) M1 ∧ ∃ M', F_12_clause_4 (kdT tb n q) M1 = M' ∧ RC tb n (c + 1) (bnd (if isW (wT 1) tb n q = true then (if c = 60 ∨ uN d.1 = 10 then .inl (3, q) else clR tb n d (weT tb n q)) else if isW (wT 2) tb n q = true then (if c = 60 ∨ uM d.1 = 24 then .inl (3, q) else clD tb n d (weT tb n q)) else if isW (wT 4) tb n q = true then (if c = 60 ∨ uT d.1 = 6 then .inl (3, q) else clT tb n d (weT tb n q)) else if isW (wT 3) tb n q = true then (if c = 60 then .inl (3, q) else clX tb n d (weT tb n q)) else if isW (wT 5) tb n q = true then (if c = 60 then .inl (3, q) else clW tb n d (weT tb n q)) else .inl (1, q)) (sgA tb n)) M' ∧ Kp rC M M' from ⟨⟨a1, hs.1⟩, hs.2⟩
  rw [P_12_clause_4, F_12_clause_4, s1, cl0, i1, P_12_clause_46, F_12_clause_46, cl1, i2, P_12_clause_62, F_12_clause_62, cl2, i3]
  simp only [e60, eN, eM, eT]
  have x0 : ((0 : Int32) = -1) = False := by decide
  have x1 : ((1 : Int32) = -1) = False := by decide
  have x2 : ((2 : Int32) = -1) = False := by decide
  have x3 : ((3 : Int32) = -1) = False := by decide
  have x4 : ((4 : Int32) = -1) = False := by decide
  have y1 : ((1 : Int32) = 0) = False := by decide
  have y2 : ((2 : Int32) = 0) = False := by decide
  have y3 : ((3 : Int32) = 0) = False := by decide
  have y4 : ((4 : Int32) = 0) = False := by decide
  have y5 : ((0 : Int32) = 1) = False := by decide
  have y6 : ((0 : Int32) = 2) = False := by decide
  have y7 : ((1 : Int32) = 2) = False := by decide
  have y8 : ((2 : Int32) = 1) = False := by decide
  have y9 : ((3 : Int32) = 1) = False := by decide
  have z1 : ((3 : Int32) = 2) = False := by decide
  have z2 : ((4 : Int32) = 1) = False := by decide
  have z3 : ((4 : Int32) = 2) = False := by decide
  unfold kdT
  by_cases k1 : isW (wT 1) tb n q = true
  · simp only [Bool.false_eq_true, k1, x0, y5, y6, if_true, if_false, true_imp_iff, false_imp_iff, not_true_eq_false, not_false_eq_true, true_and, and_true, implies_true, reduceIte]
    by_cases cc : c = 60
    · simp only [cc, true_or, if_true, if_false, true_imp_iff, false_imp_iff, not_true_eq_false, not_false_eq_true, true_and, and_true, implies_true, reduceIte]; exact f3 0
    · by_cases cn : uN d.1 = 10
      · simp only [cc, cn, or_true, if_true, if_false, true_imp_iff, false_imp_iff, not_true_eq_false, not_false_eq_true, true_and, and_true, implies_true, reduceIte]; exact f3 0
      · simp only [cc, cn, or_false, if_true, if_false, true_imp_iff, false_imp_iff, not_true_eq_false, not_false_eq_true, true_and, and_true, implies_true, reduceIte]; exact go 0 _ (r_c0 b3 d2 s2 (by omega))
  · by_cases k2 : isW (wT 2) tb n q = true
    · simp only [Bool.false_eq_true, k1, k2, x1, y1, y7, if_true, if_false, true_imp_iff, false_imp_iff, not_true_eq_false, not_false_eq_true, true_and, and_true, implies_true, reduceIte]
      by_cases cc : c = 60
      · simp only [cc, true_or, if_true, if_false, true_imp_iff, false_imp_iff, not_true_eq_false, not_false_eq_true, true_and, and_true, implies_true, reduceIte]; exact f3 1
      · by_cases cn : uM d.1 = 24
        · simp only [cc, cn, or_true, if_true, if_false, true_imp_iff, false_imp_iff, not_true_eq_false, not_false_eq_true, true_and, and_true, implies_true, reduceIte]; exact f3 1
        · simp only [cc, cn, or_false, if_true, if_false, true_imp_iff, false_imp_iff, not_true_eq_false, not_false_eq_true, true_and, and_true, implies_true, reduceIte]; exact go 1 _ (r_c1 b3 d2 s2 (by omega))
    · by_cases k4 : isW (wT 4) tb n q = true
      · simp only [Bool.false_eq_true, k1, k2, k4, x2, y2, y8, if_true, if_false, true_imp_iff, false_imp_iff, not_true_eq_false, not_false_eq_true, true_and, and_true, implies_true, reduceIte]
        by_cases cc : c = 60
        · simp only [cc, true_or, if_true, if_false, true_imp_iff, false_imp_iff, not_true_eq_false, not_false_eq_true, true_and, and_true, implies_true, reduceIte]; exact f3 2
        · by_cases cn : uT d.1 = 6
          · simp only [cc, cn, or_true, if_true, if_false, true_imp_iff, false_imp_iff, not_true_eq_false, not_false_eq_true, true_and, and_true, implies_true, reduceIte]; exact f3 2
          · simp only [cc, cn, or_false, if_true, if_false, true_imp_iff, false_imp_iff, not_true_eq_false, not_false_eq_true, true_and, and_true, implies_true, reduceIte]; exact go 2 _ (r_c2 b3 d2 s2 (by omega))
      · by_cases k3 : isW (wT 3) tb n q = true
        · simp only [Bool.false_eq_true, k1, k2, k3, k4, x3, y3, y9, z1, if_true, if_false, true_imp_iff, false_imp_iff, not_true_eq_false, not_false_eq_true, true_and, and_true, implies_true, reduceIte]
          by_cases cc : c = 60
          · simp only [cc, if_true, if_false, true_imp_iff, false_imp_iff, not_true_eq_false, not_false_eq_true, true_and, and_true, implies_true, reduceIte]; exact f3 3
          · simp only [cc, if_true, if_false, true_imp_iff, false_imp_iff, not_true_eq_false, not_false_eq_true, true_and, and_true, implies_true, reduceIte]; exact go 3 _ (r_c3 b3 d2 s2)
        · by_cases k5 : isW (wT 5) tb n q = true
          · simp only [Bool.false_eq_true, k1, k2, k3, k4, k5, x4, y4, z2, z3, if_true, if_false, true_imp_iff, false_imp_iff, not_true_eq_false, not_false_eq_true, true_and, and_true, implies_true, reduceIte]
            by_cases cc : c = 60
            · simp only [cc, if_true, if_false, true_imp_iff, false_imp_iff, not_true_eq_false, not_false_eq_true, true_and, and_true, implies_true, reduceIte]; exact f3 4
            · simp only [cc, if_true, if_false, true_imp_iff, false_imp_iff, not_true_eq_false, not_false_eq_true, true_and, and_true, implies_true, reduceIte]; exact go 4 _ (r_c4 b3 d2 s2)
          · simp only [Bool.false_eq_true, k1, k2, k3, k4, k5, P_12_clause_19, F_12_clause_19, a3.2.1, if_true, if_false, true_imp_iff, false_imp_iff, not_true_eq_false, not_false_eq_true, true_and, and_true, implies_true, reduceIte]
            exact fail 1 (-1) (by omega) (by omega)
def musA (tb : Nat → Nat) (n : Nat) : Nat → DU → Nat → Nat → TRs DU
  | 0, d, _, _ => .inr d
  | k + 1, d, c, p => if skT tb n p < n then bnd (bnd (clA tb n d (c = 60) p) (sgA tb n)) (fun x => musA tb n k x.1 (c + 1) x.2) else .inr d
def RM (tb : Nat → Nat) (n : Nat) (o : TRs DU) (M : Mem) : Prop := match o with
  | .inl e => RE e M ∧ TxE tb n M
  | .inr d => RD d M ∧ rd M 0 5 = 0
theorem clA_sk {tb : Nat → Nat} {n p : Nat} {d : DU} {full : Prop} [Decidable full] (hp : p ≤ n) : clA tb n d full (skT tb n p) = clA tb n d full p := by
  unfold clA
  rw [sk_sk hp]
theorem clA_60 {tb : Nat → Nat} {n p : Nat} {d : DU} : ∃ e, clA tb n d (60 = 60) p = .inl e := by
  unfold clA
  simp only [true_or, if_true]
  repeat' split
  all_goals exact ⟨_, rfl⟩
theorem r_mus {tb : Nat → Nat} {n : Nat} : ∀ (k c p : Nat) (d : DU) (M : Mem), RT tb n (skT tb n p) M → p ≤ n → RD d M → rd M 0 7 = nI c → c + k = 61 → 0 < k → ∃ M', (P_12_museum_71 M' → ∀ f, k < f → P_12_museum_42 f M) ∧ (∀ f, k < f → F_12_museum_42 f M = F_12_museum_71 M') ∧ RM tb n (musA tb n k d c p) M' ∧ Kp rC M M' := by
  intro k
  induction k with
  | zero => intro c p d M _ _ _ _ _ h; omega
  | succ k ih =>
    intro c p d M h hp hd h7 hck _
    have n6 := h.1.1
    have hb := sk_b (tb := tb) hp
    have e1 : (nI n ≤ nI (skT tb n p)) ↔ ¬ skT tb n p < n := by rw [nI_leI (by omega) (by omega)]; omega
    rw [musA]
    by_cases c1 : skT tb n p < n
    · obtain ⟨a1, M1, a2, a3, a4⟩ := r_clause h hd h7 (by omega)
      rw [clA_sk hp] at a3
      rw [if_pos c1]
      have hf : ∀ f, k + 1 < f → (P_12_museum_42 f M ↔ P_12_museum_64 (P_12_museum_42 (f - 1)) M1) ∧ F_12_museum_42 f M = F_12_museum_64 (F_12_museum_42 (f - 1)) M1 := by
        intro f hf
        obtain ⟨g, rfl⟩ : ∃ g, f = g + 1 := ⟨f - 1, by omega⟩
        rw [P_12_museum_42, F_12_museum_42, h.2.2.2, h.1.2.1, h.2.1, if_pos rfl, if_neg (fun z => e1.mp z c1), a2]
        simp only [e1, c1, not_true_eq_false, a1, Nat.add_sub_cancel, if_true, if_false, true_imp_iff, false_imp_iff, not_true_eq_false, not_false_eq_true, true_and, and_true, implies_true, reduceIte]
      cases o : bnd (clA tb n d (c = 60) p) (sgA tb n) with
      | inl e =>
        rw [o] at a3
        have a3' : RE e M1 ∧ TxE tb n M1 := a3
        obtain ⟨tx, p1, p2, p3⟩ := a3'.2
        obtain ⟨g1, M2, g2, g3, g4⟩ := r_blanks FU p1 M1 tx p3 p2 (by unfold FU; omega)
        have E2 : RE e M2 := a3'.1.k g4 (fun c j z => by unfold r4 at z; omega)
        have X2 : TxE tb n M2 := ⟨tx.k g4 (fun c j z => by unfold r4 at z; omega), skT tb n p1, (sk_b (tb := tb) p2).2, g3⟩
        have last : ∀ f, 0 < f → (P_12_museum_71 M2 → P_12_museum_42 f M2) ∧ F_12_museum_42 f M2 = F_12_museum_71 M2 := by
          intro f hf
          obtain ⟨g, rfl⟩ : ∃ g, f = g + 1 := ⟨f - 1, by omega⟩
          rw [P_12_museum_42, F_12_museum_42, if_neg E2.ne]
          exact ⟨fun z => ⟨fun _ => z, fun w => absurd w E2.ne⟩, rfl⟩
        refine ⟨M2, fun hP f hf' => ?_, fun f hf' => ?_, ⟨E2, X2⟩, a4.tr (g4.mono (fun c j z => by unfold r4 at z; unfold rC; omega))⟩
        · rw [(hf f hf').1, P_12_museum_64, P_12_museum_68, g2]
          exact ⟨g1, (last (f - 1) (by omega)).1 hP⟩
        · rw [(hf f hf').2, F_12_museum_64, F_12_museum_68, g2]
          exact (last (f - 1) (by omega)).2
      | inr x =>
        obtain ⟨d', p'⟩ := x
        rw [o] at a3
        have a3' : RT tb n p' M1 ∧ RD d' M1 ∧ rd M1 0 7 = nI (c + 1) := a3
        have hk0 : 0 < k := by
          by_cases c60 : c = 60
          · subst c60
            obtain ⟨e, he⟩ := clA_60 (tb := tb) (n := n) (p := p) (d := d)
            rw [he] at o
            cases o
          · omega
        obtain ⟨g1, M2, g2, g3, g4⟩ := r_bl a3'.1
        obtain ⟨M', i1, i2, i3, i4⟩ := ih (c + 1) p' d' M2 g3 a3'.1.2.2.1 (a3'.2.1.k g4 (fun c j z => by unfold r4 at z; unfold rD; omega)) (by rw [g4.g (by unfold r4; omega)]; exact a3'.2.2) (by omega) hk0
        refine ⟨M', fun hP f hf' => ?_, fun f hf' => ?_, i3, (a4.tr (g4.mono (fun c j z => by unfold r4 at z; unfold rC; omega))).tr i4⟩
        · rw [(hf f hf').1, P_12_museum_64, P_12_museum_68, g2]
          exact ⟨g1, i1 hP (f - 1) (by omega)⟩
        · rw [(hf f hf').2, F_12_museum_64, F_12_museum_68, g2]
          exact i2 (f - 1) (by omega)
    · rw [if_neg c1]
      refine ⟨M, fun hP f hf' => ?_, fun f hf' => ?_, ⟨hd, h.2.2.2⟩, Kp.rf⟩
      · obtain ⟨g, rfl⟩ : ∃ g, f = g + 1 := ⟨f - 1, by omega⟩
        rw [P_12_museum_42, h.2.2.2, h.1.2.1, h.2.1]
        exact ⟨fun z => absurd rfl z, fun _ => ⟨fun _ => hP, fun z => absurd (e1.mpr c1) z⟩⟩
      · obtain ⟨g, rfl⟩ : ∃ g, f = g + 1 := ⟨f - 1, by omega⟩
        rw [F_12_museum_42, h.2.2.2, h.1.2.1, h.2.1, if_pos rfl, if_pos (e1.mpr c1)]
