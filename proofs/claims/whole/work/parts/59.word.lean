/-! MATHEMATICS 29: words in the reference; the class's tokens -/
def cdW (w : List Nat) : Nat := cdT (fun i => w.getD i 0 - 96) w.length
def okWd (w : List Nat) : Prop := 1 ≤ w.length ∧ w.length ≤ 6 ∧ ∀ i, i < w.length → 97 ≤ w.getD i 0 ∧ w.getD i 0 ≤ 122
theorem we_b {tb : Nat → Nat} {n q : Nat} (hq : q ≤ n) : q ≤ weT tb n q ∧ weT tb n q ≤ n ∧ ∀ i, i < weT tb n q - q → 97 ≤ tb (q + i) ∧ tb (q + i) ≤ 122 := by
  obtain ⟨h1, h2, h3, h4⟩ := nxE_b (P := smP) (tb := tb) (n := n) (n - q) q (by omega)
  refine ⟨h1, h2, fun i hi => ?_⟩
  have := h4 (q + i) (by omega) (by unfold weT at hi; omega)
  simp only [smP, decide_eq_true_eq] at this
  exact this
def wdV (tb : Nat → Nat) (n q : Nat) : Int32 := if weT tb n q - q ≤ 6 then nI (cdT (fun i => tb (q + i) - 96) (weT tb n q - q)) else -1
theorem cd_b {a : Nat → Nat} {k : Nat} (hk : k ≤ 6) (h : ∀ i, i < k → a i ≤ 26) : cdT a k < 387420489 := by
  have h1 := cdT_lt k h
  have h2 : 27 ^ k ≤ 27 ^ 6 := Nat.pow_le_pow_right (by decide) hk
  have h3 : 27 ^ 6 = 387420489 := by decide
  omega
theorem wdV_is {tb : Nat → Nat} {n q : Nat} (hq : q ≤ n) {w : List Nat} (hw : okWd w) : (wdV tb n q = nI (cdW w)) ↔ isW w tb n q = true := by
  obtain ⟨h1, h2, h3⟩ := we_b (tb := tb) hq
  have hcw : cdW w < 387420489 := cd_b hw.2.1 (fun i hi => by have := hw.2.2 i hi; omega)
  unfold isW wdV
  rw [Bool.and_eq_true, decide_eq_true_eq, decide_eq_true_eq]
  by_cases c : weT tb n q - q ≤ 6
  · have hca : cdT (fun i => tb (q + i) - 96) (weT tb n q - q) < 387420489 := cd_b c (fun i hi => by have := h3 i hi; omega)
    rw [if_pos c, nI_eq (by omega) (by omega)]
    unfold cdW
    constructor
    · intro h
      obtain ⟨g1, g2⟩ := cdT_inj _ _ (fun i hi => by have := h3 i hi; omega) (fun i hi => by have := hw.2.2 i hi; omega) h
      refine ⟨g1, fun i hi => ?_⟩
      have a1 := g2 i (by omega)
      have a2 := h3 i (by omega)
      have a3 := hw.2.2 i hi
      try dsimp only at a1
      omega
    · rintro ⟨g1, g2⟩
      rw [g1]
      exact cdT_cg (fun i hi => by rw [g2 i hi])
  · rw [if_neg c]
    exact ⟨fun z => absurd z (nI_m1' (by omega)), fun z => by have := hw.2.1; omega⟩
theorem r_wordHere {tb : Nat → Nat} {n p : Nat} {M : Mem} (h : RT tb n p M) : P_12_wordHere_0 M ∧ ∃ M', F_12_wordHere_0 M = (wdV tb n (skT tb n p), M') ∧ RT tb n (skT tb n p) M' ∧ Kp r4 M M' := by
  obtain ⟨g1, M1, g2, g3, g4⟩ := r_bl h
  have h6 := h.1.1
  have hb := sk_b (tb := tb) h.2.2.1
  generalize skT tb n p = q at *
  obtain ⟨w1, w2, w3⟩ := we_b (tb := tb) hb.2
  have loop : ∀ (k j : Nat), q + j ≤ n → (∀ i, i < j → q + i < n ∧ smP (tb (q + i)) = true) → n - (q + j) < k → P_12_wordHere_8 k (nI (cdT (fun i => tb (q + i) - 96) (if j ≤ 6 then j else 6))) (nI j) M1 ∧ F_12_wordHere_8 k (nI (cdT (fun i => tb (q + i) - 96) (if j ≤ 6 then j else 6))) (nI j) M1 = (wdV tb n q, M1) := by
    intro k
    induction k with
    | zero => intro j _ _ h; omega
    | succ k ih =>
      intro j hjn hsm hk
      obtain ⟨c1, c2⟩ := r_byte g3.1 (i := q + j) (by omega)
      have e2 := ch_sm (tb := tb) (n := n) (i := q + j) (M := M1) (fun z => (g3.1.2.2 _ z).2)
      have e6 : (nI j ≤ 6) ↔ j ≤ 6 := nI_leI (b := 6) (by omega) (by omega)
      have e6' : ((6 : Int32) ≤ nI j) ↔ 6 ≤ j := nI_leI (a := 6) (by omega) (by omega)
      rw [P_12_wordHere_8, F_12_wordHere_8, g3.2.1, nI_add, c2, e2]
      simp only [c1, if10, e6, e6', if_true, if_false, true_imp_iff, false_imp_iff, not_true_eq_false, not_false_eq_true, true_and, and_true, implies_true, reduceIte, P_12_wordHere_54, F_12_wordHere_54]
      by_cases cc : q + j < n ∧ smP (tb (q + j)) = true
      · have hs' : ∀ i, i < j + 1 → q + i < n ∧ smP (tb (q + i)) = true := fun i hi => by
          by_cases e : i = j
          · subst e; exact cc
          · exact hsm i (by omega)
        have hg := ih (j + 1) (by omega) hs' (by omega)
        rw [← nI_1] at hg
        by_cases c6 : 6 ≤ j
        · have ee : (if j + 1 ≤ 6 then j + 1 else 6) = (if j ≤ 6 then j else 6) := by
            rw [if_neg (by omega)]
            split <;> omega
          rw [ee] at hg
          simp only [cc, c6, and_self, not_true_eq_false, if_true, if_false, true_imp_iff, false_imp_iff, not_true_eq_false, not_false_eq_true, true_and, and_true, implies_true, reduceIte]
          exact hg
        · have hdd : 97 ≤ tb (q + j) ∧ tb (q + j) ≤ 122 := by have := cc.2; simp only [smP, decide_eq_true_eq] at this; exact this
          have ech : chT tb n (q + j) = nI (tb (q + j)) := if_pos cc.1
          rw [if_pos (by omega), cdT] at hg
          have hcb : cdT (fun i => tb (q + i) - 96) j < 387420489 := cd_b (by omega) (fun i hi => by
            have := (hsm i hi).2; simp only [smP, decide_eq_true_eq] at this; omega)
          have ev : (27 : Int32) * nI (cdT (fun i => tb (q + i) - 96) j) + nI (tb (q + j)) - 97 + 1 = nI (27 * cdT (fun i => tb (q + i) - 96) j + (tb (q + j) - 96)) := by
            rw [show (27 : Int32) = nI 27 from rfl, pk_mul, nI_add, show (97 : Int32) = nI 97 from rfl, pk_sub (by omega), nI_1]
            congr 1
            omega
          rw [if_pos (by omega : j ≤ 6)]
          simp only [cc, c6, and_self, not_true_eq_false, ech, ev, if_true, if_false, true_imp_iff, false_imp_iff, not_true_eq_false, not_false_eq_true, true_and, and_true, implies_true, reduceIte]
          exact hg
      · have hwe : weT tb n q = q + j := by
          have : ∀ i, i ≤ j → nxE smP tb n (q + (j - i)) = q + j := by
            intro i
            induction i with
            | zero => intro _; rw [Nat.sub_zero]; exact nxE_e cc
            | succ i ih2 =>
              intro hi
              have := hsm (j - (i + 1)) (by omega)
              rw [nxE_s this.1 this.2, show q + (j - (i + 1)) + 1 = q + (j - i) by omega]
              exact ih2 (by omega)
          have := this j (Nat.le_refl _)
          rw [Nat.sub_self, Nat.add_zero] at this
          exact this
        have ek : weT tb n q - q = j := by omega
        unfold wdV
        rw [ek]
        by_cases c6 : j ≤ 6
        · simp only [cc, c6, not_false_eq_true, if_true, if_false, true_imp_iff, false_imp_iff, not_true_eq_false, not_false_eq_true, true_and, and_true, implies_true, reduceIte]
        · simp only [cc, c6, not_false_eq_true, if_true, if_false, true_imp_iff, false_imp_iff, not_true_eq_false, not_false_eq_true, true_and, and_true, implies_true, reduceIte]
  have := loop FU 0 (by omega) (fun i h => by omega) (by unfold FU; omega)
  rw [P_12_wordHere_0, F_12_wordHere_0, g2, P_12_wordHere_4, F_12_wordHere_4]
  exact ⟨⟨g1, this.1⟩, M1, this.2, g3, g4⟩
theorem r_isWord {tb : Nat → Nat} {n p : Nat} {M : Mem} (h : RT tb n p M) {w : List Nat} (hw : okWd w) {a b c d e f : Int32} (h6 : ∀ M', F_12_six_0 M' a b c d e f = nI (cdW w)) : P_12_isWord_0 a b c d e f M ∧ ∃ M', F_12_isWord_0 a b c d e f M = (if isW w tb n (skT tb n p) = true then 1 else 0, M') ∧ RT tb n (skT tb n p) M' ∧ Kp r4 M M' := by
  obtain ⟨g1, M1, g2, g3, g4⟩ := r_wordHere h
  have hb := sk_b (tb := tb) h.2.2.1
  have e1 := wdV_is (tb := tb) hb.2 hw
  rw [P_12_isWord_0, F_12_isWord_0, g2]
  simp only [h.2.2.2, g1, F_12_isWord_11, F_12_isWord_30, h6, e1, if_true, if_false, true_imp_iff, false_imp_iff, not_true_eq_false, not_false_eq_true, true_and, and_true, implies_true, reduceIte]
  by_cases cc : isW w tb n (skT tb n p) = true
  · rw [if_pos cc, if_pos cc]; exact ⟨M1, rfl, g3, g4⟩
  · rw [if_neg cc, if_neg cc]; exact ⟨M1, rfl, g3, g4⟩
theorem r_takes {tb : Nat → Nat} {n p : Nat} {M : Mem} (h : RT tb n p M) {w : List Nat} (hw : okWd w) {a b c d e f : Int32} (h6 : ∀ M', F_12_six_0 M' a b c d e f = nI (cdW w)) : P_12_takes_0 a b c d e f M ∧ ∃ M', F_12_takes_0 a b c d e f M = (if isW w tb n (skT tb n p) = true then 1 else 0, M') ∧ RT tb n (if isW w tb n (skT tb n p) = true then weT tb n (skT tb n p) else skT tb n p) M' ∧ Kp r4 M M' := by
  obtain ⟨g1, M1, g2, g3, g4⟩ := r_isWord h hw h6
  obtain ⟨s1, M2, s2, s3, s4⟩ := r_sw g3
  rw [P_12_takes_0, F_12_takes_0, g2]
  simp only [g1, P_12_takes_13, F_12_takes_13, P_12_takes_24, F_12_takes_24, ib0, s1, s2, if_true, if_false, true_imp_iff, false_imp_iff, not_true_eq_false, not_false_eq_true, true_and, and_true, implies_true, reduceIte]
  cases cc : isW w tb n (skT tb n p)
  · simp only [Bool.false_eq_true, if_true, if_false, true_imp_iff, false_imp_iff, not_true_eq_false, not_false_eq_true, true_and, and_true, implies_true, reduceIte]
    exact ⟨rfl, M1, rfl, g3, g4⟩
  · simp only [Bool.true_eq_false, if_true, if_false, true_imp_iff, false_imp_iff, not_true_eq_false, not_false_eq_true, true_and, and_true, implies_true, reduceIte]
    exact ⟨rfl, M2, rfl, s3, g4.tr s4⟩
def wTO : List Nat := [116, 111]
theorem ok_TO : okWd wTO := by unfold okWd wTO; decide
theorem r_isTo {tb : Nat → Nat} {n p : Nat} {M : Mem} (h : RT tb n p M) : P_12_isTo_0 M ∧ ∃ M', F_12_isTo_0 M = (if isW wTO tb n (skT tb n p) = true then 1 else 0, M') ∧ RT tb n (if isW wTO tb n (skT tb n p) = true then weT tb n (skT tb n p) else skT tb n p) M' ∧ Kp r4 M M' := by
  obtain ⟨g1, M1, g2, g3, g4⟩ := r_wordHere h
  have hb := sk_b (tb := tb) h.2.2.1
  obtain ⟨s1, M2, s2, s3, s4⟩ := r_sw g3
  have e1 : (wdV tb n (skT tb n p) = 555) ↔ isW wTO tb n (skT tb n p) = true := wdV_is (tb := tb) hb.2 ok_TO
  rw [P_12_isTo_0, F_12_isTo_0, g2]
  simp only [h.2.2.2, g1, P_12_isTo_11, F_12_isTo_11, P_12_isTo_21, F_12_isTo_21, P_12_isTo_22, F_12_isTo_22, P_12_isTo_31, F_12_isTo_31, e1, i1_0, s1, s2, if_true, if_false, true_imp_iff, false_imp_iff, not_true_eq_false, not_false_eq_true, true_and, and_true, implies_true, reduceIte]
  cases cc : isW wTO tb n (skT tb n p)
  · simp only [Bool.false_eq_true, if_true, if_false, true_imp_iff, false_imp_iff, not_true_eq_false, not_false_eq_true, true_and, and_true, implies_true, reduceIte]
    exact ⟨rfl, M1, rfl, g3, g4⟩
  · simp only [if_true, if_false, true_imp_iff, false_imp_iff, not_true_eq_false, not_false_eq_true, true_and, and_true, implies_true, reduceIte]
    exact ⟨rfl, M2, rfl, s3, g4.tr s4⟩
/-! the class -/
def Cx (tb : Nat → Nat) (n : Nat) (M : Mem) : Prop := n ≤ 600 ∧ rd M 1560 1 = nI n ∧ ∀ i, i < n → rd M 1559 i &&& 255 = nI (tb i) ∧ (rd M 1559 i = 32 ↔ tb i = 32) ∧ tb i < 256
def cT (c j : Nat) : Prop := c = 1560 ∧ 2 ≤ j ∧ j ≤ 7
theorem Cx.k {p : Nat → Nat → Prop} {tb : Nat → Nat} {n : Nat} {M M' : Mem} (h : Cx tb n M) (hk : Kp p M M') (hp : ∀ c j, p c j → c ≠ 1559 ∧ ¬ (c = 1560 ∧ j = 1)) : Cx tb n M' := by
  obtain ⟨h1, h2, h3⟩ := h
  refine ⟨h1, by rw [hk.g (fun z => (hp _ _ z).2 ⟨rfl, rfl⟩)]; exact h2, fun i hi => ?_⟩
  rw [hk.g (fun z => (hp _ _ z).1 rfl)]
  exact h3 i hi
theorem Cx.t {tb : Nat → Nat} {n : Nat} {M M' : Mem} (h : Cx tb n M) (hk : Kp cT M M') : Cx tb n M' := h.k hk (fun c j z => by unfold cT at z; omega)
def CT (tb : Nat → Nat) (n p : Nat) (M : Mem) : Prop := Cx tb n M ∧ rd M 1560 2 = nI p ∧ p ≤ n
theorem c_peek {tb : Nat → Nat} {n : Nat} : ∀ (k p : Nat) (M : Mem), CT tb n p M → n - p < k → P_5_peek_0 k M ∧ ∃ M', F_5_peek_0 k M = (chT tb n (skT tb n p), M') ∧ CT tb n (skT tb n p) M' ∧ rd M' 1560 4 = nI (skT tb n p) ∧ Kp cT M M' := by
  intro k
  induction k with
  | zero => intro p M _ h; omega
  | succ k ih =>
    intro p M h hk
    have h6 := h.1.1
    have hpn := h.2.2
    have e1 : (nI n ≤ nI p) ↔ ¬ p < n := by rw [nI_leI (by omega) (by omega)]; omega
    have fin : skT tb n p = p → P_5_peek_38 M ∧ ∃ M', F_5_peek_38 M = (chT tb n (skT tb n p), M') ∧ CT tb n (skT tb n p) M' ∧ rd M' 1560 4 = nI (skT tb n p) ∧ Kp cT M M' := by
      intro hs
      have hK : Kp cT M (wr M 1560 4 (nI p)) := Kp.rf.w ⟨rfl, by omega, by omega⟩
      have a1 : rd (wr M 1560 4 (nI p)) 1560 1 = nI n := by rw [rd_i (by decide)]; exact h.1.2.1
      have a2 : rd (wr M 1560 4 (nI p)) 1560 2 = nI p := by rw [rd_i (by decide)]; exact h.2.1
      have a3 : ∀ i, rd (wr M 1560 4 (nI p)) 1559 i = rd M 1559 i := fun i => rd_c (by decide)
      rw [P_5_peek_38, F_5_peek_38, h.2.1, a1, a2, a3, hs]
      simp only [e1]
      refine ⟨⟨fun _ => trivial, fun _ => (vp_iff (by omega)).mpr (by omega)⟩, wr M 1560 4 (nI p), ?_, ⟨h.1.t hK, a2, hpn⟩, rd_s _ _ _ _, hK⟩
      unfold chT
      by_cases c : p < n
      · rw [if_neg (fun z => z c), if_pos c, nI_clamp (by omega), (h.1.2.2 p c).1]
      · rw [if_pos c, if_neg c]
    rw [P_5_peek_0, F_5_peek_0, h.1.2.1, h.2.1]
    simp only [e1]
    by_cases c : p < n
    · have v1 : vp_in (nI p) 600 := (vp_iff (by omega)).mpr (by omega)
      have e2 := (h.1.2.2 p c).2.1
      simp only [c, v1, nI_clamp (n := p) (by omega), e2, not_true_eq_false, if_true, if_false, true_imp_iff, false_imp_iff, not_true_eq_false, not_false_eq_true, true_and, and_true, implies_true, reduceIte]
      by_cases c2 : tb p = 32
      · have hs : skT tb n p = skT tb n (p + 1) := nxE_s c (by simp [blP, c2])
        have hK : Kp cT M (wr M 1560 2 (nI p + 1)) := Kp.rf.w ⟨rfl, by omega, by omega⟩
        obtain ⟨g1, M', g2, g3, g4, g5⟩ := ih (p + 1) (wr M 1560 2 (nI p + 1)) ⟨h.1.t hK, by rw [rd_s, nI_1], by omega⟩ (by omega)
        simp only [c2, if_true, if_false, true_imp_iff, false_imp_iff, not_true_eq_false, not_false_eq_true, true_and, and_true, implies_true, reduceIte]
        rw [hs]
        exact ⟨g1, M', g2, g3, g4, hK.tr g5⟩
      · have hs : skT tb n p = p := nxE_e (fun z => c2 (by simpa [blP] using z.2))
        simp only [c2, if_true, if_false, true_imp_iff, false_imp_iff, not_true_eq_false, not_false_eq_true, true_and, and_true, implies_true, reduceIte]
        exact fin hs
    · have hs : skT tb n p = p := nxE_e (fun z => c z.1)
      simp only [c, not_false_eq_true, if_true, if_false, true_imp_iff, false_imp_iff, not_true_eq_false, not_false_eq_true, true_and, and_true, implies_true, reduceIte]
      exact fin hs
theorem c_pk {tb : Nat → Nat} {n p : Nat} {M : Mem} (h : CT tb n p M) : P_5_peek_0 FU M ∧ ∃ M', F_5_peek_0 FU M = (chT tb n (skT tb n p), M') ∧ CT tb n (skT tb n p) M' ∧ rd M' 1560 4 = nI (skT tb n p) ∧ Kp cT M M' := c_peek FU p M h (by have := h.1.1; unfold FU; omega)
/-- a fault in the class -/
def CErr (e : Nat × Nat) (M : Mem) : Prop := rd M 1560 6 = nI e.1 ∧ rd M 1560 7 = nI e.2
theorem c_fail {M : Mem} {k q : Nat} : ∃ M', F_5_fail_0 (nI k) (nI q) M = (0, M') ∧ CErr (k, q) M' ∧ Kp cT M M' := ⟨_, rfl, ⟨by rw [rd_i (by decide), rd_s], rd_s _ _ _ _⟩, (Kp.rf.w ⟨rfl, by omega, by omega⟩).w ⟨rfl, by omega, by omega⟩⟩
/-- what a token answers and leaves -/
def CA (tb : Nat → Nat) (n : Nat) (o : TRs Nat) (z : Int32 × Mem) : Prop := match o with
  | .inl e => z.1 = 0 ∧ CErr e z.2
  | .inr p => z.1 = 1 ∧ CT tb n p z.2
theorem nar_b {x : Int32} (h : x = 0 ∨ x = 1) : narrow .boolean (.int x) = .int x := by rcases h with rfl | rfl <;> rfl
theorem c_needs {tb : Nat → Nat} {n p c : Nat} {M : Mem} (h : CT tb n p M) (hc : c < 256) : P_5_needs_0 (nI c) M ∧ CA tb n (tkS c tb n p) (F_5_needs_0 (nI c) M) ∧ Kp cT M (F_5_needs_0 (nI c) M).2 := by
  obtain ⟨g1, M1, g2, g3, g4, g5⟩ := c_pk h
  have h6 := h.1.1
  have hb := sk_b (tb := tb) h.2.2
  have e1 := ch_eq (tb := tb) (n := n) (i := skT tb n p) (c := c) (fun z => (g3.1.2.2 _ z).2.2) hc
  obtain ⟨M2, w1, w2, w3⟩ := c_fail (M := M1) (k := 1) (q := skT tb n p)
  have w1' : F_5_fail_0 1 (nI (skT tb n p)) M1 = (0, M2) := w1
  rw [P_5_needs_0, F_5_needs_0, g2]
  simp only [g1, P_5_needs_4, F_5_needs_4, P_5_needs_17, F_5_needs_17, e1, g4, w1', if_true, if_false, true_imp_iff, false_imp_iff, not_true_eq_false, not_false_eq_true, true_and, and_true, implies_true, reduceIte]
  unfold tkS
  by_cases cc : skT tb n p < n ∧ tb (skT tb n p) = c
  · rw [if_pos cc, if_pos cc]
    have hK : Kp cT M1 (wr M1 1560 2 (rd M1 1560 2 + 1)) := Kp.rf.w ⟨rfl, by omega, by omega⟩
    exact ⟨fun z => absurd cc z, ⟨rfl, g3.1.t hK, by rw [rd_s, g3.2.1, nI_1], by omega⟩, g5.tr hK⟩
  · rw [if_neg cc, if_neg cc]
    exact ⟨fun _ => nar_b (Or.inl rfl), ⟨rfl, w2⟩, g5.tr w3⟩
theorem c_takes {tb : Nat → Nat} {n p c : Nat} {M : Mem} (h : CT tb n p M) (hc : c < 256) : P_5_takes_0 (nI c) M ∧ ∃ M', F_5_takes_0 (nI c) M = ((if skT tb n p < n ∧ tb (skT tb n p) = c then 1 else 0), M') ∧ CT tb n (if skT tb n p < n ∧ tb (skT tb n p) = c then skT tb n p + 1 else skT tb n p) M' ∧ Kp cT M M' := by
  obtain ⟨g1, M1, g2, g3, g4, g5⟩ := c_pk h
  have h6 := h.1.1
  have hb := sk_b (tb := tb) h.2.2
  have e1 := ch_eq (tb := tb) (n := n) (i := skT tb n p) (c := c) (fun z => (g3.1.2.2 _ z).2.2) hc
  rw [P_5_takes_0, F_5_takes_0, g2]
  simp only [g1, F_5_takes_4, e1, if_true, if_false, true_imp_iff, false_imp_iff, not_true_eq_false, not_false_eq_true, true_and, and_true, implies_true, reduceIte]
  by_cases cc : skT tb n p < n ∧ tb (skT tb n p) = c
  · simp only [cc, and_self, if_true, if_false, true_imp_iff, false_imp_iff, not_true_eq_false, not_false_eq_true, true_and, and_true, implies_true, reduceIte]
    have hK : Kp cT M1 (wr M1 1560 2 (rd M1 1560 2 + 1)) := Kp.rf.w ⟨rfl, by omega, by omega⟩
    exact ⟨_, rfl, ⟨g3.1.t hK, by rw [rd_s, g3.2.1, nI_1], by omega⟩, g5.tr hK⟩
  · simp only [cc, if_true, if_false, true_imp_iff, false_imp_iff, not_true_eq_false, not_false_eq_true, true_and, and_true, implies_true, reduceIte]
    exact ⟨M1, rfl, g3, g5⟩
theorem ch_m1 {tb : Nat → Nat} {n i : Nat} (hb : i < n → tb i < 256) : (chT tb n i = -1) ↔ ¬ i < n := by
  unfold chT
  by_cases h : i < n
  · have := hb h
    rw [if_pos h]
    exact ⟨fun z => absurd z (nI_m1 (by omega)), fun z => absurd h z⟩
  · rw [if_neg h]; simp [h]
theorem c_atEnd {tb : Nat → Nat} {n p : Nat} {M : Mem} (h : CT tb n p M) : P_5_atEnd_0 M ∧ ∃ M', F_5_atEnd_0 M = ((if skT tb n p < n then 0 else 1), M') ∧ CT tb n (skT tb n p) M' ∧ rd M' 1560 4 = nI (skT tb n p) ∧ Kp cT M M' := by
  obtain ⟨g1, M1, g2, g3, g4, g5⟩ := c_pk h
  have e1 := ch_m1 (tb := tb) (n := n) (i := skT tb n p) (fun z => (g3.1.2.2 _ z).2.2)
  rw [P_5_atEnd_0, F_5_atEnd_0, g2]
  simp only [g1, F_5_atEnd_4, e1, if_true, if_false, true_imp_iff, false_imp_iff, not_true_eq_false, not_false_eq_true, true_and, and_true, implies_true, reduceIte]
  by_cases cc : skT tb n p < n
  · simp only [cc, not_true_eq_false, if_true, if_false, true_imp_iff, false_imp_iff, not_true_eq_false, not_false_eq_true, true_and, and_true, implies_true, reduceIte]; exact ⟨M1, rfl, g3, g4, g5⟩
  · simp only [cc, not_false_eq_true, if_true, if_false, true_imp_iff, false_imp_iff, not_true_eq_false, not_false_eq_true, true_and, and_true, implies_true, reduceIte]; exact ⟨M1, rfl, g3, g4, g5⟩
theorem c_needsEnd {tb : Nat → Nat} {n p : Nat} {M : Mem} (h : CT tb n p M) : P_5_needsEnd_0 M ∧ CA tb n (if skT tb n p < n then .inl (1, skT tb n p) else .inr (skT tb n p)) (F_5_needsEnd_0 M) ∧ Kp cT M (F_5_needsEnd_0 M).2 := by
  obtain ⟨g1, M1, g2, g3, g4, g5⟩ := c_pk h
  have e1 := ch_m1 (tb := tb) (n := n) (i := skT tb n p) (fun z => (g3.1.2.2 _ z).2.2)
  obtain ⟨M2, w1, w2, w3⟩ := c_fail (M := M1) (k := 1) (q := skT tb n p)
  have w1' : F_5_fail_0 1 (nI (skT tb n p)) M1 = (0, M2) := w1
  rw [P_5_needsEnd_0, F_5_needsEnd_0, g2]
  simp only [g1, F_5_needsEnd_4, F_5_needsEnd_17, F_5_needsEnd_20, e1, g4, w1', if_true, if_false, true_imp_iff, false_imp_iff, not_true_eq_false, not_false_eq_true, true_and, and_true, implies_true, reduceIte]
  by_cases cc : skT tb n p < n
  · simp only [cc, not_true_eq_false, if_true, if_false, true_imp_iff, false_imp_iff, not_true_eq_false, not_false_eq_true, true_and, and_true, implies_true, reduceIte]; exact ⟨⟨rfl, w2⟩, g5.tr w3⟩
  · simp only [cc, not_false_eq_true, if_true, if_false, true_imp_iff, false_imp_iff, not_true_eq_false, not_false_eq_true, true_and, and_true, implies_true, reduceIte]; exact ⟨⟨rfl, g3⟩, g5⟩
theorem c_byte {tb : Nat → Nat} {n : Nat} {M : Mem} (h : Cx tb n M) {i : Nat} (hi : i < 2 ^ 31) : P_5_byteAt_0 M (nI i) ∧ F_5_byteAt_0 M (nI i) = chT tb n i := by
  obtain ⟨h1, h2, h3⟩ := h
  have e1 : (nI n ≤ nI i) ↔ ¬ i < n := by rw [nI_leI (by omega) hi]; omega
  have e0 : ¬ nI i < 0 := nI_pos hi
  rw [P_5_byteAt_0, F_5_byteAt_0, h2, F_5_byteAt_25]
  simp only [e0, e1, if_true, if_false, true_imp_iff, false_imp_iff, not_true_eq_false, not_false_eq_true, true_and, and_true, implies_true, reduceIte]
  unfold chT
  by_cases c : i < n
  · simp only [c, not_true_eq_false, nI_clamp hi, (h3 i c).1, if_true, if_false, true_imp_iff, false_imp_iff, not_true_eq_false, not_false_eq_true, true_and, and_true, implies_true, reduceIte]
    exact (vp_iff hi).mpr (by omega)
  · simp only [c, not_false_eq_true, if_true, if_false, true_imp_iff, false_imp_iff, not_true_eq_false, not_false_eq_true, true_and, and_true, implies_true, reduceIte]
theorem cch_dg {tb : Nat → Nat} {n i : Nat} (hb : i < n → tb i < 256) {M : Mem} : F_5_isDigit_0 M (chT tb n i) = if i < n ∧ dgP (tb i) = true then 1 else 0 := ch_dg hb (M := M)
theorem cch_sm {tb : Nat → Nat} {n i : Nat} (hb : i < n → tb i < 256) {M : Mem} : F_5_isLetter_0 M (chT tb n i) = if i < n ∧ smP (tb i) = true then 1 else 0 := ch_sm hb (M := M)
theorem c_needsWord {tb : Nat → Nat} {n p : Nat} {M : Mem} (h : CT tb n p M) : P_5_needsWord_0 M ∧ Kp cT M (F_5_needsWord_0 M).2 ∧ ((skT tb n p < n ∧ smP (tb (skT tb n p)) = true ∧ (F_5_needsWord_0 M).1 = 1 ∧ CT tb n (weT tb n (skT tb n p)) (F_5_needsWord_0 M).2 ∧ rd (F_5_needsWord_0 M).2 1560 4 = nI (skT tb n p) ∧ rd (F_5_needsWord_0 M).2 1560 3 = nI (weT tb n (skT tb n p))) ∨ (¬ (skT tb n p < n ∧ smP (tb (skT tb n p)) = true) ∧ (F_5_needsWord_0 M).1 = 0 ∧ CErr (1, skT tb n p) (F_5_needsWord_0 M).2)) := by
  obtain ⟨g1, M1, g2, g3, g4, g5⟩ := c_pk h
  have h6 := h.1.1
  have hb := sk_b (tb := tb) h.2.2
  generalize skT tb n p = q at *
  have e1 := cch_sm (tb := tb) (n := n) (i := q) (M := M1) (fun z => (g3.1.2.2 _ z).2.2)
  obtain ⟨M2, w1, w2, w3⟩ := c_fail (M := M1) (k := 1) (q := q)
  have w1' : F_5_fail_0 1 (nI q) M1 = (0, M2) := w1
  have loop : ∀ (k j : Nat) (M2 : Mem), CT tb n j M2 → rd M2 1560 4 = nI q → n - j < k → Kp cT M M2 → P_5_needsWord_20 k M2 ∧ ∃ M', F_5_needsWord_20 k M2 = (1, M') ∧ CT tb n (weT tb n j) M' ∧ rd M' 1560 4 = nI q ∧ rd M' 1560 3 = nI (weT tb n j) ∧ Kp cT M M' := by
    intro k
    induction k with
    | zero => intro j M2 _ _ h; omega
    | succ k ih =>
      intro j M2 h2 h4 hk hK
      have hjn := h2.2.2
      have e2 : (nI n ≤ nI j) ↔ ¬ j < n := by rw [nI_leI (by omega) (by omega)]; omega
      obtain ⟨c1, c2⟩ := c_byte h2.1 (i := j) (by omega)
      have e3 := cch_sm (tb := tb) (n := n) (i := j) (M := M2) (fun z => (h2.1.2.2 _ z).2.2)
      have fin : weT tb n j = j → ∃ M', ((1 : Int32), wr M2 1560 3 (nI j)) = (1, M') ∧ CT tb n (weT tb n j) M' ∧ rd M' 1560 4 = nI q ∧ rd M' 1560 3 = nI (weT tb n j) ∧ Kp cT M M' := by
        intro he
        have hK2 : Kp cT M2 (wr M2 1560 3 (nI j)) := Kp.rf.w ⟨rfl, by omega, by omega⟩
        rw [he]
        exact ⟨_, rfl, ⟨h2.1.t hK2, by rw [rd_i (by decide)]; exact h2.2.1, hjn⟩, by rw [rd_i (by decide)]; exact h4, rd_s _ _ _ _, hK.tr hK2⟩
      rw [P_5_needsWord_20, F_5_needsWord_20, h2.1.2.1, h2.2.1, c2, e3]
      simp only [e2, c1, if10, if_true, if_false, true_imp_iff, false_imp_iff, not_true_eq_false, not_false_eq_true, true_and, and_true, implies_true, reduceIte]
      by_cases c : j < n
      · by_cases c2 : smP (tb j) = true
        · have hK2 : Kp cT M2 (wr M2 1560 2 (nI j + 1)) := Kp.rf.w ⟨rfl, by omega, by omega⟩
          obtain ⟨i1, M', i2, i3, i4, i5, i6⟩ := ih (j + 1) (wr M2 1560 2 (nI j + 1)) ⟨h2.1.t hK2, by rw [rd_s, nI_1], by omega⟩ (by rw [rd_i (by decide)]; exact h4) (by omega) (hK.tr hK2)
          have hs : weT tb n j = weT tb n (j + 1) := nxE_s c c2
          simp only [c, c2, and_self, not_true_eq_false, if_true, if_false, true_imp_iff, false_imp_iff, not_true_eq_false, not_false_eq_true, true_and, and_true, implies_true, reduceIte]
          rw [hs]
          exact ⟨i1, M', i2, i3, i4, i5, i6⟩
        · have c2' := Bool.eq_false_iff.mpr c2
          simp only [c, c2', Bool.false_eq_true, and_false, not_true_eq_false, not_false_eq_true, if_true, if_false, true_imp_iff, false_imp_iff, not_true_eq_false, not_false_eq_true, true_and, and_true, implies_true, reduceIte]
          exact fin (nxE_e (fun z => c2 z.2))
      · simp only [c, not_false_eq_true, if_true, if_false, true_imp_iff, false_imp_iff, not_true_eq_false, not_false_eq_true, true_and, and_true, implies_true, reduceIte]
        exact fin (nxE_e (fun z => c z.1))
  rw [P_5_needsWord_0, F_5_needsWord_0, g2]
  simp only [g1, P_5_needsWord_4, F_5_needsWord_4, P_5_needsWord_19, F_5_needsWord_19, e1, if10, g4, w1', if_true, if_false, true_imp_iff, false_imp_iff, not_true_eq_false, not_false_eq_true, true_and, and_true, implies_true, reduceIte]
  by_cases cc : q < n ∧ smP (tb q) = true
  · obtain ⟨l1, M', l2, l3, l4, l5, l6⟩ := loop FU q M1 g3 g4 (by unfold FU; omega) g5
    simp only [cc, and_self, not_true_eq_false, l1, l2, if_true, if_false, true_imp_iff, false_imp_iff, not_true_eq_false, not_false_eq_true, true_and, and_true, implies_true, reduceIte]
    exact ⟨l6, Or.inl ⟨l3, l4, l5⟩⟩
  · simp only [cc, not_false_eq_true, if_true, if_false, true_imp_iff, false_imp_iff, not_true_eq_false, not_false_eq_true, true_and, and_true, implies_true, reduceIte]
    refine ⟨nar_b (Or.inl rfl), g5.tr w3, Or.inr w2⟩
