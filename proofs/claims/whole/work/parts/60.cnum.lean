/-! MATHEMATICS 30: the class's numbers and words -/
theorem c_needsNumber {tb : Nat → Nat} {n p hi : Nat} {M : Mem} {xh : Int32} (h : CT tb n p M) (hin : ∀ v, v ≤ 100000 → (nI v ≤ xh ↔ v < hi)) : P_5_needsNumber_0 xh M ∧ Kp cT M (F_5_needsNumber_0 xh M).2 ∧ CA tb n (fsT (tkN tb n p 0 hi)) (F_5_needsNumber_0 xh M) ∧ (∀ v q, tkN tb n p 0 hi = .inr (v, q) → rd (F_5_needsNumber_0 xh M).2 1560 5 = nI v ∧ rd (F_5_needsNumber_0 xh M).2 1560 4 = nI (skT tb n p)) := by
  obtain ⟨g1, M1, g2, g3, g4, g5⟩ := c_pk h
  have h6 := h.1.1
  have hb := sk_b (tb := tb) h.2.2
  have etk : tkN tb n p 0 hi = if skT tb n p < n ∧ dgP (tb (skT tb n p)) = true then (if vlT tb n (skT tb n p) < hi then .inr (vlT tb n (skT tb n p), neT tb n (skT tb n p)) else .inl (2, skT tb n p)) else .inl (1, skT tb n p) := by
    unfold tkN
    simp only [Nat.zero_le, true_and]
  generalize skT tb n p = q at *
  have e1 := cch_dg (tb := tb) (n := n) (i := q) (M := M1) (fun z => (g3.1.2.2 _ z).2.2)
  obtain ⟨M2, w1, w2, w3⟩ := c_fail (M := M1) (k := 1) (q := q)
  have w1' : F_5_fail_0 1 (nI q) M1 = (0, M2) := w1
  have loop : ∀ (k j : Nat) (M2 : Mem), CT tb n (q + j) M2 → rd M2 1560 4 = nI q → rd M2 1560 5 = nI (nvT tb q j) → (∀ i, i < j → dgP (tb (q + i)) = true) → n - (q + j) < k → Kp cT M M2 → P_5_needsNumber_25 k xh M2 ∧ Kp cT M (F_5_needsNumber_25 k xh M2).2 ∧ CA tb n (if vlT tb n q < hi then .inr (neT tb n q) else .inl (2, q)) (F_5_needsNumber_25 k xh M2) ∧ (vlT tb n q < hi → rd (F_5_needsNumber_25 k xh M2).2 1560 5 = nI (vlT tb n q) ∧ rd (F_5_needsNumber_25 k xh M2).2 1560 4 = nI q) := by
    intro k
    induction k with
    | zero => intro j M2 _ _ _ _ h; omega
    | succ k ih =>
      intro j M2 ht h4 h5 hdg hk hK
      have hjn := ht.2.2
      obtain ⟨c1, c2⟩ := c_byte ht.1 (i := q + j) (by omega)
      have e2 := cch_dg (tb := tb) (n := n) (i := q + j) (M := M2) (fun z => (ht.1.2.2 _ z).2.2)
      have e3 : (nI n ≤ nI (q + j)) ↔ ¬ q + j < n := by rw [nI_leI (by omega) (by omega)]; omega
      have hnv := nvT_le (tb := tb) (q := q) j
      have fin : ¬ (q + j < n ∧ dgP (tb (q + j)) = true) → Kp cT M (F_5_needsNumber_91 xh M2).2 ∧ CA tb n (if vlT tb n q < hi then .inr (neT tb n q) else .inl (2, q)) (F_5_needsNumber_91 xh M2) ∧ (vlT tb n q < hi → rd (F_5_needsNumber_91 xh M2).2 1560 5 = nI (vlT tb n q) ∧ rd (F_5_needsNumber_91 xh M2).2 1560 4 = nI q) := by
        intro cc
        have hne : neT tb n q = q + j := by
          have : ∀ i, i ≤ j → nxE dgP tb n (q + (j - i)) = q + j := by
            intro i
            induction i with
            | zero => intro _; rw [Nat.sub_zero]; exact nxE_e cc
            | succ i ih2 =>
              intro hi
              rw [nxE_s (by omega) (hdg (j - (i + 1)) (by omega)), show q + (j - (i + 1)) + 1 = q + (j - i) by omega]
              exact ih2 (by omega)
          have := this j (Nat.le_refl _)
          rw [Nat.sub_self, Nat.add_zero] at this
          exact this
        have hvl : vlT tb n q = nvT tb q j := by unfold vlT; rw [hne, Nat.add_sub_cancel_left]
        rw [hvl, hne, F_5_needsNumber_91, h5, h4]
        simp only [hin _ hnv]
        by_cases cr : nvT tb q j < hi
        · rw [if_pos cr, if_pos cr]
          exact ⟨hK, ⟨rfl, ht⟩, fun _ => ⟨h5, h4⟩⟩
        · rw [if_neg cr, if_neg cr]
          obtain ⟨M3, v1, v2, v3⟩ := c_fail (M := M2) (k := 2) (q := q)
          have v1' : F_5_fail_0 2 (nI q) M2 = (0, M3) := v1
          rw [v1', F_5_needsNumber_108, if_pos rfl]
          exact ⟨hK.tr v3, ⟨rfl, v2⟩, fun z => absurd z cr⟩
      rw [P_5_needsNumber_25, F_5_needsNumber_25, ht.1.2.1, ht.2.1, c2, e2]
      simp only [e3, c1, if10, if_true, if_false, true_imp_iff, false_imp_iff, not_true_eq_false, not_false_eq_true, true_and, and_true, implies_true, reduceIte]
      by_cases cl : q + j < n
      · by_cases cd : dgP (tb (q + j)) = true
        · have hdd : 48 ≤ tb (q + j) ∧ tb (q + j) ≤ 57 := by have := cd; simp only [dgP, decide_eq_true_eq] at this; exact this
          have ech : chT tb n (q + j) = nI (tb (q + j)) := if_pos cl
          have ev : nI (nvT tb q j) * (10 : Int32) + nI (tb (q + j)) - 48 = nI (10 * nvT tb q j + (tb (q + j) - 48)) := by
            rw [show (10 : Int32) = nI 10 from rfl, pk_mul, nI_add, show (48 : Int32) = nI 48 from rfl, pk_sub (by omega)]
            congr 1
            omega
          have e4 : (nI (10 * nvT tb q j + (tb (q + j) - 48)) < 100000) ↔ (10 * nvT tb q j + (tb (q + j) - 48)) < 100000 := by
            rw [show (100000 : Int32) = nI 100000 from rfl, nI_ltI (by omega) (by omega)]
          have e5 : (if (10 * nvT tb q j + (tb (q + j) - 48)) < 100000 then nI (10 * nvT tb q j + (tb (q + j) - 48)) else 100000) = nI (nvT tb q (j + 1)) := by
            rw [nvT]
            by_cases c9 : 10 * nvT tb q j + (tb (q + j) - 48) < 100000
            · rw [if_pos c9, if_neg (by omega)]
            · rw [if_neg c9]
              by_cases c8 : 100000 < 10 * nvT tb q j + (tb (q + j) - 48)
              · rw [if_pos c8]; rfl
              · rw [if_neg c8, show 10 * nvT tb q j + (tb (q + j) - 48) = 100000 by omega]; rfl
          have e6 : rd (wr M2 1560 5 (nI (nvT tb q (j + 1)))) 1560 2 = nI (q + j) := by rw [rd_i (by decide)]; exact ht.2.1
          have hK2 : Kp cT M2 (wr (wr M2 1560 5 (nI (nvT tb q (j + 1)))) 1560 2 (nI (q + j) + 1)) := (Kp.rf.w ⟨rfl, by omega, by omega⟩).w ⟨rfl, by omega, by omega⟩
          have hh := ih (j + 1) (wr (wr M2 1560 5 (nI (nvT tb q (j + 1)))) 1560 2 (nI (q + j) + 1)) ⟨ht.1.t hK2, by rw [rd_s, nI_1]; rfl, by omega⟩ (by rw [rd_i (by decide), rd_i (by decide)]; exact h4) (by rw [rd_i (by decide), rd_s]) (fun i hi => by
            by_cases e : i = j
            · subst e; exact cd
            · exact hdg i (by omega)) (by omega) (hK.tr hK2)
          simp only [cl, cd, ech, h5, ev, e4, e5, e6, and_self, not_true_eq_false, if_true, if_false, true_imp_iff, false_imp_iff, not_true_eq_false, not_false_eq_true, true_and, and_true, implies_true, reduceIte]
          exact hh
        · have cd' := Bool.eq_false_iff.mpr cd
          simp only [cl, cd', Bool.false_eq_true, and_false, not_true_eq_false, not_false_eq_true, if_true, if_false, true_imp_iff, false_imp_iff, not_true_eq_false, not_false_eq_true, true_and, and_true, implies_true, reduceIte]
          exact fin (fun z => cd z.2)
      · simp only [cl, not_false_eq_true, if_true, if_false, true_imp_iff, false_imp_iff, not_true_eq_false, not_false_eq_true, true_and, and_true, implies_true, reduceIte]
        exact fin (fun z => cl z.1)
  rw [P_5_needsNumber_0, F_5_needsNumber_0, g2, etk]
  simp only [g1, P_5_needsNumber_4, F_5_needsNumber_4, P_5_needsNumber_19, F_5_needsNumber_19, e1, if10, g4, w1', if_true, if_false, true_imp_iff, false_imp_iff, not_true_eq_false, not_false_eq_true, true_and, and_true, implies_true, reduceIte]
  by_cases cc : q < n ∧ dgP (tb q) = true
  · have hK2 : Kp cT M1 (wr M1 1560 5 0) := Kp.rf.w ⟨rfl, by omega, by omega⟩
    obtain ⟨l1, l2, l3, l4⟩ := loop FU 0 (wr M1 1560 5 0) ⟨g3.1.t hK2, by rw [rd_i (by decide)]; exact g3.2.1, hb.2⟩ (by rw [rd_i (by decide)]; exact g4) (rd_s _ _ _ _) (fun i h => by omega) (by unfold FU; omega) (g5.tr hK2)
    simp only [cc, and_self, not_true_eq_false, l1, if_true, if_false, true_imp_iff, false_imp_iff, not_true_eq_false, not_false_eq_true, true_and, and_true, implies_true, reduceIte]
    refine ⟨l2, ?_, ?_⟩
    · by_cases cv : vlT tb n q < hi
      · rw [if_pos cv] at l3 ⊢; exact l3
      · rw [if_neg cv] at l3 ⊢; exact l3
    · intro v r he
      by_cases cv : vlT tb n q < hi
      · rw [if_pos cv] at he
        cases he
        exact l4 cv
      · rw [if_neg cv] at he
        cases he
  · simp only [cc, not_false_eq_true, if_true, if_false, true_imp_iff, false_imp_iff, not_true_eq_false, not_false_eq_true, true_and, and_true, implies_true, reduceIte]
    exact ⟨nar_b (Or.inl rfl), g5.tr w3, ⟨rfl, w2⟩, fun v r he => by cases he⟩
/-- the words -/
def wT (q : Nat) : List Nat := (bytT.getD q []).map (fun x => x.toNatClampNeg)
theorem wT_ok : ∀ q, q < 18 → okWd (wT (q + 1)) := by unfold okWd; decide +kernel
theorem wT_len : ∀ q, q < 18 → sLen (q + 1) = nI (wT (q + 1)).length ∧ lenT.getD (q + 1) 0 = (wT (q + 1)).length := by decide +kernel
theorem wT_ch : ∀ q, q < 18 → ∀ j, j < (wT (q + 1)).length → sCh (q + 1) (nI j) = nI ((wT (q + 1)).getD j 0) := by decide +kernel
theorem c_isWord {tb : Nat → Nat} {n q : Nat} {M : Mem} (h : Cx tb n M) (hq : q ≤ n) (h4 : rd M 1560 4 = nI q) (h3 : rd M 1560 3 = nI (weT tb n q)) {t : Nat} (ht : t < 18) : P_5_isWord_0 M (t + 1) ∧ F_5_isWord_0 M (t + 1) = if isW (wT (t + 1)) tb n q = true then 1 else 0 := by
  have h6 := h.1
  obtain ⟨b1, b2, b3⟩ := we_b (tb := tb) hq
  have hok := wT_ok t ht
  obtain ⟨hl, hl2⟩ := wT_len t ht
  have hch := wT_ch t ht
  have hnt : t + 1 < nTX := by have : nTX = 22 := rfl; omega
  generalize wT (t + 1) = w at *
  have hok2 := hok.2.1
  have loop : ∀ (k j : Nat), j ≤ w.length → w.length - j < k → (∀ i, i < j → tb (q + i) = w.getD i 0) → weT tb n q - q = w.length → P_5_isWord_20 M k (t + 1) (nI j) ∧ F_5_isWord_20 M k (t + 1) (nI j) = if isW w tb n q = true then 1 else 0 := by
    intro k
    induction k with
    | zero => intro j _ h; omega
    | succ k ih =>
      intro j hj hk hp hw
      have e1 : (nI w.length ≤ nI j) ↔ ¬ j < w.length := by rw [nI_leI (by omega) (by omega)]; omega
      obtain ⟨c1, c2⟩ := c_byte h (i := q + j) (by omega)
      rw [P_5_isWord_20, F_5_isWord_20, hl, h4, nI_add, c2]
      simp only [e1, hnt, c1, if_true, if_false, true_imp_iff, false_imp_iff, not_true_eq_false, not_false_eq_true, true_and, and_true, implies_true, reduceIte]
      by_cases c : j < w.length
      · have hb := hok.2.2 j c
        have e2 := ch_eq (tb := tb) (n := n) (i := q + j) (c := w.getD j 0) (fun z => (h.2.2 _ z).2.2) (by omega)
        have v1 : vp_in (nI j) (lenT.getD (t + 1) 0) := (vp_iff (by omega)).mpr (by rw [hl2]; exact c)
        have v2 : nI j < Int32.ofNat (lenT.getD (t + 1) 0) := (nI_ltI (by omega) (by rw [hl2]; omega)).mpr (by rw [hl2]; exact c)
        have hn : q + j < n := by omega
        simp only [c, hch j c, e2, hn, v1, v2, not_true_eq_false, true_and, if_true, if_false, true_imp_iff, false_imp_iff, not_true_eq_false, not_false_eq_true, true_and, and_true, implies_true, reduceIte]
        by_cases ce : tb (q + j) = w.getD j 0
        · have hh := ih (j + 1) (by omega) (by omega) (fun i hi => by
            by_cases e : i = j
            · subst e; exact ce
            · exact hp i (by omega)) hw
          rw [← nI_1] at hh
          simp only [ce, if_true, if_false, true_imp_iff, false_imp_iff, not_true_eq_false, not_false_eq_true, true_and, and_true, implies_true, reduceIte]
          exact hh
        · simp only [ce, if_true, if_false, true_imp_iff, false_imp_iff, not_true_eq_false, not_false_eq_true, true_and, and_true, implies_true, reduceIte]
          rw [if_neg]
          intro z
          unfold isW at z
          rw [Bool.and_eq_true, decide_eq_true_eq, decide_eq_true_eq] at z
          exact ce (z.2 j c)
      · simp only [c, not_false_eq_true, if_true, if_false, true_imp_iff, false_imp_iff, not_true_eq_false, not_false_eq_true, true_and, and_true, implies_true, reduceIte]
        rw [if_pos]
        unfold isW
        rw [Bool.and_eq_true, decide_eq_true_eq, decide_eq_true_eq]
        exact ⟨hw, fun i hi => hp i (by omega)⟩
  have e0 : (nI (weT tb n q) - nI q = nI w.length) ↔ weT tb n q - q = w.length := by
    rw [pk_sub (by omega), nI_eq (by omega) (by omega)]
  rw [P_5_isWord_0, F_5_isWord_0, h3, h4, hl]
  simp only [e0, hnt, if_true, if_false, true_imp_iff, false_imp_iff, not_true_eq_false, not_false_eq_true, true_and, and_true, implies_true, reduceIte]
  by_cases c : weT tb n q - q = w.length
  · have hh := loop FU 0 (by omega) (by unfold FU; omega) (fun i h => by omega) c
    simp only [c, if_true, if_false, true_imp_iff, false_imp_iff, not_true_eq_false, not_false_eq_true, true_and, and_true, implies_true, reduceIte]
    exact hh
  · simp only [c, if_true, if_false, true_imp_iff, false_imp_iff, not_true_eq_false, not_false_eq_true, true_and, and_true, implies_true, reduceIte]
    rw [if_neg]
    intro z
    unfold isW at z
    rw [Bool.and_eq_true, decide_eq_true_eq, decide_eq_true_eq] at z
    exact c z.1
theorem isW_ex {a b : List Nat} {tb : Nat → Nat} {n q : Nat} (h1 : isW a tb n q = true) (h2 : isW b tb n q = true) : a = b := by
  unfold isW at h1 h2
  rw [Bool.and_eq_true, decide_eq_true_eq, decide_eq_true_eq] at h1 h2
  apply List.ext_getElem
  · omega
  · intro i h3 h4
    have e1 := h1.2 i h3
    have e2 := h2.2 i h4
    simp only [List.getD_eq_getElem?_getD, List.getElem?_eq_getElem h3, Option.getD_some] at e1
    simp only [List.getD_eq_getElem?_getD, List.getElem?_eq_getElem h4, Option.getD_some] at e2
    omega
theorem wT_inj : ∀ i, i < 18 → ∀ j, j < 18 → wT (i + 1) = wT (j + 1) → i = j := by decide +kernel
theorem isW_x {i j : Nat} {tb : Nat → Nat} {n q : Nat} (hi : i < 18) (hj : j < 18) (h1 : isW (wT (i + 1)) tb n q = true) (h2 : isW (wT (j + 1)) tb n q = true) : i = j := wT_inj i hi j hj (isW_ex h1 h2)
