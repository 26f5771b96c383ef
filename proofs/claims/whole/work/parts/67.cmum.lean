/-! MATHEMATICS 37: the class's clause and the reading of a museum -/
theorem isW_no {tb : Nat → Nat} {n q : Nat} {w : List Nat} (h : ¬ (q < n ∧ smP (tb q) = true)) (hw : okWd w) : ¬ isW w tb n q = true := by
  intro z
  unfold isW at z
  rw [Bool.and_eq_true, decide_eq_true_eq, decide_eq_true_eq] at z
  have : weT tb n q = q := nxE_e h
  have := hw.1
  omega
theorem CC.b {tb : Nat → Nat} {n : Nat} {o : TRs (DU × Nat)} {z : Int32 × Mem} (h : CC tb n o z) : narrow .boolean (.int z.1) = .int z.1 := by
  cases o with
  | inl e => exact nar_b (Or.inl h.1)
  | inr x => exact nar_b (Or.inr h.1)
theorem c_readClause {tb : Nat → Nat} {n p : Nat} {d : DU} {M : Mem} (full : Prop) [Decidable full] (h : CT tb n p M) (hd : CD d M) : P_4_readClause_0 (if full then 1 else 0) M ∧ CC tb n (clA tb n d full p) (F_4_readClause_0 (if full then 1 else 0) M) ∧ Kp cD M (F_4_readClause_0 (if full then 1 else 0) M).2 := by
  obtain ⟨a1, a2, a3⟩ := c_needsWord h
  have hb := sk_b (tb := tb) h.2.2
  have d1 := hd.t a2
  have hx1 := h.1.t a2
  rw [P_4_readClause_0, F_4_readClause_0]
  unfold clA
  generalize skT tb n p = q at *
  generalize F_5_needsWord_0 M = z at *
  obtain ⟨x, M1⟩ := z
  suffices hs : P_4_readClause_4 (if full then 1 else 0) x M1 ∧ CC tb n (if isW (wT 1) tb n q = true then (if full ∨ uN d.1 = 10 then .inl (3, q) else clR tb n d (weT tb n q)) else if isW (wT 2) tb n q = true then (if full ∨ uM d.1 = 24 then .inl (3, q) else clD tb n d (weT tb n q)) else if isW (wT 4) tb n q = true then (if full ∨ uT d.1 = 6 then .inl (3, q) else clT tb n d (weT tb n q)) else if isW (wT 3) tb n q = true then (if full then .inl (3, q) else clX tb n d (weT tb n q)) else if isW (wT 5) tb n q = true then (if full then .inl (3, q) else clW tb n d (weT tb n q)) else .inl (1, q)) (F_4_readClause_4 (if full then 1 else 0) x M1) ∧ Kp cD M1 (F_4_readClause_4 (if full then 1 else 0) x M1).2 from ⟨⟨a1, hs.1⟩, hs.2.1, (Kp.tD a2).tr hs.2.2⟩
  rcases a3 with ⟨l1, l2, l3, l4, l5, l6⟩ | ⟨l1, l3, l4⟩
  · have l3' : x = 1 := l3
    have hx : ¬ x = 0 := by rw [l3']; decide
    have t1 : CT tb n (weT tb n q) M1 := l4
    obtain ⟨i1, k1⟩ := c_isWord hx1 hb.2 l5 l6 (t := 0) (by omega)
    obtain ⟨i2, k2⟩ := c_isWord hx1 hb.2 l5 l6 (t := 1) (by omega)
    obtain ⟨i3, k3⟩ := c_isWord hx1 hb.2 l5 l6 (t := 2) (by omega)
    obtain ⟨i4, k4⟩ := c_isWord hx1 hb.2 l5 l6 (t := 3) (by omega)
    obtain ⟨i5, k5⟩ := c_isWord hx1 hb.2 l5 l6 (t := 4) (by omega)
    have l5' : rd M1 1560 4 = nI q := l5
    obtain ⟨Mf, w1, w2, w3⟩ := c_fail (M := M1) (k := 3) (q := q)
    have w1' : F_5_fail_0 3 (nI q) M1 = (0, Mf) := w1
    obtain ⟨Mg, y1, y2, y3⟩ := c_fail (M := M1) (k := 1) (q := q)
    have y1' : F_5_fail_0 1 (nI q) M1 = (0, Mg) := y1
    have hW := d1.2.1.1
    have eN : (nI (uN d.1) < 10) ↔ ¬ uN d.1 = 10 := by
      have := hW.1
      show (nI (uN d.1) < nI 10) ↔ _
      rw [nI_ltI (by omega) (by omega)]
      omega
    have eM : (nI (uM d.1) < 24) ↔ ¬ uM d.1 = 24 := by
      have := hW.2.1
      show (nI (uM d.1) < nI 24) ↔ _
      rw [nI_ltI (by omega) (by omega)]
      omega
    have eT : (nI (uT d.1) < 6) ↔ ¬ uT d.1 = 6 := by
      have := hW.2.2.1
      show (nI (uT d.1) < nI 6) ↔ _
      rw [nI_ltI (by omega) (by omega)]
      omega
    have r0 : rd M1 1572 0 = nI (uN d.1) := d1.1.2.1
    have r1 : rd M1 1572 1 = nI (uM d.1) := d1.1.2.2.1
    have r2 : rd M1 1572 2 = nI (uT d.1) := d1.1.2.2.2.1
    have hN := hW.1
    have hM := hW.2.1
    have hT := hW.2.2.1
    have nz : narrow .boolean (.int 0) = .int 0 := nar_b (Or.inl rfl)
    have ex34 : ¬ (isW (wT 3) tb n q = true ∧ isW (wT 4) tb n q = true) := fun z => absurd (isW_x (i := 2) (j := 3) (by omega) (by omega) z.1 z.2) (by omega)
    rw [P_4_readClause_4, F_4_readClause_4]
    have k1' : F_5_isWord_0 M1 1 = if isW (wT 1) tb n q = true then 1 else 0 := k1
    have k2' : F_5_isWord_0 M1 2 = if isW (wT 2) tb n q = true then 1 else 0 := k2
    have k3' : F_5_isWord_0 M1 3 = if isW (wT 3) tb n q = true then 1 else 0 := k3
    have k4' : F_5_isWord_0 M1 4 = if isW (wT 4) tb n q = true then 1 else 0 := k4
    have k5' : F_5_isWord_0 M1 5 = if isW (wT 5) tb n q = true then 1 else 0 := k5
    have i1' : P_5_isWord_0 M1 1 := i1
    have i2' : P_5_isWord_0 M1 2 := i2
    have i3' : P_5_isWord_0 M1 3 := i3
    have i4' : P_5_isWord_0 M1 4 := i4
    have i5' : P_5_isWord_0 M1 5 := i5
    rw [k1', k2', k3', k4', k5']
    have z10 : (nI 10 < (10 : Int32)) = False := eq_false (by decide)
    have z24 : (nI 24 < (24 : Int32)) = False := eq_false (by decide)
    have z6 : (nI 6 < (6 : Int32)) = False := eq_false (by decide)
    by_cases k1 : isW (wT 1) tb n q = true
    · by_cases cf : full
      · skip
        simp only [k1, cf, Bool.false_eq_true, z10, z24, z6, hx, i1', i2', i3', i4', i5', i10, r0, r1, r2, eN, eM, eT, l5', nz, true_or, or_true, or_false, or_self, w1', P_4_readClause_31, F_4_readClause_31, P_4_readClause_40, F_4_readClause_40, P_4_readClause_48, F_4_readClause_48, if_true, if_false, true_imp_iff, false_imp_iff, not_true_eq_false, not_false_eq_true, true_and, and_true, implies_true, reduceIte]
        exact ⟨⟨rfl, w2⟩, w3.tD⟩
      · by_cases cn : uN d.1 = 10
        · skip
          simp only [k1, cf, cn, Bool.false_eq_true, z10, z24, z6, hx, i1', i2', i3', i4', i5', i10, r0, r1, r2, eN, eM, eT, l5', nz, true_or, or_true, or_false, or_self, w1', P_4_readClause_31, F_4_readClause_31, P_4_readClause_40, F_4_readClause_40, P_4_readClause_48, F_4_readClause_48, if_true, if_false, true_imp_iff, false_imp_iff, not_true_eq_false, not_false_eq_true, true_and, and_true, implies_true, reduceIte]
          exact ⟨⟨rfl, w2⟩, w3.tD⟩
        · skip
          obtain ⟨g1, g2, g3⟩ := c_readRoom t1 d1 (by omega)
          have g4 := g2.b
          generalize F_4_readRoom_0 M1 = z at *
          obtain ⟨x2, M2⟩ := z
          have g4' : narrow .boolean (.int x2) = .int x2 := g4
          simp only [k1, cf, cn, Bool.false_eq_true, z10, z24, z6, hx, i1', i2', i3', i4', i5', i10, r0, r1, r2, eN, eM, eT, l5', nz, true_or, or_true, or_false, or_self, g1, g4', P_4_readClause_48, F_4_readClause_48, if_true, if_false, true_imp_iff, false_imp_iff, not_true_eq_false, not_false_eq_true, true_and, and_true, implies_true, reduceIte]
          exact ⟨g2, g3⟩
    · by_cases k2 : isW (wT 2) tb n q = true
      · by_cases cf : full
        · skip
          simp only [k1, k2, cf, Bool.false_eq_true, z10, z24, z6, hx, i1', i2', i3', i4', i5', i10, r0, r1, r2, eN, eM, eT, l5', nz, true_or, or_true, or_false, or_self, w1', P_4_readClause_71, F_4_readClause_71, P_4_readClause_80, F_4_readClause_80, P_4_readClause_88, F_4_readClause_88, if_true, if_false, true_imp_iff, false_imp_iff, not_true_eq_false, not_false_eq_true, true_and, and_true, implies_true, reduceIte]
          exact ⟨⟨rfl, w2⟩, w3.tD⟩
        · by_cases cn : uM d.1 = 24
          · skip
            simp only [k1, k2, cf, cn, Bool.false_eq_true, z10, z24, z6, hx, i1', i2', i3', i4', i5', i10, r0, r1, r2, eN, eM, eT, l5', nz, true_or, or_true, or_false, or_self, w1', P_4_readClause_71, F_4_readClause_71, P_4_readClause_80, F_4_readClause_80, P_4_readClause_88, F_4_readClause_88, if_true, if_false, true_imp_iff, false_imp_iff, not_true_eq_false, not_false_eq_true, true_and, and_true, implies_true, reduceIte]
            exact ⟨⟨rfl, w2⟩, w3.tD⟩
          · skip
            obtain ⟨g1, g2, g3⟩ := c_readDoor t1 d1 (by omega)
            have g4 := g2.b
            generalize F_4_readDoor_0 M1 = z at *
            obtain ⟨x2, M2⟩ := z
            have g4' : narrow .boolean (.int x2) = .int x2 := g4
            simp only [k1, k2, cf, cn, Bool.false_eq_true, z10, z24, z6, hx, i1', i2', i3', i4', i5', i10, r0, r1, r2, eN, eM, eT, l5', nz, true_or, or_true, or_false, or_self, g1, g4', P_4_readClause_88, F_4_readClause_88, if_true, if_false, true_imp_iff, false_imp_iff, not_true_eq_false, not_false_eq_true, true_and, and_true, implies_true, reduceIte]
            exact ⟨g2, g3⟩
      · by_cases k3 : isW (wT 3) tb n q = true
        · have k4 : ¬ isW (wT 4) tb n q = true := fun z => ex34 ⟨k3, z⟩
          by_cases cf : full
          · skip
            simp only [k1, k2, k3, k4, cf, Bool.false_eq_true, z10, z24, z6, hx, i1', i2', i3', i4', i5', i10, r0, r1, r2, eN, eM, eT, l5', nz, true_or, or_true, or_false, or_self, w1', P_4_readClause_111, F_4_readClause_111, P_4_readClause_119, F_4_readClause_119, if_true, if_false, true_imp_iff, false_imp_iff, not_true_eq_false, not_false_eq_true, true_and, and_true, implies_true, reduceIte]
            exact ⟨⟨rfl, w2⟩, w3.tD⟩
          · skip
            obtain ⟨g1, g2, g3⟩ := c_readExit t1 d1
            have g4 := g2.b
            generalize F_4_readExit_0 M1 = z at *
            obtain ⟨x2, M2⟩ := z
            have g4' : narrow .boolean (.int x2) = .int x2 := g4
            simp only [k1, k2, k3, k4, cf, Bool.false_eq_true, z10, z24, z6, hx, i1', i2', i3', i4', i5', i10, r0, r1, r2, eN, eM, eT, l5', nz, true_or, or_true, or_false, or_self, g1, g4', P_4_readClause_119, F_4_readClause_119, if_true, if_false, true_imp_iff, false_imp_iff, not_true_eq_false, not_false_eq_true, true_and, and_true, implies_true, reduceIte]
            exact ⟨g2, g3⟩
        · by_cases k4 : isW (wT 4) tb n q = true
          · by_cases cf : full
            · skip
              simp only [k1, k2, k3, k4, cf, Bool.false_eq_true, z10, z24, z6, hx, i1', i2', i3', i4', i5', i10, r0, r1, r2, eN, eM, eT, l5', nz, true_or, or_true, or_false, or_self, w1', P_4_readClause_142, F_4_readClause_142, P_4_readClause_151, F_4_readClause_151, P_4_readClause_159, F_4_readClause_159, if_true, if_false, true_imp_iff, false_imp_iff, not_true_eq_false, not_false_eq_true, true_and, and_true, implies_true, reduceIte]
              exact ⟨⟨rfl, w2⟩, w3.tD⟩
            · by_cases cn : uT d.1 = 6
              · skip
                simp only [k1, k2, k3, k4, cf, cn, Bool.false_eq_true, z10, z24, z6, hx, i1', i2', i3', i4', i5', i10, r0, r1, r2, eN, eM, eT, l5', nz, true_or, or_true, or_false, or_self, w1', P_4_readClause_142, F_4_readClause_142, P_4_readClause_151, F_4_readClause_151, P_4_readClause_159, F_4_readClause_159, if_true, if_false, true_imp_iff, false_imp_iff, not_true_eq_false, not_false_eq_true, true_and, and_true, implies_true, reduceIte]
                exact ⟨⟨rfl, w2⟩, w3.tD⟩
              · skip
                obtain ⟨g1, g2, g3⟩ := c_readTour t1 d1 (by omega)
                have g4 := g2.b
                generalize F_4_readTour_0 M1 = z at *
                obtain ⟨x2, M2⟩ := z
                have g4' : narrow .boolean (.int x2) = .int x2 := g4
                simp only [k1, k2, k3, k4, cf, cn, Bool.false_eq_true, z10, z24, z6, hx, i1', i2', i3', i4', i5', i10, r0, r1, r2, eN, eM, eT, l5', nz, true_or, or_true, or_false, or_self, g1, g4', P_4_readClause_159, F_4_readClause_159, if_true, if_false, true_imp_iff, false_imp_iff, not_true_eq_false, not_false_eq_true, true_and, and_true, implies_true, reduceIte]
                exact ⟨g2, g3⟩
          · by_cases k5 : isW (wT 5) tb n q = true
            · by_cases cf : full
              · skip
                simp only [k1, k2, k3, k4, k5, cf, Bool.false_eq_true, z10, z24, z6, hx, i1', i2', i3', i4', i5', i10, r0, r1, r2, eN, eM, eT, l5', nz, true_or, or_true, or_false, or_self, w1', P_4_readClause_182, F_4_readClause_182, P_4_readClause_190, F_4_readClause_190, if_true, if_false, true_imp_iff, false_imp_iff, not_true_eq_false, not_false_eq_true, true_and, and_true, implies_true, reduceIte]
                exact ⟨⟨rfl, w2⟩, w3.tD⟩
              · skip
                obtain ⟨g1, g2, g3⟩ := c_readWarder t1 d1
                have g4 := g2.b
                generalize F_4_readWarder_0 M1 = z at *
                obtain ⟨x2, M2⟩ := z
                have g4' : narrow .boolean (.int x2) = .int x2 := g4
                simp only [k1, k2, k3, k4, k5, cf, Bool.false_eq_true, z10, z24, z6, hx, i1', i2', i3', i4', i5', i10, r0, r1, r2, eN, eM, eT, l5', nz, true_or, or_true, or_false, or_self, g1, g4', P_4_readClause_190, F_4_readClause_190, if_true, if_false, true_imp_iff, false_imp_iff, not_true_eq_false, not_false_eq_true, true_and, and_true, implies_true, reduceIte]
                exact ⟨g2, g3⟩
            · skip
              simp only [k1, k2, k3, k4, k5, Bool.false_eq_true, z10, z24, z6, hx, i1', i2', i3', i4', i5', i10, r0, r1, r2, eN, eM, eT, l5', nz, true_or, or_true, or_false, or_self, y1', P_4_readClause_200, F_4_readClause_200, if_true, if_false, true_imp_iff, false_imp_iff, not_true_eq_false, not_false_eq_true, true_and, and_true, implies_true, reduceIte]
              exact ⟨⟨rfl, y2⟩, y3.tD⟩
  · have l3' : x = 0 := l3
    rw [P_4_readClause_4, F_4_readClause_4, if_pos l3', if_neg (isW_no l1 (wT_ok 0 (by omega))), if_neg (isW_no l1 (wT_ok 1 (by omega))), if_neg (isW_no l1 (wT_ok 3 (by omega))), if_neg (isW_no l1 (wT_ok 2 (by omega))), if_neg (isW_no l1 (wT_ok 4 (by omega)))]
    exact ⟨⟨fun z => absurd l3' z, fun _ => trivial⟩, ⟨rfl, l4⟩, Kp.rf⟩
def CMs (o : TRs DU) (z : Int32 × Mem) : Prop := match o with
  | .inl e => z.1 = 0 ∧ CErr e z.2
  | .inr d => z.1 = 1 ∧ CD d z.2
theorem c_mus {tb : Nat → Nat} {n : Nat} : ∀ (k c p : Nat) (d : DU) (M : Mem), CT tb n p M → CD d M → c + k = 61 → 0 < k → ∀ f, k < f → P_4_read_6 f (nI c) M ∧ CMs (musA tb n k d c p) (F_4_read_6 f (nI c) M) ∧ Kp cD M (F_4_read_6 f (nI c) M).2 := by
  intro k
  induction k with
  | zero => intro c p d M _ _ _ h; omega
  | succ k ih =>
    intro c p d M h hd hck _ f hf
    obtain ⟨f, rfl⟩ : ∃ g, f = g + 1 := ⟨f - 1, by omega⟩
    obtain ⟨a1, M1, a2, a3, a4, a5⟩ := c_atEnd h
    have d1 := hd.t a5
    have e1 : ((60 : Int32) < nI c) ↔ False := by
      show (nI 60 < nI c) ↔ _
      rw [nI_ltI (by omega) (by omega)]
      exact ⟨fun z => by omega, fun z => z.elim⟩
    have e2 : (nI c = 60) ↔ c = 60 := nI_eq (b := 60) (by omega) (by omega)
    rw [P_4_read_6, F_4_read_6, a2, musA]
    simp only [e1, a1, P_4_read_16, F_4_read_16, if_true, if_false, true_imp_iff, false_imp_iff, not_true_eq_false, not_false_eq_true, true_and, and_true, implies_true, reduceIte]
    by_cases cs : skT tb n p < n
    · rw [if_pos cs, if_pos cs]
      obtain ⟨b1, b2, b3⟩ := c_readClause (c = 60) a3 d1
      rw [clA_sk h.2.2] at b2
      have goal' : P_4_read_34 (P_4_read_6 f) (nI c) (if c = 60 then 1 else 0) M1 ∧ CMs (bnd (bnd (clA tb n d (c = 60) p) (sgA tb n)) (fun x => musA tb n k x.1 (c + 1) x.2)) (F_4_read_34 (F_4_read_6 f) (nI c) (if c = 60 then 1 else 0) M1) ∧ Kp cD M1 (F_4_read_34 (F_4_read_6 f) (nI c) (if c = 60 then 1 else 0) M1).2 := by
        rw [P_4_read_34, F_4_read_34]
        generalize F_4_readClause_0 (if c = 60 then 1 else 0) M1 = z at *
        obtain ⟨x, M2⟩ := z
        cases o : clA tb n d (c = 60) p with
        | inl e =>
          rw [o] at b2
          have b2' : x = 0 ∧ CErr e M2 := b2
          rw [P_4_read_37, F_4_read_37, if_pos b2'.1]
          exact ⟨⟨b1, fun _ => trivial, fun z => absurd b2'.1 z⟩, ⟨rfl, b2'.2⟩, b3⟩
        | inr y =>
          obtain ⟨d', p'⟩ := y
          rw [o] at b2
          have b2' : x = 1 ∧ CT tb n p' M2 ∧ CD d' M2 := b2
          have hx : ¬ x = 0 := by rw [b2'.1]; decide
          obtain ⟨c1, c2, c3⟩ := c_needs (c := 59) b2'.2.1 (by omega)
          have c1' : P_5_needs_0 59 M2 := c1
          have d3 := CD.t b2'.2.2 c3
          have eF : F_5_needs_0 (nI 59) M2 = F_5_needs_0 59 M2 := rfl
          rw [eF] at c2 c3 d3
          rw [P_4_read_37, F_4_read_37, if_neg hx]
          have hk0 : 0 < k := by
            by_cases c60 : c = 60
            · subst c60
              obtain ⟨e, he⟩ := clA_60 (tb := tb) (n := n) (p := p) (d := d)
              rw [he] at o
              cases o
            · omega
          generalize F_5_needs_0 59 M2 = z at *
          obtain ⟨y, M3⟩ := z
          suffices hs : P_4_read_46 (P_4_read_6 f) (nI c) y M3 ∧ CMs (bnd (sgA tb n (d', p')) (fun x => musA tb n k x.1 (c + 1) x.2)) (F_4_read_46 (F_4_read_6 f) (nI c) y M3) ∧ Kp cD M3 (F_4_read_46 (F_4_read_6 f) (nI c) y M3).2 from ⟨⟨b1, fun z => absurd z hx, fun _ => ⟨c1', hs.1⟩⟩, hs.2.1, (Kp.tr b3 (Kp.tD c3)).tr hs.2.2⟩
          unfold sgA
          cases o2 : tkS 59 tb n p' with
          | inl e =>
            rw [o2] at c2
            have c2' : y = 0 ∧ CErr e M3 := c2
            rw [P_4_read_46, F_4_read_46, if_pos c2'.1]
            exact ⟨⟨fun z => absurd c2'.1 z, fun _ => trivial⟩, ⟨rfl, c2'.2⟩, Kp.rf⟩
          | inr p'' =>
            rw [o2] at c2
            have c2' : y = 1 ∧ CT tb n p'' M3 := c2
            have hy : ¬ y = 0 := by rw [c2'.1]; decide
            rw [P_4_read_46, F_4_read_46, if_neg hy, nI_1]
            obtain ⟨i1, i2, i3⟩ := ih (c + 1) p'' d' M3 c2'.2 d3 (by omega) hk0 f (by omega)
            exact ⟨⟨fun _ => i1, fun z => absurd z hy⟩, i2, i3⟩
      simp only [e2, if_true, if_false, true_imp_iff, false_imp_iff, not_true_eq_false, not_false_eq_true, true_and, and_true, implies_true, reduceIte]
      by_cases c60 : c = 60
      · rw [if_pos c60] at goal'
        simp only [c60, if_true, if_false, true_imp_iff, false_imp_iff, not_true_eq_false, not_false_eq_true, true_and, and_true, implies_true, reduceIte] at goal' ⊢
        exact ⟨goal'.1, goal'.2.1, a5.tD.tr goal'.2.2⟩
      · rw [if_neg c60] at goal'
        simp only [c60, if_true, if_false, true_imp_iff, false_imp_iff, not_true_eq_false, not_false_eq_true, true_and, and_true, implies_true, reduceIte] at goal' ⊢
        exact ⟨goal'.1, goal'.2.1, a5.tD.tr goal'.2.2⟩
    · rw [if_neg cs, if_neg cs]
      simp only [i10, if_true, if_false, true_imp_iff, false_imp_iff, not_true_eq_false, not_false_eq_true, true_and, and_true, implies_true, reduceIte]
      exact ⟨⟨rfl, d1⟩, a5.tD⟩
def d0U : DU := ((0, 0, 0, 0, fun _ => 0, fun _ => 0, fun _ => 0, fun _ => 0, fun _ => 0, fun _ => 0), fun _ => 0)
