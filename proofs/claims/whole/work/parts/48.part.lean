/-! MATHEMATICS 18: parted, both sides -/
theorem r_flowsTo {u : MU} {s : SU} {R : Int32} {a b : Nat} {M : Mem} (hq : RQ u s M) (ha : a < uN u) (hb : b < uN u) (hab : a ≠ b) : P_12_flowsTo_0 (nI a) (nI b) R M ∧ ∃ n M', F_12_flowsTo_0 (nI a) (nI b) R M = (nI n, M') ∧ n ≤ 24 ∧ IsMF u (alw s R) a b n ∧ Kp rF M M' := by
  have hu := hq.1.1
  have hn := hu.1
  rw [P_12_flowsTo_0, F_12_flowsTo_0]
  have second : ∀ M1, Kp rF M M1 → FV (fun _ => false) M1 → P_12_flowsTo_34 FU (nI a) (nI b) R 0 (wr M1 0 46 (bi a)) ∧ ∃ n M', F_12_flowsTo_34 FU (nI a) (nI b) R 0 (wr M1 0 46 (bi a)) = (nI n, M') ∧ n ≤ 24 ∧ IsMF u (alw s R) a b n ∧ Kp rF M M' := by
    intro M1 hK1 hg1
    refine lq (S := Mem) (F := fun n i q => F_12_flowsTo_34 n (nI a) (nI b) R i q) (P := fun n i q => P_12_flowsTo_34 n (nI a) (nI b) R i q) (Q := fun z => ∃ n M', z = (nI n, M') ∧ n ≤ 24 ∧ IsMF u (alw s R) a b n ∧ Kp rF M M') (25) (fun i q => Kp rF M q ∧ rd q 0 46 = bi a ∧ ∃ g, FV g q ∧ FlowV u (alw s R) a b g i) ?_ ?_ FU 0 (wr M1 0 46 (bi a)) ⟨hK1.w (Or.inr ⟨rfl, rfl⟩), rd_s _ _ _ _, fun _ => false, hg1.k, FlowV.z⟩ (Nat.zero_le _) (FU_ge (by omega))
    · rintro n i M2 hi ⟨hK2, h46, g, hg, hfl⟩ ih
      try dsimp only at ih ⊢
      obtain ⟨r1, r2, r3⟩ := r_isMore (s := s) (R := R) hb trivial 12 a g M2 (hq.k hK2) ha hg hfl.1 (by rw [h46, b_bi (by omega), decide_eq_true_eq]) (Or.inr (by rw [h46, b_bi (by omega), decide_eq_false (fun z => hab z.symm)])) (by have := cnt_le (fun r => !bt (rd M2 0 46) r) (uN u); unfold uns; omega)
      rw [h46] at r3
      rw [P_12_flowsTo_34, F_12_flowsTo_34]
      simp only [r1, if_true, if_false, true_imp_iff, false_imp_iff, not_true_eq_false, not_false_eq_true, true_and, and_true, implies_true, reduceIte]
      generalize G_12_isMore 12 (nI a) (nI b) R M2 = W at r2 r3
      rw [P_12_flowsTo_41, F_12_flowsTo_41, bi_of]
      rcases r3 with ⟨w1, g', h1, h2, h3, h4⟩ | ⟨w1, h1, h2, h3, h4⟩
      · rw [w1]
        simp only [i1_0, if_true, if_false, true_imp_iff, false_imp_iff, not_true_eq_false, not_false_eq_true, true_and, and_true, implies_true, reduceIte]
        exact ih _ ⟨(hK2.tr r2).w (Or.inr ⟨rfl, rfl⟩), rd_s _ _ _ _, g', h1.k, hfl.up h2 h3⟩
      · rw [w1]
        simp only [if_true, if_false, true_imp_iff, false_imp_iff, not_true_eq_false, not_false_eq_true, true_and, and_true, implies_true, reduceIte]
        have hZa : bt (rd W.2 0 46) a = true := h2 a (by rw [b_bi (by omega), decide_eq_true_eq])
        refine ⟨i, W.2, rfl, (hfl.max hu hab).1, hfl.cut (X := bt (rd W.2 0 46)) hZa h3 (fun d v w hr hv => ?_), hK2.tr r2⟩
        by_cases e : v = a
        · exact h4 d v w hr (Or.inr e)
        · exact h4 d v w hr (Or.inl ⟨hv, by rw [b_bi (by omega), decide_eq_false e]⟩)
    · rintro n M2 ⟨hK2, h46, g, hg, hfl⟩
      have := (hfl.max hu hab).1
      omega
  refine lq (S := Mem) (F := fun n i q => F_12_flowsTo_6 n (nI a) (nI b) R 0 i q) (P := fun n i q => P_12_flowsTo_6 n (nI a) (nI b) R 0 i q) (Q := fun z => ∃ n M', z = (nI n, M') ∧ n ≤ 24 ∧ IsMF u (alw s R) a b n ∧ Kp rF M M') (24) (fun i q => Kp rF M q ∧ ∀ d, d < i → rd q 27 d = 0) ?_ ?_ FU 0 M ⟨Kp.rf, fun d h => by omega⟩ (Nat.zero_le _) (FU_ge (by omega))
  · rintro n i M2 hi ⟨hK2, hz⟩ ih
    try dsimp only at ih ⊢
    have q1 : ¬ (24 : Int32) ≤ nI i := nI_ge (b := 24) hi (by omega)
    have v1 : vp_in (nI i) 24 := (vp_iff (by omega)).mpr hi
    rw [P_12_flowsTo_6, F_12_flowsTo_6]
    simp only [q1, v1, nI_clamp (n := i) (by omega), if_true, if_false, true_imp_iff, false_imp_iff, not_true_eq_false, not_false_eq_true, true_and, and_true, implies_true, reduceIte]
    refine ih _ ⟨hK2.w (Or.inl rfl), fun d hd => ?_⟩
    by_cases e : d = i
    · subst e; exact rd_s _ _ _ _
    · rw [rd_i e]; exact hz d (by omega)
  · rintro n M2 ⟨hK2, hz⟩
    try dsimp only
    rw [P_12_flowsTo_6, F_12_flowsTo_6]
    simp only [(by decide : (24 : Int32) ≤ nI 24), bi_of, if_true, if_false, true_imp_iff, false_imp_iff, not_true_eq_false, not_false_eq_true, true_and, and_true, implies_true, reduceIte]
    exact second M2 hK2 (fun d hd => by rw [hz d hd]; rfl)
/-! the class's search -/
def cF (c j : Nat) : Prop := (c = 1606 ∧ j = 5) ∨ c = 1607 ∨ c = 1608 ∨ c = 1609
def cF5 (c j : Nat) : Prop := c = 1606 ∧ j = 5
theorem cnt_add1 {p q : Nat → Bool} {y : Nat} (hp : p y = false) (hq : ∀ i, q i = (p i || decide (i = y))) : ∀ n, cnt q n = cnt p n + if y < n then 1 else 0 := by
  intro n
  induction n with
  | zero => rfl
  | succ n ih =>
    rw [cnt, cnt, ih, hq n]
    by_cases e : n = y
    · subst e
      rw [hp]; simp
    · by_cases c : y < n
      · simp [e, c, show y < n + 1 by omega]; omega
      · simp [e, c, show ¬ y < n + 1 by omega]
/-- the breadth search so far -/
def BI (u : MU) (A g : Nat → Bool) (a : Nat) (Fd : Int32) (t : Nat) (ρ : Nat → Nat) (M : Mem) : Prop := bt Fd a = true ∧ (∀ r, bt Fd r = true → r < uN u) ∧ t = cnt (bt Fd) (uN u) ∧ (∀ r, bt Fd r = true → ρ r < t ∧ rd M 1607 (ρ r) = nI r) ∧ (∀ i, i < t → ∃ r, bt Fd r = true ∧ ρ r = i) ∧ ∀ r, bt Fd r = true → r ≠ a → ∃ d p, rd M 1608 r = nI d ∧ rd M 1609 r = nI p ∧ rsD u A g d p r ∧ bt Fd p = true ∧ ρ p < ρ r
def upN (ρ : Nat → Nat) (y t e : Nat) : Nat := if e = y then t else ρ e
theorem BI.add {u : MU} {A g : Nat → Bool} {a : Nat} {Fd : Int32} {t : Nat} {ρ : Nat → Nat} {M : Mem} (hn : uN u ≤ 10) (h : BI u A g a Fd t ρ M) {d x y : Nat} (hrs : rsD u A g d x y) (hx : bt Fd x = true) (hy : y < uN u) (hyF : bt Fd y = false) : BI u A g a (Fd ||| bi y) (t + 1) (upN ρ y t) (wr (wr (wr M 1608 y (nI d)) 1609 y (nI x)) 1607 t (nI y)) := by
  obtain ⟨h1, h2, h3, h4, h5, h6⟩ := h
  have hF : ∀ r, bt (Fd ||| bi y) r = (bt Fd r || decide (r = y)) := fun r => by rw [b_or, b_bi (by omega)]
  have ne : ∀ r, bt Fd r = true → r ≠ y := fun r hr e => by rw [e, hyF] at hr; cases hr
  have old : ∀ r, bt Fd r = true → upN ρ y t r = ρ r := fun r hr => if_neg (ne r hr)
  have new : upN ρ y t y = t := if_pos rfl
  have spl : ∀ r, bt (Fd ||| bi y) r = true → bt Fd r = true ∨ r = y := fun r hr => by
    rw [hF, Bool.or_eq_true, decide_eq_true_eq] at hr; exact hr
  have inc : ∀ r, bt Fd r = true → bt (Fd ||| bi y) r = true := fun r hr => by rw [hF, hr]; rfl
  have incy : bt (Fd ||| bi y) y = true := by rw [hF]; simp
  refine ⟨inc a h1, fun r hr => ?_, ?_, fun r hr => ?_, fun i hi => ?_, fun r hr hra => ?_⟩
  · rcases spl r hr with z | z
    · exact h2 r z
    · rw [z]; exact hy
  · rw [cnt_add1 hyF hF, if_pos hy, ← h3]
  · rcases spl r hr with z | z
    · rw [old r z]
      have := h4 r z
      refine ⟨by omega, ?_⟩
      rw [rd_i (by omega), rd_c (by decide), rd_c (by decide)]; exact this.2
    · subst z
      rw [new]
      exact ⟨by omega, rd_s _ _ _ _⟩
  · by_cases e : i = t
    · exact ⟨y, incy, by rw [new, e]⟩
    · obtain ⟨r, z1, z2⟩ := h5 i (by omega)
      exact ⟨r, inc r z1, by rw [old r z1, z2]⟩
  · rcases spl r hr with z | z
    · obtain ⟨d', p, g1, g2, g3, g4, g5⟩ := h6 r z hra
      refine ⟨d', p, ?_, ?_, g3, inc p g4, by rw [old p g4, old r z]; exact g5⟩
      · rw [rd_c (by decide), rd_c (by decide), rd_i (ne r z)]; exact g1
      · rw [rd_c (by decide), rd_i (ne r z), rd_c (by decide)]; exact g2
    · subst z
      refine ⟨d, x, ?_, ?_, hrs, inc x hx, ?_⟩
      · rw [rd_c (by decide), rd_c (by decide), rd_s]
      · rw [rd_c (by decide), rd_s]
      · rw [new, old x hx]; exact (h4 x hx).1
def clo (u : MU) (A g : Nat → Bool) (Fd : Int32) (ρ : Nat → Nat) (h i : Nat) : Prop := ∀ d x y, rsD u A g d x y → bt Fd x = true → (ρ x < h ∨ (ρ x = h ∧ d < i)) → bt Fd y = true
theorem c_bfsIn {u : MU} {A g : Nat → Bool} {a b : Nat} {ds : Int32} {M M1 : Mem} {Fd : Int32} {t h : Nat} {ρ : Nat → Nat} (hp : CP 1561 u M) (hA : ∀ d, A d = bt ds d) (hg : ∀ d, bt (rd M 1606 5) d = g d) (hK : Kp (fun c j => c = 1607 ∨ c = 1608 ∨ c = 1609) M M1) (hB : BI u A g a Fd t ρ M1) (hh : h < t) (hcl : clo u A g Fd ρ h 0)
    {k18 : Int32 → Int32 → Int32 → Int32 → Int32 → Int32 → Mem → Int32 × Mem} {pk18 : Int32 → Int32 → Int32 → Int32 → Int32 → Int32 → Mem → Prop} {Q : Int32 × Mem → Prop}
    (hn' : ∀ Fd t ρ M2, Kp (fun c j => c = 1607 ∨ c = 1608 ∨ c = 1609) M M2 → BI u A g a Fd t ρ M2 → h < t → clo u A g Fd ρ (h + 1) 0 → pk18 (nI a) (nI b) ds Fd (nI t) (nI h + 1) M2 ∧ Q (k18 (nI a) (nI b) ds Fd (nI t) (nI h + 1) M2)) : P_3_findsWay_44 pk18 FU (nI a) (nI b) ds Fd (nI t) (nI h) (rd M1 1607 h) 0 M1 ∧ Q (F_3_findsWay_44 k18 FU (nI a) (nI b) ds Fd (nI t) (nI h) (rd M1 1607 h) 0 M1) := by
  have hu := hp.1
  have hn := hu.1
  have hm := hu.2.1
  obtain ⟨x, hxF, hxρ⟩ := hB.2.2.2.2.1 h hh
  have hxN := hB.2.1 x hxF
  have e0 : rd M1 1607 h = nI x := by rw [← hxρ]; exact (hB.2.2.2.1 x hxF).2
  rw [e0]
  refine lq (S := Int32 × Nat × Mem) (F := fun n i q => F_3_findsWay_44 k18 n (nI a) (nI b) ds q.1 (nI q.2.1) (nI h) (nI x) i q.2.2) (P := fun n i q => P_3_findsWay_44 pk18 n (nI a) (nI b) ds q.1 (nI q.2.1) (nI h) (nI x) i q.2.2) (Q := Q) (uM u) (fun i q => Kp (fun c j => c = 1607 ∨ c = 1608 ∨ c = 1609) M q.2.2 ∧ ∃ ρ, BI u A g a q.1 q.2.1 ρ q.2.2 ∧ h < q.2.1 ∧ bt q.1 x = true ∧ ρ x = h ∧ clo u A g q.1 ρ h i) ?_ ?_ FU 0 (Fd, t, M1) ⟨hK, ρ, hB, hh, hxF, hxρ, hcl⟩ (Nat.zero_le _) (FU_ge (by omega))
  · rintro n i ⟨Fd, t, M2⟩ hi ⟨hK2, ρ, hB2, hht, hx2, hρ2, hcl2⟩ ih
    try dsimp only at hK2 hB2 hht hx2 hρ2 hcl2 ih ⊢
    have hp2 := hp.k hK2 (fun a j z => by omega)
    have q1 : ¬ nI (uM u) ≤ nI i := nI_ge hi (by omega)
    have w := hu.2.2.2.2.1 i hi
    obtain ⟨f1, f2, _, _⟩ := hp2.2.2.2.2.2.1 i hi
    simp only [Nat.reduceAdd] at f1 f2
    have v1 : vp_in (nI i) 24 := (vp_iff (by omega)).mpr (by omega)
    have z1 := b_z (x := ds) (i := i) (by omega)
    have z2 := b_z (x := rd M2 1606 5) (i := i) (by omega)
    have et : rd M2 1606 5 = rd M 1606 5 := hK2.g (by omega)
    rw [et, hg i] at z2
    have e1 : (nI (uF u i) = nI x) ↔ uF u i = x := nI_eq (by omega) (by omega)
    have e2 : (nI (uG u i) = nI x) ↔ uG u i = x := nI_eq (by omega) (by omega)
    have hcn := cnt_le (bt Fd) (uN u)
    have skip : (∀ y, rsD u A g i x y → bt Fd y = true) → P_3_findsWay_44 pk18 n (nI a) (nI b) ds Fd (nI t) (nI h) (nI x) (nI i + 1) M2 ∧ Q (F_3_findsWay_44 k18 n (nI a) (nI b) ds Fd (nI t) (nI h) (nI x) (nI i + 1) M2) := by
      intro hs
      refine ih (Fd, t, M2) ⟨hK2, ρ, hB2, hht, hx2, hρ2, fun d x' y hr hxF' ho => ?_⟩
      by_cases e : ρ x' = h ∧ d = i
      · have hx' : x' = x := by
          have g1 := (hB2.2.2.2.1 x' hxF').2
          have g2 := (hB2.2.2.2.1 x hx2).2
          rw [e.1] at g1; rw [hρ2] at g2
          have := hB2.2.1 x' hxF'
          exact (nI_eq (by omega) (by omega)).mp (g1.symm.trans g2)
        rw [hx', e.2] at hr
        exact hs y hr
      · exact hcl2 d x' y hr hxF' (by omega)
    have go : ∀ y, y < uN u → rsD u A g i x y → P_3_findsWay_77 pk18 (P_3_findsWay_44 pk18 n) (nI a) (nI b) ds Fd (nI t) (nI h) (nI x) (nI i) (nI y) M2 ∧ Q (F_3_findsWay_77 k18 (F_3_findsWay_44 k18 n) (nI a) (nI b) ds Fd (nI t) (nI h) (nI x) (nI i) (nI y) M2) := by
      intro y hy hrs
      have z3 := b_z (x := Fd) (i := y) (by omega)
      have m1 : ¬ nI y = -1 := nI_m1 (by omega)
      rw [P_3_findsWay_77, F_3_findsWay_77]
      simp only [m1, z3, bi_of, if_true, if_false, true_imp_iff, false_imp_iff, not_true_eq_false, not_false_eq_true, true_and, and_true, implies_true, reduceIte, P_3_findsWay_141, F_3_findsWay_141]
      cases cy : bt Fd y
      · have hB3 := hB2.add hn hrs hx2 hy cy
        have ht3 := hB3.2.2.1
        have := cnt_le (bt (Fd ||| bi y)) (uN u)
        have q3 : ¬ (10 : Int32) ≤ nI t := nI_ge (b := 10) (by omega) (by omega)
        have v3 : vp_in (nI y) 10 := (vp_iff (by omega)).mpr (by omega)
        have v4 : vp_in (nI t) 10 := (vp_iff (by omega)).mpr (by omega)
        have hg' := ih (Fd ||| bi y, t + 1, wr (wr (wr M2 1608 y (nI i)) 1609 y (nI x)) 1607 t (nI y)) ⟨((hK2.w (Or.inr (Or.inl rfl))).w (Or.inr (Or.inr rfl))).w (Or.inl rfl), upN ρ y t, hB3, (by show h < t + 1; omega), by rw [b_or, hx2]; rfl, ?_, fun d x' y' hr hxF' ho => ?_⟩
        · simp only [q3, v3, v4, nI_clamp (n := y) (by omega), nI_clamp (n := t) (by omega), nI_1, if_true, if_false, true_imp_iff, false_imp_iff, not_true_eq_false, not_false_eq_true, true_and, and_true, implies_true, reduceIte]
          simpa [nI_1] using hg'
        · have : x ≠ y := fun e => by rw [← e, hx2] at cy; cases cy
          rw [upN, if_neg this]; exact hρ2
        · have hx'y : x' ≠ y := fun e => by
            rw [e, upN, if_pos rfl] at ho
            omega
          rw [upN, if_neg hx'y] at ho
          have hxF0 : bt Fd x' = true := by
            rw [b_or, b_bi (by omega), decide_eq_false hx'y, Bool.or_false] at hxF'; exact hxF'
          rw [b_or, b_bi (by omega)]
          by_cases e : ρ x' = h ∧ d = i
          · have hx' : x' = x := by
              have g1 := (hB2.2.2.2.1 x' hxF0).2
              have g2 := (hB2.2.2.2.1 x hx2).2
              rw [e.1] at g1; rw [hρ2] at g2
              have := hB2.2.1 x' hxF0
              exact (nI_eq (by omega) (by omega)).mp (g1.symm.trans g2)
            rw [hx', e.2] at hr
            rw [(rsD_un hrs hr).2]; simp
          · rw [hcl2 d x' y' hr hxF0 (by omega)]; rfl
      · have := skip (fun y' hr => by rw [← (rsD_un hrs hr).2]; exact cy)
        simpa using this
    have none' : (∀ y, rsD u A g i x y → bt Fd y = true) → P_3_findsWay_77 pk18 (P_3_findsWay_44 pk18 n) (nI a) (nI b) ds Fd (nI t) (nI h) (nI x) (nI i) (-1) M2 ∧ Q (F_3_findsWay_77 k18 (F_3_findsWay_44 k18 n) (nI a) (nI b) ds Fd (nI t) (nI h) (nI x) (nI i) (-1) M2) := by
      intro hs
      rw [P_3_findsWay_77, F_3_findsWay_77]
      simp only [if_true, if_false, true_imp_iff, false_imp_iff, not_true_eq_false, not_false_eq_true, true_and, and_true, implies_true, reduceIte, P_3_findsWay_141, F_3_findsWay_141]
      exact skip hs
    rw [P_3_findsWay_44, F_3_findsWay_44, hp2.2.2.1]
    simp only [q1, z1, if_true, if_false, true_imp_iff, false_imp_iff, not_true_eq_false, not_false_eq_true, true_and, and_true, implies_true, reduceIte, P_3_leadsTo_0, F_3_leadsTo_0]
    rw [← et] at z2
    simp only [z2, v1, nI_clamp (n := i) (by omega), f1, f2, e1, e2, implies_true, and_self, if_true, if_false, true_imp_iff, false_imp_iff, not_true_eq_false, not_false_eq_true, true_and, and_true, implies_true, reduceIte]
    cases cd : bt ds i
    · have := none' (fun y hr => by
        have := hr.2.1
        rw [hA, cd] at this; cases this)
      simpa using this
    · have hAi : A i = true := by rw [hA, cd]
      cases cg : g i
      · by_cases cF : uF u i = x
        · have := go (uG u i) w.2.1 ⟨hi, hAi, Or.inl ⟨cg, cF, rfl⟩⟩
          simpa [cF] using this
        · have := none' (fun y hr => by
            obtain ⟨_, _, ⟨_, p2, _⟩ | ⟨p1, _, _⟩⟩ := hr
            · exact absurd p2 cF
            · rw [cg] at p1; cases p1)
          simpa [cF] using this
      · by_cases cG : uG u i = x
        · have := go (uF u i) w.1 ⟨hi, hAi, Or.inr ⟨cg, cG, rfl⟩⟩
          simpa [cG] using this
        · have := none' (fun y hr => by
            obtain ⟨_, _, ⟨p1, _, _⟩ | ⟨_, p2, _⟩⟩ := hr
            · rw [cg] at p1; cases p1
            · exact absurd p2 cG)
          simpa [cG] using this
  · rintro n ⟨Fd, t, M2⟩ ⟨hK2, ρ, hB2, hht, hx2, hρ2, hcl2⟩
    try dsimp only at hK2 hB2 hht hx2 hρ2 hcl2 ⊢
    have hp2 := hp.k hK2 (fun a j z => by omega)
    have q1 : nI (uM u) ≤ nI (uM u) := nI_le (Nat.le_refl _) (by omega)
    rw [P_3_findsWay_44, F_3_findsWay_44, hp2.2.2.1]
    simp only [q1, if_true, if_false, true_imp_iff, false_imp_iff, not_true_eq_false, not_false_eq_true, true_and, and_true, implies_true, reduceIte]
    refine hn' Fd t ρ M2 hK2 hB2 hht (fun d x' y hr hxF' ho => hcl2 d x' y hr hxF' ?_)
    have := hr.1
    omega
theorem c_takeWay {u : MU} {A g : Nat → Bool} {a b : Nat} {M : Mem} {Fd : Int32} {t : Nat} {ρ : Nat → Nat} (hu : UW u) (hB : BI u A g a Fd t ρ M) (hgA : ∀ d, g d = true → d < uM u ∧ A d = true) (hg : ∀ d, bt (rd M 1606 5) d = g d) (hb : bt Fd b = true) : P_3_takeWay_0 (nI a) (nI b) M ∧ ∃ M', F_3_takeWay_0 (nI a) (nI b) M = M' ∧ Kp cF5 M M' ∧ ∃ g', (∀ d, bt (rd M' 1606 5) d = g' d) ∧ (∀ d, g' d = true → d < uM u ∧ A d = true) ∧ ∀ X : Nat → Bool, netF u X g' (uM u) = netF u X g (uM u) + chi X a - chi X b := by
  have hn := hu.1
  have hm := hu.2.1
  have ht : t ≤ 10 := by have := cnt_le (bt Fd) (uN u); have := hB.2.2.1; omega
  have haN := hB.2.1 a hB.1
  rw [P_3_takeWay_0, F_3_takeWay_0]
  refine lq (S := Nat × Mem) (F := fun n i q => F_3_takeWay_5 n (nI a) (nI q.1) i q.2) (P := fun n i q => P_3_takeWay_5 n (nI a) (nI q.1) i q.2) (Q := fun z => ∃ M', z = M' ∧ Kp cF5 M M' ∧ ∃ g', (∀ d, bt (rd M' 1606 5) d = g' d) ∧ (∀ d, g' d = true → d < uM u ∧ A d = true) ∧ ∀ X : Nat → Bool, netF u X g' (uM u) = netF u X g (uM u) + chi X a - chi X b) (10) (fun i q => Kp cF5 M q.2 ∧ bt Fd q.1 = true ∧ i + ρ q.1 ≤ 9 ∧ ∃ g', (∀ d, bt (rd q.2 1606 5) d = g' d) ∧ (∀ d, g' d = true → d < uM u ∧ A d = true) ∧ (∀ X : Nat → Bool, netF u X g' (uM u) = netF u X g (uM u) + chi X q.1 - chi X b) ∧ ∀ d, g' d ≠ g d → ∃ x y, rsD u A g d x y ∧ ρ q.1 < ρ y) ?_ ?_ FU 0 (b, M) ⟨Kp.rf, hb, by have := (hB.2.2.2.1 b hb).1; show 0 + ρ b ≤ 9; omega, g, hg, hgA, fun X => by show _ = _ + chi X b - _; omega, fun d hd => absurd rfl hd⟩ (Nat.zero_le _) (FU_ge (by omega))
  · rintro n i ⟨v, M2⟩ hi ⟨hK2, hvF, hiρ, g', hg', hgA', hnet, hch⟩ ih
    try dsimp only at hK2 hvF hiρ hg' hgA' hnet hch ih ⊢
    have q1 : ¬ (10 : Int32) ≤ nI i := nI_ge (b := 10) hi (by omega)
    have hvN := hB.2.1 v hvF
    have e1 : (nI v = nI a) ↔ v = a := nI_eq (by omega) (by omega)
    rw [P_3_takeWay_5, F_3_takeWay_5]
    by_cases c : v = a
    · simp only [q1, e1, c, if_true, if_false, true_imp_iff, false_imp_iff, not_true_eq_false, not_false_eq_true, true_and, and_true, implies_true, reduceIte]
      rw [c] at hnet
      exact ⟨M2, rfl, hK2, g', hg', hgA', hnet⟩
    · obtain ⟨d, p, g1, g2, g3, g4, g5⟩ := hB.2.2.2.2.2 v hvF c
      have v1 : vp_in (nI v) 10 := (vp_iff (by omega)).mpr (by omega)
      have g1' : rd M2 1608 v = nI d := by rw [hK2.g (by unfold cF5; omega)]; exact g1
      have g2' : rd (wr M2 1606 5 (rd M2 1606 5 ^^^ bi d)) 1609 v = nI p := by rw [rd_c (by decide), hK2.g (by unfold cF5; omega)]; exact g2
      have eg : g' d = g d := by
        apply Classical.byContradiction
        intro hne
        obtain ⟨x, y, h5, h6⟩ := hch d hne
        rw [← (rsD_un g3 h5).2] at h6; omega
      have hd24 : d < 24 := by have := g3.1; omega
      have g3' : rsD u A g' d p v := by
        obtain ⟨p1, p2, p3⟩ := g3
        rw [← eg] at p3
        exact ⟨p1, p2, p3⟩
      simp only [q1, e1, c, v1, nI_clamp (n := v) (by omega), g1', bi_of, g2', if_true, if_false, true_imp_iff, false_imp_iff, not_true_eq_false, not_false_eq_true, true_and, and_true, implies_true, reduceIte]
      refine ih (p, _) ⟨hK2.w ⟨rfl, rfl⟩, g4, by show i + 1 + ρ p ≤ 9; omega, upB g' d (!g' d), fun e => ?_, fun e he => ?_, fun X => ?_, fun e he => ?_⟩
      · show bt (rd (wr M2 1606 5 (rd M2 1606 5 ^^^ bi d)) 1606 5) e = _
        rw [rd_s, b_xor, hg', b_bi (by omega)]
        by_cases z : e = d
        · subst z; rw [upB_s]; simp
        · rw [upB_n z]; simp [z]
      · by_cases z : e = d
        · subst z; exact ⟨g3.1, g3.2.1⟩
        · rw [upB_n z] at he; exact hgA' e he
      · rw [netF_flip g3', if_pos g3.1, hnet X]
        show _ = _ + chi X p - _
        omega
      · by_cases z : e = d
        · subst z; exact ⟨p, v, g3, g5⟩
        · rw [upB_n z] at he
          obtain ⟨x, y, h5, h6⟩ := hch e he
          exact ⟨x, y, h5, Nat.lt_trans g5 h6⟩
  · rintro n ⟨v, M2⟩ ⟨_, _, hiρ, _⟩
    try dsimp only at hiρ
    omega
theorem c_findsWay {u : MU} {A g : Nat → Bool} {a b n : Nat} {ds : Int32} {M : Mem} (hp : CP 1561 u M) (hA : ∀ d, A d = bt ds d) (hg : ∀ d, bt (rd M 1606 5) d = g d) (hfl : FlowV u A a b g n) (ha : a < uN u) (hb : b < uN u) : P_3_findsWay_0 (nI a) (nI b) ds M ∧ ∃ v M', F_3_findsWay_0 (nI a) (nI b) ds M = (v, M') ∧ Kp cF M M' ∧ ((v = 0 ∧ IsMF u A a b n) ∨ (v = 1 ∧ ∃ g', (∀ d, bt (rd M' 1606 5) d = g' d) ∧ FlowV u A a b g' (n + 1))) := by
  have hu := hp.1
  have hn := hu.1
  have fin : ∀ Fd t ρ M2, Kp (fun c j => c = 1607 ∨ c = 1608 ∨ c = 1609) M M2 → BI u A g a Fd t ρ M2 → clo u A g Fd ρ t 0 → P_3_findsWay_153 (nI a) (nI b) Fd M2 ∧ ∃ v M', F_3_findsWay_153 (nI a) (nI b) Fd M2 = (v, M') ∧ Kp cF M M' ∧ ((v = 0 ∧ IsMF u A a b n) ∨ (v = 1 ∧ ∃ g', (∀ d, bt (rd M' 1606 5) d = g' d) ∧ FlowV u A a b g' (n + 1))) := by
    intro Fd t ρ M2 hK2 hB2 hcl
    have hKF : Kp cF M M2 := hK2.mono (fun c j z => Or.inr z)
    have z1 := b_z (x := Fd) (i := b) (by omega)
    rw [P_3_findsWay_153, F_3_findsWay_153]
    simp only [z1, if_true, if_false, true_imp_iff, false_imp_iff, not_true_eq_false, not_false_eq_true, true_and, and_true, implies_true, reduceIte, F_3_findsWay_170]
    cases c : bt Fd b
    · simp only [if_true, if_false, true_imp_iff, false_imp_iff, not_true_eq_false, not_false_eq_true, true_and, and_true, implies_true, reduceIte]
      refine ⟨0, M2, rfl, hKF, Or.inl ⟨rfl, hfl.cut (X := bt Fd) hB2.1 c (fun d v w hr hv => hcl d v w hr hv (Or.inl (hB2.2.2.2.1 v hv).1))⟩⟩
    · have hg2 : ∀ d, bt (rd M2 1606 5) d = g d := fun d => by rw [hK2.g (by omega)]; exact hg d
      obtain ⟨t1, M3, t2, t3, g', t4, t5, t6⟩ := c_takeWay hu hB2 hfl.1 hg2 c
      simp only [Bool.true_eq_false, t1, t2, if_true, if_false, true_imp_iff, false_imp_iff, not_true_eq_false, not_false_eq_true, true_and, and_true, implies_true, reduceIte]
      exact ⟨1, M3, rfl, hKF.tr (t3.mono (fun c j z => Or.inl z)), Or.inr ⟨rfl, g', t4, hfl.up t5 t6⟩⟩
  rw [P_3_findsWay_0, F_3_findsWay_0, bi_of, cl0]
  have hK0 : Kp (fun c j => c = 1607 ∨ c = 1608 ∨ c = 1609) M (wr M 1607 0 (nI a)) := Kp.rf.w (Or.inl rfl)
  have hB0 : BI u A g a (bi a) 1 (fun _ => 0) (wr M 1607 0 (nI a)) := by
    have hb1 : ∀ r, bt (bi a) r = true ↔ r = a := fun r => by rw [b_bi (by omega), decide_eq_true_eq]
    refine ⟨(hb1 a).mpr rfl, fun r hr => by rw [(hb1 r).mp hr]; exact ha, ?_, fun r hr => ⟨Nat.zero_lt_one, by rw [(hb1 r).mp hr]; exact rd_s _ _ _ _⟩, fun i hi => ⟨a, (hb1 a).mpr rfl, by show 0 = i; omega⟩, fun r hr hra => absurd ((hb1 r).mp hr) hra⟩
    have := cnt_add1 (p := fun _ => false) (q := bt (bi a)) (y := a) rfl (fun i => by rw [b_bi (by omega)]; rfl) (uN u)
    have z : cnt (fun _ => false) (uN u) = 0 := by rw [cnt_ext (m := 0) (Nat.zero_le _) (fun _ _ _ => rfl)]; rfl
    rw [this, z, if_pos ha]
  refine lq (S := Int32 × Nat × Mem) (F := fun n i q => F_3_findsWay_18 n (nI a) (nI b) ds q.1 (nI q.2.1) i q.2.2) (P := fun n i q => P_3_findsWay_18 n (nI a) (nI b) ds q.1 (nI q.2.1) i q.2.2) (Q := fun z => ∃ v M', z = (v, M') ∧ Kp cF M M' ∧ ((v = 0 ∧ IsMF u A a b n) ∨ (v = 1 ∧ ∃ g', (∀ d, bt (rd M' 1606 5) d = g' d) ∧ FlowV u A a b g' (n + 1)))) (10) (fun h q => Kp (fun c j => c = 1607 ∨ c = 1608 ∨ c = 1609) M q.2.2 ∧ ∃ ρ, BI u A g a q.1 q.2.1 ρ q.2.2 ∧ h ≤ q.2.1 ∧ clo u A g q.1 ρ h 0) ?_ ?_ FU 0 (bi a, 1, wr M 1607 0 (nI a)) ⟨hK0, fun _ => 0, hB0, Nat.zero_le _, fun d x y _ _ ho => by omega⟩ (Nat.zero_le _) (FU_ge (by omega))
  · rintro m h ⟨Fd, t, M2⟩ hh ⟨hK2, ρ, hB2, hht, hcl⟩ ih
    try dsimp only at hK2 hB2 hht hcl ih ⊢
    have ht : t ≤ 10 := by have := cnt_le (bt Fd) (uN u); have := hB2.2.2.1; omega
    have e1 : (nI t ≤ nI h) ↔ t ≤ h := nI_leI (by omega) (by omega)
    have q2 : ¬ (10 : Int32) ≤ nI h := nI_ge (b := 10) hh (by omega)
    have v1 : vp_in (nI h) 10 := (vp_iff (by omega)).mpr hh
    rw [P_3_findsWay_18, F_3_findsWay_18]
    by_cases c : t ≤ h
    · simp only [e1, c, if_true, if_false, true_imp_iff, false_imp_iff, not_true_eq_false, not_false_eq_true, true_and, and_true, implies_true, reduceIte]
      exact fin Fd t ρ M2 hK2 hB2 (by rw [show t = h by omega]; exact hcl)
    · simp only [e1, c, q2, v1, nI_clamp (n := h) (by omega), if_true, if_false, true_imp_iff, false_imp_iff, not_true_eq_false, not_false_eq_true, true_and, and_true, implies_true, reduceIte]
      exact c_bfsIn (Q := fun z => ∃ v M', z = (v, M') ∧ Kp cF M M' ∧ ((v = 0 ∧ IsMF u A a b n) ∨ (v = 1 ∧ ∃ g', (∀ d, bt (rd M' 1606 5) d = g' d) ∧ FlowV u A a b g' (n + 1)))) hp hA hg hK2 hB2 (by omega) hcl (fun Fd t ρ M3 k1 k2 k3 k4 => ih (Fd, t, M3) ⟨k1, ρ, k2, k3, k4⟩)
  · rintro m ⟨Fd, t, M2⟩ ⟨hK2, ρ, hB2, hht, hcl⟩
    try dsimp only at hK2 hB2 hht hcl ⊢
    have ht : t ≤ 10 := by have := cnt_le (bt Fd) (uN u); have := hB2.2.2.1; omega
    have e1 : nI t ≤ nI 10 := nI_le (by omega) (by omega)
    rw [P_3_findsWay_18, F_3_findsWay_18]
    simp only [e1, if_true, if_false, true_imp_iff, false_imp_iff, not_true_eq_false, not_false_eq_true, true_and, and_true, implies_true, reduceIte]
    exact fin Fd t ρ M2 hK2 hB2 (by rw [show t = 10 by omega]; exact hcl)
theorem c_waysApart {u : MU} {A : Nat → Bool} {a b : Nat} {ds : Int32} {M : Mem} (hp : CP 1561 u M) (hA : ∀ d, A d = bt ds d) (ha : a < uN u) (hb : b < uN u) (hab : a ≠ b) : P_3_waysApart_0 (nI a) (nI b) ds M ∧ ∃ n M', F_3_waysApart_0 (nI a) (nI b) ds M = (nI n, M') ∧ n ≤ 24 ∧ IsMF u A a b n ∧ Kp cF M M' := by
  have hu := hp.1
  rw [P_3_waysApart_0, F_3_waysApart_0]
  refine lq (S := Mem) (F := fun n i q => F_3_waysApart_8 n (nI a) (nI b) ds i q) (P := fun n i q => P_3_waysApart_8 n (nI a) (nI b) ds i q) (Q := fun z => ∃ n M', z = (nI n, M') ∧ n ≤ 24 ∧ IsMF u A a b n ∧ Kp cF M M') (24) (fun i q => Kp cF M q ∧ ∃ g, (∀ d, bt (rd q 1606 5) d = g d) ∧ FlowV u A a b g i) ?_ ?_ FU 0 (wr M 1606 5 0) ⟨Kp.rf.w (Or.inl ⟨rfl, rfl⟩), fun _ => false, fun d => by rw [rd_s, b_0], FlowV.z⟩ (Nat.zero_le _) (FU_ge (by omega))
  · rintro n i M2 hi ⟨hK2, g, hg, hfl⟩ ih
    try dsimp only at ih ⊢
    have q1 : ¬ (24 : Int32) ≤ nI i := nI_ge (b := 24) hi (by omega)
    obtain ⟨r1, v, M3, r2, r3, r4⟩ := c_findsWay (hp.k hK2 (fun a j z => by unfold cF at z; omega)) hA hg hfl ha hb
    rw [P_3_waysApart_8, F_3_waysApart_8]
    simp only [q1, r1, r2, if_true, if_false, true_imp_iff, false_imp_iff, not_true_eq_false, not_false_eq_true, true_and, and_true, implies_true, reduceIte, P_3_waysApart_22, F_3_waysApart_22]
    rcases r4 with ⟨rfl, h1⟩ | ⟨rfl, g', h1, h2⟩
    · simp only [if_true, if_false, true_imp_iff, false_imp_iff, not_true_eq_false, not_false_eq_true, true_and, and_true, implies_true, reduceIte]
      exact ⟨i, M3, rfl, by omega, h1, hK2.tr r3⟩
    · simp only [i1_0, if_true, if_false, true_imp_iff, false_imp_iff, not_true_eq_false, not_false_eq_true, true_and, and_true, implies_true, reduceIte]
      exact ih M3 ⟨hK2.tr r3, g', h1, h2⟩
  · rintro n M2 ⟨hK2, g, hg, hfl⟩
    try dsimp only
    rw [P_3_waysApart_8, F_3_waysApart_8]
    simp only [(by decide : (24 : Int32) ≤ nI 24), if_true, if_false, true_imp_iff, false_imp_iff, not_true_eq_false, not_false_eq_true, true_and, and_true, implies_true, reduceIte]
    exact ⟨24, M2, rfl, Nat.le_refl _, (hfl.max hu hab).2 rfl, hK2⟩
