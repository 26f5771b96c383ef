def F_0_commonTwos_0 (M : Mem) (y0 : Int64) : Int64 := (y0 &&& (-y0))
theorem T_0_commonTwos_0 {g : Gl} (M : Mem) (y0 : Int64)  : Rn g 0 m0_commonTwos 0 [some (.long y0), none] [] M (some (.long (F_0_commonTwos_0 M y0))) (M) := by
  rw [F_0_commonTwos_0]
  exact b0_commonTwos_0  rfl rfl
theorem C_0_commonTwos {g : Gl}  (y0 : Int64) (M : Mem)  : Ms g 0 m0_commonTwos [.long y0] M (some (.long (F_0_commonTwos_0 M y0))) (M) := Ms.of okM_m0_commonTwos (Nat.le_of_ble_eq_true rfl) (R_wk (lc rfl (ln l0)) (T_0_commonTwos_0 M y0))
def F_0_aboveInLeastTerms_0 (M : Mem) (y1 : Int64) : Int64 := if (lg_cmp y1 0) = 0 then (0) else ((y1 / (F_0_commonTwos_0 M y1)))
def P_0_aboveInLeastTerms_0 (M : Mem) (y1 : Int64) : Prop := ((¬ (lg_cmp y1 0) = 0 → (((¬ ((F_0_commonTwos_0 M y1) : Int64) = 0)))) ∧ ((lg_cmp y1 0) = 0 → True))
theorem T_0_aboveInLeastTerms_0 {g : Gl} (M : Mem) (y1 : Int64) (hp : P_0_aboveInLeastTerms_0 M y1) : Rn g 1 m0_aboveInLeastTerms 0 [none, some (.long y1), none] [] M (some (.long (F_0_aboveInLeastTerms_0 M y1))) (M) := by
  rw [F_0_aboveInLeastTerms_0]
  rw [P_0_aboveInLeastTerms_0] at hp
  refine b0_aboveInLeastTerms_0  (fun h => ?_) (fun h => ?_)
  · rw [if_neg h]
    have hp := hp.1 h
    refine b0_aboveInLeastTerms_10  (C_0_commonTwos y1 M) (Nat.le_of_ble_eq_true rfl) ?_
    have p0 := hp
    refine b0_aboveInLeastTerms_15 p0 ?_
    exact b0_aboveInLeastTerms_16  rfl rfl
  · rw [if_pos h]
    refine b0_aboveInLeastTerms_6  ?_
    exact b0_aboveInLeastTerms_16  rfl rfl
theorem C_0_aboveInLeastTerms {g : Gl}  (y1 : Int64) (M : Mem) (hp : P_0_aboveInLeastTerms_0 M y1) : Ms g 1 m0_aboveInLeastTerms [.ref 1599, .long y1] M (some (.long (F_0_aboveInLeastTerms_0 M y1))) (M) := Ms.of okM_m0_aboveInLeastTerms (Nat.le_of_ble_eq_true rfl) (R_wk (ln (lc rfl (ln l0))) (T_0_aboveInLeastTerms_0 M y1 hp))
def F_0_belowInLeastTerms_0 (M : Mem) (y1 : Int64) : Int64 := if (lg_cmp y1 0) = 0 then (1) else ((68719476736 / (F_0_commonTwos_0 M y1)))
def P_0_belowInLeastTerms_0 (M : Mem) (y1 : Int64) : Prop := ((¬ (lg_cmp y1 0) = 0 → (((¬ ((F_0_commonTwos_0 M y1) : Int64) = 0)))) ∧ ((lg_cmp y1 0) = 0 → True))
theorem T_0_belowInLeastTerms_0 {g : Gl} (M : Mem) (y1 : Int64) (hp : P_0_belowInLeastTerms_0 M y1) : Rn g 1 m0_belowInLeastTerms 0 [none, some (.long y1), none] [] M (some (.long (F_0_belowInLeastTerms_0 M y1))) (M) := by
  rw [F_0_belowInLeastTerms_0]
  rw [P_0_belowInLeastTerms_0] at hp
  refine b0_belowInLeastTerms_0  (fun h => ?_) (fun h => ?_)
  · rw [if_neg h]
    have hp := hp.1 h
    refine b0_belowInLeastTerms_10  (C_0_commonTwos y1 M) (Nat.le_of_ble_eq_true rfl) ?_
    have p0 := hp
    refine b0_belowInLeastTerms_17 p0 ?_
    exact b0_belowInLeastTerms_18  rfl rfl
  · rw [if_pos h]
    refine b0_belowInLeastTerms_6  ?_
    exact b0_belowInLeastTerms_18  rfl rfl
theorem C_0_belowInLeastTerms {g : Gl}  (y1 : Int64) (M : Mem) (hp : P_0_belowInLeastTerms_0 M y1) : Ms g 1 m0_belowInLeastTerms [.ref 1599, .long y1] M (some (.long (F_0_belowInLeastTerms_0 M y1))) (M) := Ms.of okM_m0_belowInLeastTerms (Nat.le_of_ble_eq_true rfl) (R_wk (ln (lc rfl (ln l0))) (T_0_belowInLeastTerms_0 M y1 hp))
def F_2_fact_78 (M : Mem) : Int32 := 0
theorem T_2_fact_78 {g : Gl} (M : Mem)  : Rn g 0 m2_fact 78 [none, none, none, none, none, none] [] M (some (.int (F_2_fact_78 M))) (M) := by
  rw [F_2_fact_78]
  refine b2_fact_78  ?_
  exact b2_fact_79  rfl rfl
def F_2_fact_0 (M : Mem) (x0 : Int32) (x3 : Int32) (x4 : Int32) : Int32 := (if x0 = (-7) then (rd M 1562 ((rd M 1568 x3.toNatClampNeg).toNatClampNeg)) else (if x0 = (-6) then (rd M 1568 x3.toNatClampNeg) else (if x0 = (-5) then (rd M 1567 x3.toNatClampNeg) else (if x0 = (-4) then x3 else (if x0 = (-3) then (x4 / 24) else (if x0 = (-2) then (x4 - x4 / 24 * 24) else (if x0 = (-1) then (if (x4 - x4 / 24 * 24) < (rd M 1569 x3.toNatClampNeg) then (F_2_fact_78 M) else (if (rd M 1570 x3.toNatClampNeg) < (x4 - x4 / 24 * 24) then (F_2_fact_78 M) else (1))) else (rd M 1623 x3.toNatClampNeg))))))))
def P_2_fact_0 (M : Mem) (x0 : Int32) (x3 : Int32) (x4 : Int32) : Prop := ((x0 = (-7) → (vp_in x3 24) ∧ (vp_in (rd M 1568 x3.toNatClampNeg) 10)) ∧ (x0 = (-6) → (vp_in x3 24)) ∧ (x0 = (-5) → (vp_in x3 24)) ∧ (x0 = (-4) → True) ∧ (x0 = (-3) → True) ∧ (x0 = (-2) → True) ∧ (x0 = (-1) → (vp_in x3 24) ∧ (((x4 - x4 / 24 * 24) < (rd M 1569 x3.toNatClampNeg) → True) ∧ (¬ (x4 - x4 / 24 * 24) < (rd M 1569 x3.toNatClampNeg) → (vp_in x3 24)))) ∧ (¬ x0 = (-7) ∧ ¬ x0 = (-6) ∧ ¬ x0 = (-5) ∧ ¬ x0 = (-4) ∧ ¬ x0 = (-3) ∧ ¬ x0 = (-2) ∧ ¬ x0 = (-1) → (vp_in x3 24)))
theorem T_2_fact_0 {g : Gl} (M : Mem) (x0 : Int32) (x3 : Int32) (x4 : Int32) (hp : P_2_fact_0 M x0 x3 x4) : Rn g 0 m2_fact 0 [some (.int x0), some (.ref 1561), some (.ref 1622), some (.int x3), some (.int x4), none] [] M (some (.int (F_2_fact_0 M x0 x3 x4))) (M) := by
  rw [F_2_fact_0]
  rw [P_2_fact_0] at hp
  by_cases h0 : x0 = (-7)
  · rw [if_pos h0]
    have hp := hp.1 h0
    refine b2_fact_0_cm7 (by decide) h0 ?_
    obtain ⟨p0, p1⟩ := hp
    exact b2_fact_105 p0 p1 rfl rfl
  rw [if_neg h0]
  by_cases h1 : x0 = (-6)
  · rw [if_pos h1]
    have hp := hp.2.1 h1
    refine b2_fact_0_cm6 (by decide) h1 ?_
    have p2 := hp
    exact b2_fact_98 p2 rfl rfl
  rw [if_neg h1]
  by_cases h2 : x0 = (-5)
  · rw [if_pos h2]
    have hp := hp.2.2.1 h2
    refine b2_fact_0_cm5 (by decide) h2 ?_
    have p3 := hp
    exact b2_fact_91 p3 rfl rfl
  rw [if_neg h2]
  by_cases h3 : x0 = (-4)
  · rw [if_pos h3]
    refine b2_fact_0_cm4 (by decide) h3 ?_
    exact b2_fact_89  rfl rfl
  rw [if_neg h3]
  by_cases h4 : x0 = (-3)
  · rw [if_pos h4]
    refine b2_fact_0_cm3 (by decide) h4 ?_
    exact b2_fact_83 (by decide) rfl rfl
  rw [if_neg h4]
  by_cases h5 : x0 = (-2)
  · rw [if_pos h5]
    refine b2_fact_0_cm2 (by decide) h5 ?_
    exact b2_fact_80  rfl rfl
  rw [if_neg h5]
  by_cases h6 : x0 = (-1)
  · rw [if_pos h6]
    have hp := hp.2.2.2.2.2.2.1 h6
    refine b2_fact_0_cm1 (by decide) h6 ?_
    obtain ⟨p4, hp⟩ := hp
    refine b2_fact_52 p4 (fun h => ?_) (fun h => ?_)
    · rw [if_pos h]
      exact T_2_fact_78 _
    · rw [if_neg h]
      have hp := hp.2 h
      have p5 := hp
      refine b2_fact_63 p5 (fun h => ?_) (fun h => ?_)
      · rw [if_pos h]
        exact T_2_fact_78 _
      · rw [if_neg h]
        refine b2_fact_74  ?_
        exact b2_fact_79  rfl rfl
  rw [if_neg h6]
  have hp := hp.2.2.2.2.2.2.2 ⟨h0, h1, h2, h3, h4, h5, h6⟩
  refine b2_fact_0_d (by decide) (sw_out (x := x0) (lo := -7) (hi := -1) (by intro z ha hb e; rcases (show z = -7 ∨ z = -6 ∨ z = -5 ∨ z = -4 ∨ z = -3 ∨ z = -2 ∨ z = -1 by omega) with r | r | r | r | r | r | r <;> subst r <;> first | exact h0 (Int32.toInt_inj.mp (e.trans (by decide))) | exact h1 (Int32.toInt_inj.mp (e.trans (by decide))) | exact h2 (Int32.toInt_inj.mp (e.trans (by decide))) | exact h3 (Int32.toInt_inj.mp (e.trans (by decide))) | exact h4 (Int32.toInt_inj.mp (e.trans (by decide))) | exact h5 (Int32.toInt_inj.mp (e.trans (by decide))) | exact h6 (Int32.toInt_inj.mp (e.trans (by decide))))) ?_
  have p6 := hp
  exact b2_fact_117 p6 rfl rfl
theorem C_2_fact {g : Gl}  (x0 : Int32) (x3 : Int32) (x4 : Int32) (M : Mem) (hp : P_2_fact_0 M x0 x3 x4) : Ms g 0 m2_fact [.int x0, .ref 1561, .ref 1622, .int x3, .int x4] M (some (.int (F_2_fact_0 M x0 x3 x4))) (M) := Ms.of okM_m2_fact (Nat.le_of_ble_eq_true rfl) (R_wk (lc rfl (lc rfl (lc rfl (lc rfl (lc rfl (ln l0)))))) (T_2_fact_0 M x0 x3 x4 hp))
def F_2_join_0 (M : Mem) (x0 : Int32) (x1 : Int32) (x2 : Int32) : Int32 := (if x0 = (-14) then (if x2 = 0 then (0) else ((x1 / x2))) else (if x0 = (-13) then (x1 * x2) else (if x0 = (-12) then (x1 - x2) else (if x0 = (-11) then (x1 + x2) else (if x0 = (-10) then (if x1 < x2 then x2 else x1) else (if x0 = (-9) then (if x2 < x1 then x2 else x1) else (if x2 = 0 then (0) else ((x1 - x1 / x2 * x2)))))))))
def P_2_join_0 (M : Mem) (x0 : Int32) (x1 : Int32) (x2 : Int32) : Prop := ((x0 = (-14) → ((¬ x2 = 0 → (¬ x2 = 0)) ∧ (x2 = 0 → True))) ∧ (x0 = (-13) → True) ∧ (x0 = (-12) → True) ∧ (x0 = (-11) → True) ∧ (x0 = (-10) → True) ∧ (x0 = (-9) → True) ∧ (¬ x0 = (-14) ∧ ¬ x0 = (-13) ∧ ¬ x0 = (-12) ∧ ¬ x0 = (-11) ∧ ¬ x0 = (-10) ∧ ¬ x0 = (-9) → ((¬ x2 = 0 → (¬ x2 = 0)) ∧ (x2 = 0 → True))))
theorem T_2_join_0 {g : Gl} (M : Mem) (x0 : Int32) (x1 : Int32) (x2 : Int32) (hp : P_2_join_0 M x0 x1 x2) : Rn g 1 m2_join 0 [some (.int x0), some (.int x1), some (.int x2)] [] M (some (.int (F_2_join_0 M x0 x1 x2))) (M) := by
  rw [F_2_join_0]
  rw [P_2_join_0] at hp
  by_cases h0 : x0 = (-14)
  · rw [if_pos h0]
    have hp := hp.1 h0
    refine b2_join_0_cm14  h0 ?_
    refine b2_join_64  (fun h => ?_) (fun h => ?_)
    · rw [if_neg h]
      have hp := hp.1 h
      have p0 := hp
      refine b2_join_72 p0 ?_
      exact b2_join_75  rfl rfl
    · rw [if_pos h]
      refine b2_join_68  ?_
      exact b2_join_75  rfl rfl
  rw [if_neg h0]
  by_cases h1 : x0 = (-13)
  · rw [if_pos h1]
    refine b2_join_0_cm13  h1 ?_
    exact b2_join_60  rfl rfl
  rw [if_neg h1]
  by_cases h2 : x0 = (-12)
  · rw [if_pos h2]
    refine b2_join_0_cm12  h2 ?_
    exact b2_join_56  rfl rfl
  rw [if_neg h2]
  by_cases h3 : x0 = (-11)
  · rw [if_pos h3]
    refine b2_join_0_cm11  h3 ?_
    exact b2_join_52  rfl rfl
  rw [if_neg h3]
  by_cases h4 : x0 = (-10)
  · rw [if_pos h4]
    refine b2_join_0_cm10  h4 ?_
    refine b2_join_46 (Nat.le_of_ble_eq_true rfl) ?_
    exact b2_join_51  rfl rfl
  rw [if_neg h4]
  by_cases h5 : x0 = (-9)
  · rw [if_pos h5]
    refine b2_join_0_cm9  h5 ?_
    refine b2_join_40 (Nat.le_of_ble_eq_true rfl) ?_
    exact b2_join_45  rfl rfl
  rw [if_neg h5]
  have hp := hp.2.2.2.2.2.2 ⟨h0, h1, h2, h3, h4, h5⟩
  refine b2_join_0_d  (sw_out (x := x0) (lo := -14) (hi := -9) (by intro z ha hb e; rcases (show z = -14 ∨ z = -13 ∨ z = -12 ∨ z = -11 ∨ z = -10 ∨ z = -9 by omega) with r | r | r | r | r | r <;> subst r <;> first | exact h0 (Int32.toInt_inj.mp (e.trans (by decide))) | exact h1 (Int32.toInt_inj.mp (e.trans (by decide))) | exact h2 (Int32.toInt_inj.mp (e.trans (by decide))) | exact h3 (Int32.toInt_inj.mp (e.trans (by decide))) | exact h4 (Int32.toInt_inj.mp (e.trans (by decide))) | exact h5 (Int32.toInt_inj.mp (e.trans (by decide))))) ?_
  refine b2_join_76  (fun h => ?_) (fun h => ?_)
  · rw [if_neg h]
    have hp := hp.1 h
    have p1 := hp
    refine b2_join_84 p1 ?_
    exact b2_join_87  rfl rfl
  · rw [if_pos h]
    refine b2_join_80  ?_
    exact b2_join_87  rfl rfl
theorem C_2_join {g : Gl}  (x0 : Int32) (x1 : Int32) (x2 : Int32) (M : Mem) (hp : P_2_join_0 M x0 x1 x2) : Ms g 1 m2_join [.int x0, .int x1, .int x2] M (some (.int (F_2_join_0 M x0 x1 x2))) (M) := Ms.of okM_m2_join (Nat.le_of_ble_eq_true rfl) (R_wk (lc rfl (lc rfl (lc rfl l0))) (T_2_join_0 M x0 x1 x2 hp))
def F_2_valueFor_110 (k6 : Int32 → Int32 → Int32 → Int32 → Mem → Int32 × Mem) (x3 : Int32) (x4 : Int32) (x5 : Int32) (x6 : Int32) (M : Mem) : Int32 × Mem := k6 x3 x4 x5 (x6 + 1) M
def P_2_valueFor_110 (pk6 : Int32 → Int32 → Int32 → Int32 → Mem → Prop) (x3 : Int32) (x4 : Int32) (x5 : Int32) (x6 : Int32) (M : Mem) : Prop := (pk6 x3 x4 x5 (x6 + 1) M)
theorem T_2_valueFor_110 {g : Gl} (k6 : Int32 → Int32 → Int32 → Int32 → Mem → Int32 × Mem) (pk6 : Int32 → Int32 → Int32 → Int32 → Mem → Prop) (ih6 : ∀ (x3 : Int32) (x4 : Int32) (x5 : Int32) (x6 : Int32) (M : Mem), pk6 x3 x4 x5 x6 M → Rn g 2 m2_valueFor 6 [some (.ref 1583), some (.ref 1561), some (.ref 1622), some (.int x3), some (.int x4), some (.int x5), some (.int x6), none] [] M (some (.int (k6 x3 x4 x5 x6 M).1)) ((k6 x3 x4 x5 x6 M).2)) (x3 : Int32) (x4 : Int32) (x5 : Int32) (x6 : Int32) (M : Mem) (hp : P_2_valueFor_110 pk6 x3 x4 x5 x6 M) : Rn g 2 m2_valueFor 110 [some (.ref 1583), some (.ref 1561), some (.ref 1622), some (.int x3), some (.int x4), some (.int x5), some (.int x6), none] [] M (some (.int (F_2_valueFor_110 k6 x3 x4 x5 x6 M).1)) ((F_2_valueFor_110 k6 x3 x4 x5 x6 M).2) := by
  rw [F_2_valueFor_110]
  rw [P_2_valueFor_110] at hp
  refine b2_valueFor_110  ?_
  exact ih6 x3 x4 x5 (x6 + 1) M hp
def F_2_valueFor_64 (k6 : Int32 → Int32 → Int32 → Int32 → Mem → Int32 × Mem) (x3 : Int32) (x4 : Int32) (x5 : Int32) (x6 : Int32) (xs0 : Int32) (xs1 : Int32) (M : Mem) : Int32 × Mem := F_2_valueFor_110 k6 x3 x4 (x5 + 1) x6 (wr M 1586 xs1.toNatClampNeg xs0)
def P_2_valueFor_64 (pk6 : Int32 → Int32 → Int32 → Int32 → Mem → Prop) (x3 : Int32) (x4 : Int32) (x5 : Int32) (x6 : Int32) (xs0 : Int32) (xs1 : Int32) (M : Mem) : Prop := (vp_in xs1 48) ∧ (P_2_valueFor_110 pk6 x3 x4 (x5 + 1) x6 (wr M 1586 xs1.toNatClampNeg xs0))
theorem T_2_valueFor_64 {g : Gl} (k6 : Int32 → Int32 → Int32 → Int32 → Mem → Int32 × Mem) (pk6 : Int32 → Int32 → Int32 → Int32 → Mem → Prop) (ih6 : ∀ (x3 : Int32) (x4 : Int32) (x5 : Int32) (x6 : Int32) (M : Mem), pk6 x3 x4 x5 x6 M → Rn g 2 m2_valueFor 6 [some (.ref 1583), some (.ref 1561), some (.ref 1622), some (.int x3), some (.int x4), some (.int x5), some (.int x6), none] [] M (some (.int (k6 x3 x4 x5 x6 M).1)) ((k6 x3 x4 x5 x6 M).2)) (x3 : Int32) (x4 : Int32) (x5 : Int32) (x6 : Int32) (xs0 : Int32) (xs1 : Int32) (M : Mem) (hp : P_2_valueFor_64 pk6 x3 x4 x5 x6 xs0 xs1 M) : Rn g 2 m2_valueFor 64 [some (.ref 1583), some (.ref 1561), some (.ref 1622), some (.int x3), some (.int x4), some (.int x5), some (.int x6), none] [.int xs0, .int xs1, .ref 1586] M (some (.int (F_2_valueFor_64 k6 x3 x4 x5 x6 xs0 xs1 M).1)) ((F_2_valueFor_64 k6 x3 x4 x5 x6 xs0 xs1 M).2) := by
  rw [F_2_valueFor_64]
  rw [P_2_valueFor_64] at hp
  obtain ⟨p0, hp⟩ := hp
  refine b2_valueFor_64 p0 ?_
  exact T_2_valueFor_110 k6 pk6 ih6 x3 x4 (x5 + 1) x6 (wr M 1586 xs1.toNatClampNeg xs0) hp
def F_2_valueFor_6  : Nat → Int32 → Int32 → Int32 → Int32 → Mem → Int32 × Mem
  | 0, _, _, _, _, M => (0, M)
  | n + 1, x3, x4, x5, x6, M => if (rd M 1583 3) ≤ x6 then ((rd M 1586 ((0 : Int32).toNatClampNeg), M)) else (if (rd M 1584 x6.toNatClampNeg) ≤ (-9) then (if x5 < 2 then (F_2_valueFor_110 (F_2_valueFor_6 n) x3 x4 x5 x6 M) else (F_2_valueFor_110 (F_2_valueFor_6 n) x3 x4 (x5 + (-1)) x6 (wr M 1586 ((x5 + (-1)) - 1).toNatClampNeg (F_2_join_0 M (rd M 1584 x6.toNatClampNeg) (rd M 1586 (((x5 + (-1)) - 1).toNatClampNeg)) (rd M 1586 ((x5 + (-1)).toNatClampNeg)))))) else (if (48 : Int32) ≤ x5 then (F_2_valueFor_110 (F_2_valueFor_6 n) x3 x4 x5 x6 M) else (if (rd M 1584 x6.toNatClampNeg) < 0 then (F_2_valueFor_64 (F_2_valueFor_6 n) x3 x4 x5 x6 (F_2_fact_0 M (rd M 1584 x6.toNatClampNeg) x3 x4) x5 M) else (F_2_valueFor_64 (F_2_valueFor_6 n) x3 x4 x5 x6 (rd M 1584 x6.toNatClampNeg) x5 M))))
def P_2_valueFor_6  : Nat → Int32 → Int32 → Int32 → Int32 → Mem → Prop
  | 0, _, _, _, _, _ => False
  | n + 1, x3, x4, x5, x6, M => (((rd M 1583 3) ≤ x6 → True) ∧ (¬ (rd M 1583 3) ≤ x6 → (vp_in x6 150) ∧ (((rd M 1584 x6.toNatClampNeg) ≤ (-9) → ((x5 < 2 → P_2_valueFor_110 (P_2_valueFor_6 n) x3 x4 x5 x6 M) ∧ (¬ x5 < 2 → (vp_in ((x5 + (-1)) - 1) 48) ∧ (vp_in (x5 + (-1)) 48) ∧ ((P_2_join_0 M (rd M 1584 x6.toNatClampNeg) (rd M 1586 (((x5 + (-1)) - 1).toNatClampNeg)) (rd M 1586 ((x5 + (-1)).toNatClampNeg))) ∧ ((vp_in ((x5 + (-1)) - 1) 48) ∧ (P_2_valueFor_110 (P_2_valueFor_6 n) x3 x4 (x5 + (-1)) x6 (wr M 1586 ((x5 + (-1)) - 1).toNatClampNeg (F_2_join_0 M (rd M 1584 x6.toNatClampNeg) (rd M 1586 (((x5 + (-1)) - 1).toNatClampNeg)) (rd M 1586 ((x5 + (-1)).toNatClampNeg)))))))))) ∧ (¬ (rd M 1584 x6.toNatClampNeg) ≤ (-9) → (((48 : Int32) ≤ x5 → P_2_valueFor_110 (P_2_valueFor_6 n) x3 x4 x5 x6 M) ∧ (¬ (48 : Int32) ≤ x5 → (((rd M 1584 x6.toNatClampNeg) < 0 → ((P_2_fact_0 M (rd M 1584 x6.toNatClampNeg) x3 x4) ∧ (P_2_valueFor_64 (P_2_valueFor_6 n) x3 x4 x5 x6 (F_2_fact_0 M (rd M 1584 x6.toNatClampNeg) x3 x4) x5 M))) ∧ (¬ (rd M 1584 x6.toNatClampNeg) < 0 → (P_2_valueFor_64 (P_2_valueFor_6 n) x3 x4 x5 x6 (rd M 1584 x6.toNatClampNeg) x5 M)))))))))
theorem T_2_valueFor_6 {g : Gl} : ∀ (n : Nat) (x3 : Int32) (x4 : Int32) (x5 : Int32) (x6 : Int32) (M : Mem) (hp : P_2_valueFor_6 n x3 x4 x5 x6 M), Rn g 2 m2_valueFor 6 [some (.ref 1583), some (.ref 1561), some (.ref 1622), some (.int x3), some (.int x4), some (.int x5), some (.int x6), none] [] M (some (.int (F_2_valueFor_6 n x3 x4 x5 x6 M).1)) ((F_2_valueFor_6 n x3 x4 x5 x6 M).2) := by
  intro n
  induction n with
  | zero => intro x3 x4 x5 x6 M hp; exact hp.elim
  | succ n ih =>
    intro x3 x4 x5 x6 M hp
    rw [F_2_valueFor_6]
    rw [P_2_valueFor_6] at hp
    refine b2_valueFor_6  (fun h => ?_) (fun h => ?_)
    · rw [if_pos h]
      exact b2_valueFor_116 (vpl (by decide)) rfl rfl
    · rw [if_neg h]
      have hp := hp.2 h
      obtain ⟨p0, hp⟩ := hp
      refine b2_valueFor_15 p0 (fun h => ?_) (fun h => ?_)
      · rw [if_pos h]
        have hp := hp.1 h
        refine b2_valueFor_71  (fun h => ?_) (fun h => ?_)
        · rw [if_pos h]
          have hp := hp.1 h
          exact T_2_valueFor_110 (F_2_valueFor_6 n) (P_2_valueFor_6 n) ih x3 x4 x5 x6 M hp
        · rw [if_neg h]
          have hp := hp.2 h
          obtain ⟨p1, p2, hp⟩ := hp
          obtain ⟨hc, hp⟩ := hp
          refine b2_valueFor_77 p1 p2 (C_2_join (rd M 1584 x6.toNatClampNeg) (rd M 1586 (((x5 + (-1)) - 1).toNatClampNeg)) (rd M 1586 ((x5 + (-1)).toNatClampNeg)) M hc) (Nat.le_of_ble_eq_true rfl) ?_
          obtain ⟨p3, hp⟩ := hp
          refine b2_valueFor_109 p3 ?_
          exact T_2_valueFor_110 (F_2_valueFor_6 n) (P_2_valueFor_6 n) ih x3 x4 (x5 + (-1)) x6 (wr M 1586 ((x5 + (-1)) - 1).toNatClampNeg (F_2_join_0 M (rd M 1584 x6.toNatClampNeg) (rd M 1586 (((x5 + (-1)) - 1).toNatClampNeg)) (rd M 1586 ((x5 + (-1)).toNatClampNeg)))) hp
      · rw [if_neg h]
        have hp := hp.2 h
        refine b2_valueFor_31  (fun h => ?_) (fun h => ?_)
        · rw [if_pos h]
          have hp := hp.1 h
          exact T_2_valueFor_110 (F_2_valueFor_6 n) (P_2_valueFor_6 n) ih x3 x4 x5 x6 M hp
        · rw [if_neg h]
          have hp := hp.2 h
          refine b2_valueFor_38  (fun h => ?_) (fun h => ?_)
          · rw [if_pos h]
            have hp := hp.1 h
            obtain ⟨hc, hp⟩ := hp
            refine b2_valueFor_54  (C_2_fact (rd M 1584 x6.toNatClampNeg) x3 x4 M hc) (Nat.le_of_ble_eq_true rfl) ?_
            exact T_2_valueFor_64 (F_2_valueFor_6 n) (P_2_valueFor_6 n) ih x3 x4 x5 x6 (F_2_fact_0 M (rd M 1584 x6.toNatClampNeg) x3 x4) x5 M hp
          · rw [if_neg h]
            have hp := hp.2 h
            refine b2_valueFor_49  ?_
            exact T_2_valueFor_64 (F_2_valueFor_6 n) (P_2_valueFor_6 n) ih x3 x4 x5 x6 (rd M 1584 x6.toNatClampNeg) x5 M hp
def F_2_valueFor_0 (x3 : Int32) (x4 : Int32) (M : Mem) : Int32 × Mem := F_2_valueFor_6 FU x3 x4 0 0 M
def P_2_valueFor_0 (x3 : Int32) (x4 : Int32) (M : Mem) : Prop := (P_2_valueFor_6 FU x3 x4 0 0 M)
theorem T_2_valueFor_0 {g : Gl} (x3 : Int32) (x4 : Int32) (M : Mem) (hp : P_2_valueFor_0 x3 x4 M) : Rn g 2 m2_valueFor 0 [some (.ref 1583), some (.ref 1561), some (.ref 1622), some (.int x3), some (.int x4), none, none, none] [] M (some (.int (F_2_valueFor_0 x3 x4 M).1)) ((F_2_valueFor_0 x3 x4 M).2) := by
  rw [F_2_valueFor_0]
  rw [P_2_valueFor_0] at hp
  refine b2_valueFor_0  ?_
  exact T_2_valueFor_6 FU x3 x4 0 0 M hp
theorem C_2_valueFor {g : Gl}  (x3 : Int32) (x4 : Int32) (M : Mem) (hp : P_2_valueFor_0 x3 x4 M) : Ms g 2 m2_valueFor [.ref 1583, .ref 1561, .ref 1622, .int x3, .int x4] M (some (.int (F_2_valueFor_0 x3 x4 M).1)) ((F_2_valueFor_0 x3 x4 M).2) := Ms.of okM_m2_valueFor (Nat.le_of_ble_eq_true rfl) (R_wk (lc rfl (lc rfl (lc rfl (lc rfl (lc rfl (ln (ln (ln l0)))))))) (T_2_valueFor_0 x3 x4 M hp))
def F_1_isOpen_38 (M : Mem) : Int32 × Mem := (0, M)
theorem T_1_isOpen_38 {g : Gl} (M : Mem)  : Rn g 3 m1_isOpen 38 [none, none, none] [] M (some (.int (F_1_isOpen_38 M).1)) ((F_1_isOpen_38 M).2) := by
  rw [F_1_isOpen_38]
  refine b1_isOpen_38  ?_
  exact b1_isOpen_39  rfl rfl rfl
def F_1_isOpen_31 (xs0 : Int32) (M : Mem) : Int32 × Mem := if xs0 ≤ 0 then (F_1_isOpen_38 M) else ((1, M))
theorem T_1_isOpen_31 {g : Gl} (xs0 : Int32) (M : Mem)  : Rn g 3 m1_isOpen 31 [none, none, none] [.int xs0] M (some (.int (F_1_isOpen_31 xs0 M).1)) ((F_1_isOpen_31 xs0 M).2) := by
  rw [F_1_isOpen_31]
  refine b1_isOpen_31  (fun h => ?_) (fun h => ?_)
  · rw [if_pos h]
    exact T_1_isOpen_38 M
  · rw [if_neg h]
    refine b1_isOpen_34  ?_
    exact b1_isOpen_39  rfl rfl rfl
def F_1_isOpen_0 (x1 : Int32) (x2 : Int32) (M : Mem) : Int32 × Mem := if (((rd M 1622 2) >>> (x1 &&& 31)) &&& 1) = 0 then (F_1_isOpen_31 ((F_2_valueFor_0 x1 x2 M).1) ((F_2_valueFor_0 x1 x2 M).2)) else (F_1_isOpen_38 M)
def P_1_isOpen_0 (x1 : Int32) (x2 : Int32) (M : Mem) : Prop := ((¬ (((rd M 1622 2) >>> (x1 &&& 31)) &&& 1) = 0 → True) ∧ ((((rd M 1622 2) >>> (x1 &&& 31)) &&& 1) = 0 → ((P_2_valueFor_0 x1 x2 M))))
theorem T_1_isOpen_0 {g : Gl} (x1 : Int32) (x2 : Int32) (M : Mem) (hp : P_1_isOpen_0 x1 x2 M) : Rn g 3 m1_isOpen 0 [some (.ref 1598), some (.int x1), some (.int x2)] [] M (some (.int (F_1_isOpen_0 x1 x2 M).1)) ((F_1_isOpen_0 x1 x2 M).2) := by
  rw [F_1_isOpen_0]
  rw [P_1_isOpen_0] at hp
  refine b1_isOpen_0  (fun h => ?_) (fun h => ?_)
  · rw [if_neg h]
    exact T_1_isOpen_38 M
  · rw [if_pos h]
    have hp := hp.2 h
    have hc := hp
    refine b1_isOpen_14  (C_2_valueFor x1 x2 M hc) (Nat.le_of_ble_eq_true rfl) ?_
    exact T_1_isOpen_31 ((F_2_valueFor_0 x1 x2 M).1) ((F_2_valueFor_0 x1 x2 M).2)
theorem C_1_isOpen {g : Gl}  (x1 : Int32) (x2 : Int32) (M : Mem) (hp : P_1_isOpen_0 x1 x2 M) : Ms g 3 m1_isOpen [.ref 1598, .int x1, .int x2] M (some (.int (F_1_isOpen_0 x1 x2 M).1)) ((F_1_isOpen_0 x1 x2 M).2) := Ms.of okM_m1_isOpen (Nat.le_of_ble_eq_true rfl) (R_wk (lc rfl (lc rfl (lc rfl l0))) (T_1_isOpen_0 x1 x2 M hp))
def F_1_openDoors_30 (k4 : Int32 → Int32 → Int32 → Mem → Int32 × Mem) (x1 : Int32) (x2 : Int32) (x3 : Int32) (M : Mem) : Int32 × Mem := k4 x1 x2 (x3 + 1) M
def P_1_openDoors_30 (pk4 : Int32 → Int32 → Int32 → Mem → Prop) (x1 : Int32) (x2 : Int32) (x3 : Int32) (M : Mem) : Prop := (pk4 x1 x2 (x3 + 1) M)
theorem T_1_openDoors_30 {g : Gl} (k4 : Int32 → Int32 → Int32 → Mem → Int32 × Mem) (pk4 : Int32 → Int32 → Int32 → Mem → Prop) (ih4 : ∀ (x1 : Int32) (x2 : Int32) (x3 : Int32) (M : Mem), pk4 x1 x2 x3 M → Rn g 4 m1_openDoors 4 [some (.ref 1598), some (.int x1), some (.int x2), some (.int x3)] [] M (some (.int (k4 x1 x2 x3 M).1)) ((k4 x1 x2 x3 M).2)) (x1 : Int32) (x2 : Int32) (x3 : Int32) (M : Mem) (hp : P_1_openDoors_30 pk4 x1 x2 x3 M) : Rn g 4 m1_openDoors 30 [some (.ref 1598), some (.int x1), some (.int x2), some (.int x3)] [] M (some (.int (F_1_openDoors_30 k4 x1 x2 x3 M).1)) ((F_1_openDoors_30 k4 x1 x2 x3 M).2) := by
  rw [F_1_openDoors_30]
  rw [P_1_openDoors_30] at hp
  refine b1_openDoors_30  ?_
  exact ih4 x1 x2 (x3 + 1) M hp
def F_1_openDoors_21 (k4 : Int32 → Int32 → Int32 → Mem → Int32 × Mem) (x1 : Int32) (x2 : Int32) (x3 : Int32) (xs0 : Int32) (M : Mem) : Int32 × Mem := if xs0 = 0 then (F_1_openDoors_30 k4 x1 x2 x3 M) else (F_1_openDoors_30 k4 x1 (x2 ||| ((1 : Int32) <<< (x3 &&& 31))) x3 M)
def P_1_openDoors_21 (pk4 : Int32 → Int32 → Int32 → Mem → Prop) (x1 : Int32) (x2 : Int32) (x3 : Int32) (xs0 : Int32) (M : Mem) : Prop := ((xs0 = 0 → P_1_openDoors_30 pk4 x1 x2 x3 M) ∧ (¬ xs0 = 0 → (P_1_openDoors_30 pk4 x1 (x2 ||| ((1 : Int32) <<< (x3 &&& 31))) x3 M)))
theorem T_1_openDoors_21 {g : Gl} (k4 : Int32 → Int32 → Int32 → Mem → Int32 × Mem) (pk4 : Int32 → Int32 → Int32 → Mem → Prop) (ih4 : ∀ (x1 : Int32) (x2 : Int32) (x3 : Int32) (M : Mem), pk4 x1 x2 x3 M → Rn g 4 m1_openDoors 4 [some (.ref 1598), some (.int x1), some (.int x2), some (.int x3)] [] M (some (.int (k4 x1 x2 x3 M).1)) ((k4 x1 x2 x3 M).2)) (x1 : Int32) (x2 : Int32) (x3 : Int32) (xs0 : Int32) (M : Mem) (hp : P_1_openDoors_21 pk4 x1 x2 x3 xs0 M) : Rn g 4 m1_openDoors 21 [some (.ref 1598), some (.int x1), some (.int x2), some (.int x3)] [.int xs0] M (some (.int (F_1_openDoors_21 k4 x1 x2 x3 xs0 M).1)) ((F_1_openDoors_21 k4 x1 x2 x3 xs0 M).2) := by
  rw [F_1_openDoors_21]
  rw [P_1_openDoors_21] at hp
  refine b1_openDoors_21  (fun h => ?_) (fun h => ?_)
  · rw [if_pos h]
    have hp := hp.1 h
    exact T_1_openDoors_30 k4 pk4 ih4 x1 x2 x3 M hp
  · rw [if_neg h]
    have hp := hp.2 h
    refine b1_openDoors_24  ?_
    exact T_1_openDoors_30 k4 pk4 ih4 x1 (x2 ||| ((1 : Int32) <<< (x3 &&& 31))) x3 M hp
def F_1_openDoors_4  : Nat → Int32 → Int32 → Int32 → Mem → Int32 × Mem
  | 0, _, _, _, M => (0, M)
  | n + 1, x1, x2, x3, M => if (rd M 1561 1) ≤ x3 then ((x2, M)) else (F_1_openDoors_21 (F_1_openDoors_4 n) x1 x2 x3 ((F_1_isOpen_0 x3 x1 M).1) ((F_1_isOpen_0 x3 x1 M).2))
def P_1_openDoors_4  : Nat → Int32 → Int32 → Int32 → Mem → Prop
  | 0, _, _, _, _ => False
  | n + 1, x1, x2, x3, M => (((rd M 1561 1) ≤ x3 → True) ∧ (¬ (rd M 1561 1) ≤ x3 → ((P_1_isOpen_0 x3 x1 M) ∧ (P_1_openDoors_21 (P_1_openDoors_4 n) x1 x2 x3 ((F_1_isOpen_0 x3 x1 M).1) ((F_1_isOpen_0 x3 x1 M).2)))))
theorem T_1_openDoors_4 {g : Gl} : ∀ (n : Nat) (x1 : Int32) (x2 : Int32) (x3 : Int32) (M : Mem) (hp : P_1_openDoors_4 n x1 x2 x3 M), Rn g 4 m1_openDoors 4 [some (.ref 1598), some (.int x1), some (.int x2), some (.int x3)] [] M (some (.int (F_1_openDoors_4 n x1 x2 x3 M).1)) ((F_1_openDoors_4 n x1 x2 x3 M).2) := by
  intro n
  induction n with
  | zero => intro x1 x2 x3 M hp; exact hp.elim
  | succ n ih =>
    intro x1 x2 x3 M hp
    rw [F_1_openDoors_4]
    rw [P_1_openDoors_4] at hp
    refine b1_openDoors_4  (fun h => ?_) (fun h => ?_)
    · rw [if_pos h]
      exact b1_openDoors_36  rfl rfl
    · rw [if_neg h]
      have hp := hp.2 h
      obtain ⟨hc, hp⟩ := hp
      refine b1_openDoors_15  (C_1_isOpen x3 x1 M hc) (Nat.le_of_ble_eq_true rfl) ?_
      exact T_1_openDoors_21 (F_1_openDoors_4 n) (P_1_openDoors_4 n) ih x1 x2 x3 ((F_1_isOpen_0 x3 x1 M).1) ((F_1_isOpen_0 x3 x1 M).2) hp
def F_1_openDoors_0 (x1 : Int32) (M : Mem) : Int32 × Mem := F_1_openDoors_4 FU x1 0 0 M
def P_1_openDoors_0 (x1 : Int32) (M : Mem) : Prop := (P_1_openDoors_4 FU x1 0 0 M)
theorem T_1_openDoors_0 {g : Gl} (x1 : Int32) (M : Mem) (hp : P_1_openDoors_0 x1 M) : Rn g 4 m1_openDoors 0 [some (.ref 1598), some (.int x1), none, none] [] M (some (.int (F_1_openDoors_0 x1 M).1)) ((F_1_openDoors_0 x1 M).2) := by
  rw [F_1_openDoors_0]
  rw [P_1_openDoors_0] at hp
  refine b1_openDoors_0  ?_
  exact T_1_openDoors_4 FU x1 0 0 M hp
theorem C_1_openDoors {g : Gl}  (x1 : Int32) (M : Mem) (hp : P_1_openDoors_0 x1 M) : Ms g 4 m1_openDoors [.ref 1598, .int x1] M (some (.int (F_1_openDoors_0 x1 M).1)) ((F_1_openDoors_0 x1 M).2) := Ms.of okM_m1_openDoors (Nat.le_of_ble_eq_true rfl) (R_wk (lc rfl (lc rfl (ln (ln l0)))) (T_1_openDoors_0 x1 M hp))
def F_1_comeTo_102 (k5 : Int32 → Int32 → Int32 → Int32 → Mem → Int32 × Mem) (x1 : Int32) (x2 : Int32) (x3 : Int32) (x4 : Int32) (M : Mem) : Int32 × Mem := k5 x1 x2 x3 (x4 + 1) M
def P_1_comeTo_102 (pk5 : Int32 → Int32 → Int32 → Int32 → Mem → Prop) (x1 : Int32) (x2 : Int32) (x3 : Int32) (x4 : Int32) (M : Mem) : Prop := (pk5 x1 x2 x3 (x4 + 1) M)
theorem T_1_comeTo_102 {g : Gl} (k5 : Int32 → Int32 → Int32 → Int32 → Mem → Int32 × Mem) (pk5 : Int32 → Int32 → Int32 → Int32 → Mem → Prop) (ih5 : ∀ (x1 : Int32) (x2 : Int32) (x3 : Int32) (x4 : Int32) (M : Mem), pk5 x1 x2 x3 x4 M → Rn g 4 m1_comeTo 5 [some (.ref 1598), some (.int x1), some (.int x2), some (.int x3), some (.int x4), none, none] [] M (some (.int (k5 x1 x2 x3 x4 M).1)) ((k5 x1 x2 x3 x4 M).2)) (x1 : Int32) (x2 : Int32) (x3 : Int32) (x4 : Int32) (M : Mem) (hp : P_1_comeTo_102 pk5 x1 x2 x3 x4 M) : Rn g 4 m1_comeTo 102 [some (.ref 1598), some (.int x1), some (.int x2), some (.int x3), some (.int x4), none, none] [] M (some (.int (F_1_comeTo_102 k5 x1 x2 x3 x4 M).1)) ((F_1_comeTo_102 k5 x1 x2 x3 x4 M).2) := by
  rw [F_1_comeTo_102]
  rw [P_1_comeTo_102] at hp
  refine b1_comeTo_102  ?_
  exact ih5 x1 x2 x3 (x4 + 1) M hp
def F_1_comeTo_84 (k5 : Int32 → Int32 → Int32 → Int32 → Mem → Int32 × Mem) (x1 : Int32) (x2 : Int32) (x3 : Int32) (x4 : Int32) (xs0 : Int32) (M : Mem) : Int32 × Mem := if xs0 = 0 then (F_1_comeTo_102 k5 x1 x2 x3 x4 M) else (F_1_comeTo_102 k5 x1 x2 (x3 ||| ((1 : Int32) <<< ((rd M 1568 x4.toNatClampNeg) &&& 31))) x4 M)
def P_1_comeTo_84 (pk5 : Int32 → Int32 → Int32 → Int32 → Mem → Prop) (x1 : Int32) (x2 : Int32) (x3 : Int32) (x4 : Int32) (xs0 : Int32) (M : Mem) : Prop := ((xs0 = 0 → P_1_comeTo_102 pk5 x1 x2 x3 x4 M) ∧ (¬ xs0 = 0 → (vp_in x4 24) ∧ (P_1_comeTo_102 pk5 x1 x2 (x3 ||| ((1 : Int32) <<< ((rd M 1568 x4.toNatClampNeg) &&& 31))) x4 M)))
theorem T_1_comeTo_84 {g : Gl} (k5 : Int32 → Int32 → Int32 → Int32 → Mem → Int32 × Mem) (pk5 : Int32 → Int32 → Int32 → Int32 → Mem → Prop) (ih5 : ∀ (x1 : Int32) (x2 : Int32) (x3 : Int32) (x4 : Int32) (M : Mem), pk5 x1 x2 x3 x4 M → Rn g 4 m1_comeTo 5 [some (.ref 1598), some (.int x1), some (.int x2), some (.int x3), some (.int x4), none, none] [] M (some (.int (k5 x1 x2 x3 x4 M).1)) ((k5 x1 x2 x3 x4 M).2)) (x1 : Int32) (x2 : Int32) (x3 : Int32) (x4 : Int32) (xs0 : Int32) (M : Mem) (hp : P_1_comeTo_84 pk5 x1 x2 x3 x4 xs0 M) : Rn g 4 m1_comeTo 84 [some (.ref 1598), some (.int x1), some (.int x2), some (.int x3), some (.int x4), none, none] [.int xs0] M (some (.int (F_1_comeTo_84 k5 x1 x2 x3 x4 xs0 M).1)) ((F_1_comeTo_84 k5 x1 x2 x3 x4 xs0 M).2) := by
  rw [F_1_comeTo_84]
  rw [P_1_comeTo_84] at hp
  refine b1_comeTo_84  (fun h => ?_) (fun h => ?_)
  · rw [if_pos h]
    have hp := hp.1 h
    exact T_1_comeTo_102 k5 pk5 ih5 x1 x2 x3 x4 M hp
  · rw [if_neg h]
    have hp := hp.2 h
    obtain ⟨p0, hp⟩ := hp
    refine b1_comeTo_87 p0 ?_
    exact T_1_comeTo_102 k5 pk5 ih5 x1 x2 (x3 ||| ((1 : Int32) <<< ((rd M 1568 x4.toNatClampNeg) &&& 31))) x4 M hp
def F_1_comeTo_65 (k5 : Int32 → Int32 → Int32 → Int32 → Mem → Int32 × Mem) (x1 : Int32) (x2 : Int32) (x3 : Int32) (x4 : Int32) (x5 : Int32) (xs0 : Int32) (M : Mem) : Int32 × Mem := if x5 = 0 then (F_1_comeTo_102 k5 x1 x2 x3 x4 M) else (if xs0 = 0 then (F_1_comeTo_102 k5 x1 x2 x3 x4 M) else (F_1_comeTo_84 k5 x1 x2 x3 x4 ((F_1_isOpen_0 x4 x2 M).1) ((F_1_isOpen_0 x4 x2 M).2)))
def P_1_comeTo_65 (pk5 : Int32 → Int32 → Int32 → Int32 → Mem → Prop) (x1 : Int32) (x2 : Int32) (x3 : Int32) (x4 : Int32) (x5 : Int32) (xs0 : Int32) (M : Mem) : Prop := ((x5 = 0 → P_1_comeTo_102 pk5 x1 x2 x3 x4 M) ∧ (¬ x5 = 0 → ((xs0 = 0 → P_1_comeTo_102 pk5 x1 x2 x3 x4 M) ∧ (¬ xs0 = 0 → ((P_1_isOpen_0 x4 x2 M) ∧ (P_1_comeTo_84 pk5 x1 x2 x3 x4 ((F_1_isOpen_0 x4 x2 M).1) ((F_1_isOpen_0 x4 x2 M).2)))))))
theorem T_1_comeTo_65 {g : Gl} (k5 : Int32 → Int32 → Int32 → Int32 → Mem → Int32 × Mem) (pk5 : Int32 → Int32 → Int32 → Int32 → Mem → Prop) (ih5 : ∀ (x1 : Int32) (x2 : Int32) (x3 : Int32) (x4 : Int32) (M : Mem), pk5 x1 x2 x3 x4 M → Rn g 4 m1_comeTo 5 [some (.ref 1598), some (.int x1), some (.int x2), some (.int x3), some (.int x4), none, none] [] M (some (.int (k5 x1 x2 x3 x4 M).1)) ((k5 x1 x2 x3 x4 M).2)) (x1 : Int32) (x2 : Int32) (x3 : Int32) (x4 : Int32) (x5 : Int32) (xs0 : Int32) (M : Mem) (hp : P_1_comeTo_65 pk5 x1 x2 x3 x4 x5 xs0 M) : Rn g 4 m1_comeTo 65 [some (.ref 1598), some (.int x1), some (.int x2), some (.int x3), some (.int x4), some (.int x5), none] [.int xs0] M (some (.int (F_1_comeTo_65 k5 x1 x2 x3 x4 x5 xs0 M).1)) ((F_1_comeTo_65 k5 x1 x2 x3 x4 x5 xs0 M).2) := by
  rw [F_1_comeTo_65]
  rw [P_1_comeTo_65] at hp
  refine b1_comeTo_65  (fun h => ?_) (fun h => ?_)
  · rw [if_pos h]
    have hp := hp.1 h
    exact T_1_comeTo_102 k5 pk5 ih5 x1 x2 x3 x4 M hp
  · rw [if_neg h]
    have hp := hp.2 h
    refine b1_comeTo_72  (fun h => ?_) (fun h => ?_)
    · rw [if_pos h]
      have hp := hp.1 h
      exact T_1_comeTo_102 k5 pk5 ih5 x1 x2 x3 x4 M hp
    · rw [if_neg h]
      have hp := hp.2 h
      obtain ⟨hc, hp⟩ := hp
      refine b1_comeTo_77  (C_1_isOpen x4 x2 M hc) (Nat.le_of_ble_eq_true rfl) ?_
      exact T_1_comeTo_84 k5 pk5 ih5 x1 x2 x3 x4 ((F_1_isOpen_0 x4 x2 M).1) ((F_1_isOpen_0 x4 x2 M).2) hp
def F_1_comeTo_39 (k5 : Int32 → Int32 → Int32 → Int32 → Mem → Int32 × Mem) (x1 : Int32) (x2 : Int32) (x3 : Int32) (x4 : Int32) (xs0 : Int32) (M : Mem) : Int32 × Mem := if (((x1 ||| x3) >>> ((rd M 1568 x4.toNatClampNeg) &&& 31)) &&& 1) = 0 then (F_1_comeTo_65 k5 x1 x2 x3 x4 xs0 1 M) else (F_1_comeTo_65 k5 x1 x2 x3 x4 xs0 0 M)
def P_1_comeTo_39 (pk5 : Int32 → Int32 → Int32 → Int32 → Mem → Prop) (x1 : Int32) (x2 : Int32) (x3 : Int32) (x4 : Int32) (xs0 : Int32) (M : Mem) : Prop := (vp_in x4 24) ∧ ((¬ (((x1 ||| x3) >>> ((rd M 1568 x4.toNatClampNeg) &&& 31)) &&& 1) = 0 → (P_1_comeTo_65 pk5 x1 x2 x3 x4 xs0 0 M)) ∧ ((((x1 ||| x3) >>> ((rd M 1568 x4.toNatClampNeg) &&& 31)) &&& 1) = 0 → (P_1_comeTo_65 pk5 x1 x2 x3 x4 xs0 1 M)))
theorem T_1_comeTo_39 {g : Gl} (k5 : Int32 → Int32 → Int32 → Int32 → Mem → Int32 × Mem) (pk5 : Int32 → Int32 → Int32 → Int32 → Mem → Prop) (ih5 : ∀ (x1 : Int32) (x2 : Int32) (x3 : Int32) (x4 : Int32) (M : Mem), pk5 x1 x2 x3 x4 M → Rn g 4 m1_comeTo 5 [some (.ref 1598), some (.int x1), some (.int x2), some (.int x3), some (.int x4), none, none] [] M (some (.int (k5 x1 x2 x3 x4 M).1)) ((k5 x1 x2 x3 x4 M).2)) (x1 : Int32) (x2 : Int32) (x3 : Int32) (x4 : Int32) (xs0 : Int32) (M : Mem) (hp : P_1_comeTo_39 pk5 x1 x2 x3 x4 xs0 M) : Rn g 4 m1_comeTo 39 [some (.ref 1598), some (.int x1), some (.int x2), some (.int x3), some (.int x4), none, none] [.int xs0] M (some (.int (F_1_comeTo_39 k5 x1 x2 x3 x4 xs0 M).1)) ((F_1_comeTo_39 k5 x1 x2 x3 x4 xs0 M).2) := by
  rw [F_1_comeTo_39]
  rw [P_1_comeTo_39] at hp
  obtain ⟨p0, hp⟩ := hp
  refine b1_comeTo_39 p0 (fun h => ?_) (fun h => ?_)
  · rw [if_neg h]
    have hp := hp.1 h
    refine b1_comeTo_64  ?_
    exact T_1_comeTo_65 k5 pk5 ih5 x1 x2 x3 x4 xs0 0 M hp
  · rw [if_pos h]
    have hp := hp.2 h
    refine b1_comeTo_60  ?_
    exact T_1_comeTo_65 k5 pk5 ih5 x1 x2 x3 x4 xs0 1 M hp
def F_1_comeTo_5  : Nat → Int32 → Int32 → Int32 → Int32 → Mem → Int32 × Mem
  | 0, _, _, _, _, M => (0, M)
  | n + 1, x1, x2, x3, x4, M => if (rd M 1561 1) ≤ x4 then ((x3, M)) else (if ((x1 >>> ((rd M 1567 x4.toNatClampNeg) &&& 31)) &&& 1) = 0 then (F_1_comeTo_39 (F_1_comeTo_5 n) x1 x2 x3 x4 0 M) else (F_1_comeTo_39 (F_1_comeTo_5 n) x1 x2 x3 x4 1 M))
def P_1_comeTo_5  : Nat → Int32 → Int32 → Int32 → Int32 → Mem → Prop
  | 0, _, _, _, _, _ => False
  | n + 1, x1, x2, x3, x4, M => (((rd M 1561 1) ≤ x4 → True) ∧ (¬ (rd M 1561 1) ≤ x4 → (vp_in x4 24) ∧ ((((x1 >>> ((rd M 1567 x4.toNatClampNeg) &&& 31)) &&& 1) = 0 → (P_1_comeTo_39 (P_1_comeTo_5 n) x1 x2 x3 x4 0 M)) ∧ (¬ ((x1 >>> ((rd M 1567 x4.toNatClampNeg) &&& 31)) &&& 1) = 0 → (P_1_comeTo_39 (P_1_comeTo_5 n) x1 x2 x3 x4 1 M)))))
theorem T_1_comeTo_5 {g : Gl} : ∀ (n : Nat) (x1 : Int32) (x2 : Int32) (x3 : Int32) (x4 : Int32) (M : Mem) (hp : P_1_comeTo_5 n x1 x2 x3 x4 M), Rn g 4 m1_comeTo 5 [some (.ref 1598), some (.int x1), some (.int x2), some (.int x3), some (.int x4), none, none] [] M (some (.int (F_1_comeTo_5 n x1 x2 x3 x4 M).1)) ((F_1_comeTo_5 n x1 x2 x3 x4 M).2) := by
  intro n
  induction n with
  | zero => intro x1 x2 x3 x4 M hp; exact hp.elim
  | succ n ih =>
    intro x1 x2 x3 x4 M hp
    rw [F_1_comeTo_5]
    rw [P_1_comeTo_5] at hp
    refine b1_comeTo_5  (fun h => ?_) (fun h => ?_)
    · rw [if_pos h]
      exact b1_comeTo_108  rfl rfl
    · rw [if_neg h]
      have hp := hp.2 h
      obtain ⟨p0, hp⟩ := hp
      refine b1_comeTo_17 p0 (fun h => ?_) (fun h => ?_)
      · rw [if_pos h]
        have hp := hp.1 h
        refine b1_comeTo_38  ?_
        exact T_1_comeTo_39 (F_1_comeTo_5 n) (P_1_comeTo_5 n) ih x1 x2 x3 x4 0 M hp
      · rw [if_neg h]
        have hp := hp.2 h
        refine b1_comeTo_34  ?_
        exact T_1_comeTo_39 (F_1_comeTo_5 n) (P_1_comeTo_5 n) ih x1 x2 x3 x4 1 M hp
def F_1_comeTo_0 (x1 : Int32) (x2 : Int32) (M : Mem) : Int32 × Mem := F_1_comeTo_5 FU x1 x2 0 0 M
def P_1_comeTo_0 (x1 : Int32) (x2 : Int32) (M : Mem) : Prop := (P_1_comeTo_5 FU x1 x2 0 0 M)
theorem T_1_comeTo_0 {g : Gl} (x1 : Int32) (x2 : Int32) (M : Mem) (hp : P_1_comeTo_0 x1 x2 M) : Rn g 4 m1_comeTo 0 [some (.ref 1598), some (.int x1), some (.int x2), none, none, none, none] [] M (some (.int (F_1_comeTo_0 x1 x2 M).1)) ((F_1_comeTo_0 x1 x2 M).2) := by
  rw [F_1_comeTo_0]
  rw [P_1_comeTo_0] at hp
  refine b1_comeTo_0  ?_
  exact T_1_comeTo_5 FU x1 x2 0 0 M hp
theorem C_1_comeTo {g : Gl}  (x1 : Int32) (x2 : Int32) (M : Mem) (hp : P_1_comeTo_0 x1 x2 M) : Ms g 4 m1_comeTo [.ref 1598, .int x1, .int x2] M (some (.int (F_1_comeTo_0 x1 x2 M).1)) ((F_1_comeTo_0 x1 x2 M).2) := Ms.of okM_m1_comeTo (Nat.le_of_ble_eq_true rfl) (R_wk (lc rfl (lc rfl (lc rfl (ln (ln (ln (ln l0))))))) (T_1_comeTo_0 x1 x2 M hp))
def F_1_soonest_37 (k5 : Int32 → Int32 → Int32 → Mem → Int32 × Mem) (x2 : Int32) (x4 : Int32) (xs0 : Int32) (xs1 : Int32) (M : Mem) : Int32 × Mem := k5 x2 (xs1 ||| xs0) (x4 + 1) M
def P_1_soonest_37 (pk5 : Int32 → Int32 → Int32 → Mem → Prop) (x2 : Int32) (x4 : Int32) (xs0 : Int32) (xs1 : Int32) (M : Mem) : Prop := (pk5 x2 (xs1 ||| xs0) (x4 + 1) M)
theorem T_1_soonest_37 {g : Gl} (k5 : Int32 → Int32 → Int32 → Mem → Int32 × Mem) (pk5 : Int32 → Int32 → Int32 → Mem → Prop) (ih5 : ∀ (x2 : Int32) (x3 : Int32) (x4 : Int32) (M : Mem), pk5 x2 x3 x4 M → Rn g 5 m1_soonest 5 [some (.ref 1598), none, some (.int x2), some (.int x3), some (.int x4)] [] M (some (.int (k5 x2 x3 x4 M).1)) ((k5 x2 x3 x4 M).2)) (x2 : Int32) (x4 : Int32) (xs0 : Int32) (xs1 : Int32) (M : Mem) (hp : P_1_soonest_37 pk5 x2 x4 xs0 xs1 M) : Rn g 5 m1_soonest 37 [some (.ref 1598), none, some (.int x2), none, some (.int x4)] [.int xs0, .int xs1] M (some (.int (F_1_soonest_37 k5 x2 x4 xs0 xs1 M).1)) ((F_1_soonest_37 k5 x2 x4 xs0 xs1 M).2) := by
  rw [F_1_soonest_37]
  rw [P_1_soonest_37] at hp
  refine b1_soonest_37  ?_
  exact ih5 x2 (xs1 ||| xs0) (x4 + 1) M hp
def F_1_soonest_5  : Nat → Int32 → Int32 → Int32 → Mem → Int32 × Mem
  | 0, _, _, _, M => (0, M)
  | n + 1, x2, x3, x4, M => if (96 : Int32) < x4 then (((-1), M)) else (if (x3 &&& x2) = 0 then (F_1_soonest_37 (F_1_soonest_5 n) x2 x4 ((F_1_comeTo_0 x3 ((rd M 1622 0) + x4) M).1) x3 ((F_1_comeTo_0 x3 ((rd M 1622 0) + x4) M).2)) else ((x4, M)))
def P_1_soonest_5  : Nat → Int32 → Int32 → Int32 → Mem → Prop
  | 0, _, _, _, _ => False
  | n + 1, x2, x3, x4, M => (((96 : Int32) < x4 → True) ∧ (¬ (96 : Int32) < x4 → (((x3 &&& x2) = 0 → ((P_1_comeTo_0 x3 ((rd M 1622 0) + x4) M) ∧ (P_1_soonest_37 (P_1_soonest_5 n) x2 x4 ((F_1_comeTo_0 x3 ((rd M 1622 0) + x4) M).1) x3 ((F_1_comeTo_0 x3 ((rd M 1622 0) + x4) M).2)))) ∧ (¬ (x3 &&& x2) = 0 → True))))
theorem T_1_soonest_5 {g : Gl} : ∀ (n : Nat) (x2 : Int32) (x3 : Int32) (x4 : Int32) (M : Mem) (hp : P_1_soonest_5 n x2 x3 x4 M), Rn g 5 m1_soonest 5 [some (.ref 1598), none, some (.int x2), some (.int x3), some (.int x4)] [] M (some (.int (F_1_soonest_5 n x2 x3 x4 M).1)) ((F_1_soonest_5 n x2 x3 x4 M).2) := by
  intro n
  induction n with
  | zero => intro x2 x3 x4 M hp; exact hp.elim
  | succ n ih =>
    intro x2 x3 x4 M hp
    rw [F_1_soonest_5]
    rw [P_1_soonest_5] at hp
    refine b1_soonest_5  (fun h => ?_) (fun h => ?_)
    · rw [if_pos h]
      exact b1_soonest_45  rfl rfl
    · rw [if_neg h]
      have hp := hp.2 h
      refine b1_soonest_12  (fun h => ?_) (fun h => ?_)
      · rw [if_pos h]
        have hp := hp.1 h
        obtain ⟨hc, hp⟩ := hp
        refine b1_soonest_21  (C_1_comeTo x3 ((rd M 1622 0) + x4) M hc) (Nat.le_of_ble_eq_true rfl) ?_
        exact T_1_soonest_37 (F_1_soonest_5 n) (P_1_soonest_5 n) ih x2 x4 ((F_1_comeTo_0 x3 ((rd M 1622 0) + x4) M).1) x3 ((F_1_comeTo_0 x3 ((rd M 1622 0) + x4) M).2) hp
      · rw [if_neg h]
        exact b1_soonest_18  rfl rfl
def F_1_soonest_0 (x1 : Int32) (x2 : Int32) (M : Mem) : Int32 × Mem := F_1_soonest_5 FU x2 x1 0 M
def P_1_soonest_0 (x1 : Int32) (x2 : Int32) (M : Mem) : Prop := (P_1_soonest_5 FU x2 x1 0 M)
theorem T_1_soonest_0 {g : Gl} (x1 : Int32) (x2 : Int32) (M : Mem) (hp : P_1_soonest_0 x1 x2 M) : Rn g 5 m1_soonest 0 [some (.ref 1598), some (.int x1), some (.int x2), none, none] [] M (some (.int (F_1_soonest_0 x1 x2 M).1)) ((F_1_soonest_0 x1 x2 M).2) := by
  rw [F_1_soonest_0]
  rw [P_1_soonest_0] at hp
  refine b1_soonest_0  ?_
  exact T_1_soonest_5 FU x2 x1 0 M hp
theorem C_1_soonest {g : Gl}  (x1 : Int32) (x2 : Int32) (M : Mem) (hp : P_1_soonest_0 x1 x2 M) : Ms g 5 m1_soonest [.ref 1598, .int x1, .int x2] M (some (.int (F_1_soonest_0 x1 x2 M).1)) ((F_1_soonest_0 x1 x2 M).2) := Ms.of okM_m1_soonest (Nat.le_of_ble_eq_true rfl) (R_wk (lc rfl (lc rfl (lc rfl (ln (ln l0))))) (T_1_soonest_0 x1 x2 M hp))
def F_1_reachedIn_27 (k5 : Int32 → Int32 → Int32 → Mem → Int32 × Mem) (x2 : Int32) (x4 : Int32) (xs0 : Int32) (xs1 : Int32) (M : Mem) : Int32 × Mem := k5 x2 (xs1 ||| xs0) (x4 + 1) M
def P_1_reachedIn_27 (pk5 : Int32 → Int32 → Int32 → Mem → Prop) (x2 : Int32) (x4 : Int32) (xs0 : Int32) (xs1 : Int32) (M : Mem) : Prop := (pk5 x2 (xs1 ||| xs0) (x4 + 1) M)
theorem T_1_reachedIn_27 {g : Gl} (k5 : Int32 → Int32 → Int32 → Mem → Int32 × Mem) (pk5 : Int32 → Int32 → Int32 → Mem → Prop) (ih5 : ∀ (x2 : Int32) (x3 : Int32) (x4 : Int32) (M : Mem), pk5 x2 x3 x4 M → Rn g 5 m1_reachedIn 5 [some (.ref 1598), none, some (.int x2), some (.int x3), some (.int x4)] [] M (some (.int (k5 x2 x3 x4 M).1)) ((k5 x2 x3 x4 M).2)) (x2 : Int32) (x4 : Int32) (xs0 : Int32) (xs1 : Int32) (M : Mem) (hp : P_1_reachedIn_27 pk5 x2 x4 xs0 xs1 M) : Rn g 5 m1_reachedIn 27 [some (.ref 1598), none, some (.int x2), none, some (.int x4)] [.int xs0, .int xs1] M (some (.int (F_1_reachedIn_27 k5 x2 x4 xs0 xs1 M).1)) ((F_1_reachedIn_27 k5 x2 x4 xs0 xs1 M).2) := by
  rw [F_1_reachedIn_27]
  rw [P_1_reachedIn_27] at hp
  refine b1_reachedIn_27  ?_
  exact ih5 x2 (xs1 ||| xs0) (x4 + 1) M hp
def F_1_reachedIn_5  : Nat → Int32 → Int32 → Int32 → Mem → Int32 × Mem
  | 0, _, _, _, M => (0, M)
  | n + 1, x2, x3, x4, M => if x2 ≤ x4 then ((x3, M)) else (F_1_reachedIn_27 (F_1_reachedIn_5 n) x2 x4 ((F_1_comeTo_0 x3 ((rd M 1622 0) + x4) M).1) x3 ((F_1_comeTo_0 x3 ((rd M 1622 0) + x4) M).2))
def P_1_reachedIn_5  : Nat → Int32 → Int32 → Int32 → Mem → Prop
  | 0, _, _, _, _ => False
  | n + 1, x2, x3, x4, M => ((x2 ≤ x4 → True) ∧ (¬ x2 ≤ x4 → ((P_1_comeTo_0 x3 ((rd M 1622 0) + x4) M) ∧ (P_1_reachedIn_27 (P_1_reachedIn_5 n) x2 x4 ((F_1_comeTo_0 x3 ((rd M 1622 0) + x4) M).1) x3 ((F_1_comeTo_0 x3 ((rd M 1622 0) + x4) M).2)))))
theorem T_1_reachedIn_5 {g : Gl} : ∀ (n : Nat) (x2 : Int32) (x3 : Int32) (x4 : Int32) (M : Mem) (hp : P_1_reachedIn_5 n x2 x3 x4 M), Rn g 5 m1_reachedIn 5 [some (.ref 1598), none, some (.int x2), some (.int x3), some (.int x4)] [] M (some (.int (F_1_reachedIn_5 n x2 x3 x4 M).1)) ((F_1_reachedIn_5 n x2 x3 x4 M).2) := by
  intro n
  induction n with
  | zero => intro x2 x3 x4 M hp; exact hp.elim
  | succ n ih =>
    intro x2 x3 x4 M hp
    rw [F_1_reachedIn_5]
    rw [P_1_reachedIn_5] at hp
    refine b1_reachedIn_5  (fun h => ?_) (fun h => ?_)
    · rw [if_pos h]
      exact b1_reachedIn_35  rfl rfl
    · rw [if_neg h]
      have hp := hp.2 h
      obtain ⟨hc, hp⟩ := hp
      refine b1_reachedIn_11  (C_1_comeTo x3 ((rd M 1622 0) + x4) M hc) (Nat.le_of_ble_eq_true rfl) ?_
      exact T_1_reachedIn_27 (F_1_reachedIn_5 n) (P_1_reachedIn_5 n) ih x2 x4 ((F_1_comeTo_0 x3 ((rd M 1622 0) + x4) M).1) x3 ((F_1_comeTo_0 x3 ((rd M 1622 0) + x4) M).2) hp
def F_1_reachedIn_0 (x1 : Int32) (x2 : Int32) (M : Mem) : Int32 × Mem := F_1_reachedIn_5 FU x2 x1 0 M
def P_1_reachedIn_0 (x1 : Int32) (x2 : Int32) (M : Mem) : Prop := (P_1_reachedIn_5 FU x2 x1 0 M)
theorem T_1_reachedIn_0 {g : Gl} (x1 : Int32) (x2 : Int32) (M : Mem) (hp : P_1_reachedIn_0 x1 x2 M) : Rn g 5 m1_reachedIn 0 [some (.ref 1598), some (.int x1), some (.int x2), none, none] [] M (some (.int (F_1_reachedIn_0 x1 x2 M).1)) ((F_1_reachedIn_0 x1 x2 M).2) := by
  rw [F_1_reachedIn_0]
  rw [P_1_reachedIn_0] at hp
  refine b1_reachedIn_0  ?_
  exact T_1_reachedIn_5 FU x2 x1 0 M hp
theorem C_1_reachedIn {g : Gl}  (x1 : Int32) (x2 : Int32) (M : Mem) (hp : P_1_reachedIn_0 x1 x2 M) : Ms g 5 m1_reachedIn [.ref 1598, .int x1, .int x2] M (some (.int (F_1_reachedIn_0 x1 x2 M).1)) ((F_1_reachedIn_0 x1 x2 M).2) := Ms.of okM_m1_reachedIn (Nat.le_of_ble_eq_true rfl) (R_wk (lc rfl (lc rfl (lc rfl (ln (ln l0))))) (T_1_reachedIn_0 x1 x2 M hp))
def F_2_clear_0 (M : Mem) : Mem := wr (wr M 1584 ((0 : Int32).toNatClampNeg) (-1)) 1583 3 1
theorem T_2_clear_0 {g : Gl} (M : Mem)  : Rn g 0 m2_clear 0 [some (.ref 1583)] [] M (none) ((F_2_clear_0 M)) := by
  rw [F_2_clear_0]
  exact b2_clear_0 (vpl (by decide)) rfl rfl
theorem C_2_clear {g : Gl}   (M : Mem)  : Ms g 0 m2_clear [.ref 1583] M (none) ((F_2_clear_0 M)) := Ms.of okM_m2_clear (Nat.le_of_ble_eq_true rfl) (R_wk (lc rfl l0) (T_2_clear_0 M))
def F_5_peek_38 (M : Mem) : Int32 × Mem := if (rd (wr M 1560 4 (rd M 1560 2)) 1560 1) ≤ (rd (wr M 1560 4 (rd M 1560 2)) 1560 2) then (((-1), (wr M 1560 4 (rd M 1560 2)))) else ((((rd (wr M 1560 4 (rd M 1560 2)) 1559 ((rd (wr M 1560 4 (rd M 1560 2)) 1560 2).toNatClampNeg)) &&& 255), (wr M 1560 4 (rd M 1560 2))))
def P_5_peek_38 (M : Mem) : Prop := (((rd (wr M 1560 4 (rd M 1560 2)) 1560 1) ≤ (rd (wr M 1560 4 (rd M 1560 2)) 1560 2) → True) ∧ (¬ (rd (wr M 1560 4 (rd M 1560 2)) 1560 1) ≤ (rd (wr M 1560 4 (rd M 1560 2)) 1560 2) → (vp_in (rd (wr M 1560 4 (rd M 1560 2)) 1560 2) 600)))
theorem T_5_peek_38 {g : Gl} (M : Mem) (hp : P_5_peek_38 M) : Rn g 0 m5_peek 38 [some (.ref 1560)] [] M (some (.int (F_5_peek_38 M).1)) ((F_5_peek_38 M).2) := by
  rw [F_5_peek_38]
  rw [P_5_peek_38] at hp
  refine b5_peek_38  (fun h => ?_) (fun h => ?_)
  · rw [if_pos h]
    refine b5_peek_73  ?_
    exact b5_peek_74  rfl rfl
  · rw [if_neg h]
    have hp := hp.2 h
    have p0 := hp
    refine b5_peek_57 p0 ?_
    exact b5_peek_74  rfl rfl
def F_5_peek_0  : Nat → Mem → Int32 × Mem
  | 0, M => (0, M)
  | n + 1, M => if (rd M 1560 1) ≤ (rd M 1560 2) then (F_5_peek_38 M) else (if (rd M 1559 ((rd M 1560 2).toNatClampNeg)) = 32 then ((F_5_peek_0 n) (wr M 1560 2 ((rd M 1560 2) + 1))) else (F_5_peek_38 M))
def P_5_peek_0  : Nat → Mem → Prop
  | 0, _ => False
  | n + 1, M => (((rd M 1560 1) ≤ (rd M 1560 2) → P_5_peek_38 M) ∧ (¬ (rd M 1560 1) ≤ (rd M 1560 2) → (vp_in (rd M 1560 2) 600) ∧ ((¬ (rd M 1559 ((rd M 1560 2).toNatClampNeg)) = 32 → P_5_peek_38 M) ∧ ((rd M 1559 ((rd M 1560 2).toNatClampNeg)) = 32 → ((P_5_peek_0 n) (wr M 1560 2 ((rd M 1560 2) + 1)))))))
theorem T_5_peek_0 {g : Gl} : ∀ (n : Nat)  (M : Mem) (hp : P_5_peek_0 n M), Rn g 0 m5_peek 0 [some (.ref 1560)] [] M (some (.int (F_5_peek_0 n M).1)) ((F_5_peek_0 n M).2) := by
  intro n
  induction n with
  | zero => intro M hp; exact hp.elim
  | succ n ih =>
    intro M hp
    rw [F_5_peek_0]
    rw [P_5_peek_0] at hp
    refine b5_peek_0  (fun h => ?_) (fun h => ?_)
    · rw [if_pos h]
      have hp := hp.1 h
      exact T_5_peek_38 M hp
    · rw [if_neg h]
      have hp := hp.2 h
      obtain ⟨p0, hp⟩ := hp
      refine b5_peek_11 p0 (fun h => ?_) (fun h => ?_)
      · rw [if_neg h]
        have hp := hp.1 h
        exact T_5_peek_38 M hp
      · rw [if_pos h]
        have hp := hp.2 h
        refine b5_peek_25  ?_
        exact ih (wr M 1560 2 ((rd M 1560 2) + 1)) hp
theorem C_5_peek {g : Gl}   (M : Mem) (hp : P_5_peek_0 FU M) : Ms g 0 m5_peek [.ref 1560] M (some (.int (F_5_peek_0 FU M).1)) ((F_5_peek_0 FU M).2) := Ms.of okM_m5_peek (Nat.le_of_ble_eq_true rfl) (R_wk (lc rfl l0) (T_5_peek_0 FU M hp))
def F_5_takes_4 (x1 : Int32) (xs0 : Int32) (M : Mem) : Int32 × Mem := if xs0 = x1 then ((1, wr M 1560 2 ((rd M 1560 2) + 1))) else ((0, M))
theorem T_5_takes_4 {g : Gl} (x1 : Int32) (xs0 : Int32) (M : Mem)  : Rn g 1 m5_takes 4 [some (.ref 1560), some (.int x1)] [.int xs0] M (some (.int (F_5_takes_4 x1 xs0 M).1)) ((F_5_takes_4 x1 xs0 M).2) := by
  rw [F_5_takes_4]
  refine b5_takes_4  (fun h => ?_) (fun h => ?_)
  · rw [if_pos h]
    exact b5_takes_10  rfl rfl
  · rw [if_neg h]
    exact b5_takes_8  rfl rfl
def F_5_takes_0 (x1 : Int32) (M : Mem) : Int32 × Mem := F_5_takes_4 x1 ((F_5_peek_0 FU M).1) ((F_5_peek_0 FU M).2)
def P_5_takes_0 (x1 : Int32) (M : Mem) : Prop := ((P_5_peek_0 FU M))
theorem T_5_takes_0 {g : Gl} (x1 : Int32) (M : Mem) (hp : P_5_takes_0 x1 M) : Rn g 1 m5_takes 0 [some (.ref 1560), some (.int x1)] [] M (some (.int (F_5_takes_0 x1 M).1)) ((F_5_takes_0 x1 M).2) := by
  rw [F_5_takes_0]
  rw [P_5_takes_0] at hp
  have hc := hp
  refine b5_takes_0  (C_5_peek  M hc) (Nat.le_of_ble_eq_true rfl) ?_
  exact T_5_takes_4 x1 ((F_5_peek_0 FU M).1) ((F_5_peek_0 FU M).2)
theorem C_5_takes {g : Gl}  (x1 : Int32) (M : Mem) (hp : P_5_takes_0 x1 M) : Ms g 1 m5_takes [.ref 1560, .int x1] M (some (.int (F_5_takes_0 x1 M).1)) ((F_5_takes_0 x1 M).2) := Ms.of okM_m5_takes (Nat.le_of_ble_eq_true rfl) (R_wk (lc rfl (lc rfl l0)) (T_5_takes_0 x1 M hp))
def F_2_put_0 (x1 : Int32) (M : Mem) : Mem := if (150 : Int32) ≤ (rd M 1583 4) then (M) else ((wr (wr M 1585 ((rd M 1583 4).toNatClampNeg) x1) 1583 4 ((rd (wr M 1585 ((rd M 1583 4).toNatClampNeg) x1) 1583 4) + 1)))
def P_2_put_0 (x1 : Int32) (M : Mem) : Prop := (((150 : Int32) ≤ (rd M 1583 4) → True) ∧ (¬ (150 : Int32) ≤ (rd M 1583 4) → (vp_in (rd M 1583 4) 150)))
theorem T_2_put_0 {g : Gl} (x1 : Int32) (M : Mem) (hp : P_2_put_0 x1 M) : Rn g 0 m2_put 0 [some (.ref 1583), some (.int x1)] [] M (none) ((F_2_put_0 x1 M)) := by
  rw [F_2_put_0]
  rw [P_2_put_0] at hp
  refine b2_put_0  (fun h => ?_) (fun h => ?_)
  · rw [if_pos h]
    exact b2_put_30  rfl rfl
  · rw [if_neg h]
    have hp := hp.2 h
    have p0 := hp
    refine b2_put_10 p0 ?_
    exact b2_put_30  rfl rfl
theorem C_2_put {g : Gl}  (x1 : Int32) (M : Mem) (hp : P_2_put_0 x1 M) : Ms g 0 m2_put [.ref 1583, .int x1] M (none) ((F_2_put_0 x1 M)) := Ms.of okM_m2_put (Nat.le_of_ble_eq_true rfl) (R_wk (lc rfl (lc rfl l0)) (T_2_put_0 x1 M hp))
def F_5_isDigit_16 (M : Mem) : Int32 := 0
theorem T_5_isDigit_16 {g : Gl} (M : Mem)  : Rn g 0 m5_isDigit 16 [none] [] M (some (.int (F_5_isDigit_16 M))) (M) := by
  rw [F_5_isDigit_16]
  refine b5_isDigit_16  ?_
  exact b5_isDigit_17  rfl rfl rfl
def F_5_isDigit_0 (M : Mem) (x0 : Int32) : Int32 := if x0 < 48 then (F_5_isDigit_16 M) else (if (57 : Int32) < x0 then (F_5_isDigit_16 M) else (1))
theorem T_5_isDigit_0 {g : Gl} (M : Mem) (x0 : Int32)  : Rn g 0 m5_isDigit 0 [some (.int x0)] [] M (some (.int (F_5_isDigit_0 M x0))) (M) := by
  rw [F_5_isDigit_0]
  refine b5_isDigit_0  (fun h => ?_) (fun h => ?_)
  · rw [if_pos h]
    exact T_5_isDigit_16 _
  · rw [if_neg h]
    refine b5_isDigit_6  (fun h => ?_) (fun h => ?_)
    · rw [if_pos h]
      exact T_5_isDigit_16 _
    · rw [if_neg h]
      refine b5_isDigit_12  ?_
      exact b5_isDigit_17  rfl rfl rfl
theorem C_5_isDigit {g : Gl}  (x0 : Int32) (M : Mem)  : Ms g 0 m5_isDigit [.int x0] M (some (.int (F_5_isDigit_0 M x0))) (M) := Ms.of okM_m5_isDigit (Nat.le_of_ble_eq_true rfl) (R_wk (lc rfl l0) (T_5_isDigit_0 M x0))
def F_5_byteAt_25 (M : Mem) : Int32 := (-1)
theorem T_5_byteAt_25 {g : Gl} (M : Mem)  : Rn g 0 m5_byteAt 25 [none, none] [] M (some (.int (F_5_byteAt_25 M))) (M) := by
  rw [F_5_byteAt_25]
  refine b5_byteAt_25  ?_
  exact b5_byteAt_26  rfl rfl
def F_5_byteAt_0 (M : Mem) (x1 : Int32) : Int32 := if x1 < 0 then (F_5_byteAt_25 M) else (if (rd M 1560 1) ≤ x1 then (F_5_byteAt_25 M) else (((rd M 1559 x1.toNatClampNeg) &&& 255)))
def P_5_byteAt_0 (M : Mem) (x1 : Int32) : Prop := ((x1 < 0 → True) ∧ (¬ x1 < 0 → (((rd M 1560 1) ≤ x1 → True) ∧ (¬ (rd M 1560 1) ≤ x1 → (vp_in x1 600)))))
theorem T_5_byteAt_0 {g : Gl} (M : Mem) (x1 : Int32) (hp : P_5_byteAt_0 M x1) : Rn g 0 m5_byteAt 0 [some (.ref 1560), some (.int x1)] [] M (some (.int (F_5_byteAt_0 M x1))) (M) := by
  rw [F_5_byteAt_0]
  rw [P_5_byteAt_0] at hp
  refine b5_byteAt_0  (fun h => ?_) (fun h => ?_)
  · rw [if_pos h]
    exact T_5_byteAt_25 _
  · rw [if_neg h]
    have hp := hp.2 h
    refine b5_byteAt_4  (fun h => ?_) (fun h => ?_)
    · rw [if_pos h]
      exact T_5_byteAt_25 _
    · rw [if_neg h]
      have hp := hp.2 h
      have p0 := hp
      refine b5_byteAt_12 p0 ?_
      exact b5_byteAt_26  rfl rfl
theorem C_5_byteAt {g : Gl}  (x1 : Int32) (M : Mem) (hp : P_5_byteAt_0 M x1) : Ms g 0 m5_byteAt [.ref 1560, .int x1] M (some (.int (F_5_byteAt_0 M x1))) (M) := Ms.of okM_m5_byteAt (Nat.le_of_ble_eq_true rfl) (R_wk (lc rfl (lc rfl l0)) (T_5_byteAt_0 M x1 hp))
def F_5_isWord_20 (M : Mem) : Nat → Nat → Int32 → Int32
  | 0, _, _ => 0
  | n + 1, q1, x2 => if (sLen q1) ≤ x2 then (1) else (if (F_5_byteAt_0 M ((rd M 1560 4) + x2)) = (sCh q1 x2) then ((F_5_isWord_20 M n) q1 (x2 + 1)) else (0))
def P_5_isWord_20 (M : Mem) : Nat → Nat → Int32 → Prop
  | 0, _, _ => False
  | n + 1, q1, x2 => (q1 < nTX) ∧ (((q1 < nTX) ∧ ((((sLen q1) ≤ x2 → True) ∧ (¬ (sLen q1) ≤ x2 → ((P_5_byteAt_0 M ((rd M 1560 4) + x2)) ∧ (((q1 < nTX ∧ vp_in x2 (lenT.getD q1 0) ∧ x2 < Int32.ofNat (lenT.getD q1 0)) ∧ ((((F_5_byteAt_0 M ((rd M 1560 4) + x2)) = (sCh q1 x2) → ((P_5_isWord_20 M n) q1 (x2 + 1))) ∧ (¬ (F_5_byteAt_0 M ((rd M 1560 4) + x2)) = (sCh q1 x2) → True)))))))))))
theorem T_5_isWord_20 {g : Gl} (M : Mem) : ∀ (n : Nat) (q1 : Nat) (x2 : Int32) (hp : P_5_isWord_20 M n q1 x2), Rn g 4 m5_isWord 20 [some (.ref 1560), some (.ref (1000000 + q1)), some (.int x2)] [] M (some (.int (F_5_isWord_20 M n q1 x2))) (M) := by
  intro n
  induction n with
  | zero => intro q1 x2 hp; exact hp.elim
  | succ n ih =>
    intro q1 x2 hp
    rw [F_5_isWord_20]
    rw [P_5_isWord_20] at hp
    obtain ⟨hq1, hp⟩ := hp
    obtain ⟨hc, hp⟩ := hp
    refine b5_isWord_20 hq1 (C_length q1 M hc) (Nat.le_of_ble_eq_true rfl) ?_
    refine b5_isWord_25 hq1 (fun h => ?_) (fun h => ?_)
    · rw [if_pos h]
      exact b5_isWord_54  rfl rfl
    · rw [if_neg h]
      have hp := hp.2 h
      obtain ⟨hc, hp⟩ := hp
      refine b5_isWord_28 hq1 (C_5_byteAt ((rd M 1560 4) + x2) M hc) (Nat.le_of_ble_eq_true rfl) ?_
      obtain ⟨hc, hp⟩ := hp
      refine b5_isWord_38 hq1 (C_charAt q1 x2 M hc) (Nat.le_of_ble_eq_true rfl) ?_
      refine b5_isWord_43 hq1 (fun h => ?_) (fun h => ?_)
      · rw [if_pos h]
        have hp := hp.1 h
        refine b5_isWord_48 hq1 ?_
        exact ih q1 (x2 + 1) hp
      · rw [if_neg h]
        exact b5_isWord_46  rfl rfl
def F_5_isWord_0 (M : Mem) (q1 : Nat) : Int32 := if ((rd M 1560 3) - (rd M 1560 4)) = (sLen q1) then (F_5_isWord_20 M FU q1 0) else (0)
def P_5_isWord_0 (M : Mem) (q1 : Nat) : Prop := (q1 < nTX) ∧ (((q1 < nTX) ∧ (((((rd M 1560 3) - (rd M 1560 4)) = (sLen q1) → (P_5_isWord_20 M FU q1 0)) ∧ (¬ ((rd M 1560 3) - (rd M 1560 4)) = (sLen q1) → True)))))
theorem T_5_isWord_0 {g : Gl} (M : Mem) (q1 : Nat) (hp : P_5_isWord_0 M q1) : Rn g 4 m5_isWord 0 [some (.ref 1560), some (.ref (1000000 + q1)), none] [] M (some (.int (F_5_isWord_0 M q1))) (M) := by
  rw [F_5_isWord_0]
  rw [P_5_isWord_0] at hp
  obtain ⟨hq1, hp⟩ := hp
  obtain ⟨hc, hp⟩ := hp
  refine b5_isWord_0 hq1 (C_length q1 M hc) (Nat.le_of_ble_eq_true rfl) ?_
  refine b5_isWord_13 hq1 (fun h => ?_) (fun h => ?_)
  · rw [if_pos h]
    have hp := hp.1 h
    refine b5_isWord_18 hq1 ?_
    exact T_5_isWord_20 _ FU q1 0 hp
  · rw [if_neg h]
    exact b5_isWord_16  rfl rfl
theorem C_5_isWord {g : Gl}  (q1 : Nat) (M : Mem) (hp : P_5_isWord_0 M q1) : Ms g 4 m5_isWord [.ref 1560, .ref (1000000 + q1)] M (some (.int (F_5_isWord_0 M q1))) (M) := Ms.of okM_m5_isWord (Nat.le_of_ble_eq_true rfl) (R_wk (lc rfl (lc rfl (ln l0))) (T_5_isWord_0 M q1 hp))
def F_2_codeOfWord_0 (M : Mem) : Int32 := if (F_5_isWord_0 M 6) = 0 then (if (F_5_isWord_0 M 7) = 0 then (if (F_5_isWord_0 M 8) = 0 then (if (F_5_isWord_0 M 2) = 0 then (if (F_5_isWord_0 M 9) = 0 then (if (F_5_isWord_0 M 10) = 0 then (if (F_5_isWord_0 M 11) = 0 then (if (F_5_isWord_0 M 12) = 0 then (if (F_5_isWord_0 M 13) = 0 then (if (F_5_isWord_0 M 14) = 0 then ((-16)) else ((-10))) else ((-9))) else ((-8))) else ((-7))) else ((-6))) else ((-5))) else ((-4))) else ((-3))) else ((-2))) else ((-1))
def P_2_codeOfWord_0 (M : Mem) : Prop := (((P_5_isWord_0 M 6) ∧ ((((F_5_isWord_0 M 6) = 0 → (((P_5_isWord_0 M 7) ∧ ((((F_5_isWord_0 M 7) = 0 → (((P_5_isWord_0 M 8) ∧ ((((F_5_isWord_0 M 8) = 0 → (((P_5_isWord_0 M 2) ∧ ((((F_5_isWord_0 M 2) = 0 → (((P_5_isWord_0 M 9) ∧ ((((F_5_isWord_0 M 9) = 0 → (((P_5_isWord_0 M 10) ∧ ((((F_5_isWord_0 M 10) = 0 → (((P_5_isWord_0 M 11) ∧ ((((F_5_isWord_0 M 11) = 0 → (((P_5_isWord_0 M 12) ∧ ((((F_5_isWord_0 M 12) = 0 → (((P_5_isWord_0 M 13) ∧ ((((F_5_isWord_0 M 13) = 0 → (((P_5_isWord_0 M 14)))) ∧ (¬ (F_5_isWord_0 M 13) = 0 → True)))))) ∧ (¬ (F_5_isWord_0 M 12) = 0 → True)))))) ∧ (¬ (F_5_isWord_0 M 11) = 0 → True)))))) ∧ (¬ (F_5_isWord_0 M 10) = 0 → True)))))) ∧ (¬ (F_5_isWord_0 M 9) = 0 → True)))))) ∧ (¬ (F_5_isWord_0 M 2) = 0 → True)))))) ∧ (¬ (F_5_isWord_0 M 8) = 0 → True)))))) ∧ (¬ (F_5_isWord_0 M 7) = 0 → True)))))) ∧ (¬ (F_5_isWord_0 M 6) = 0 → True)))))
theorem T_2_codeOfWord_0 {g : Gl} (M : Mem) (hp : P_2_codeOfWord_0 M) : Rn g 5 m2_codeOfWord 0 [some (.ref 1560)] [] M (some (.int (F_2_codeOfWord_0 M))) (M) := by
  rw [F_2_codeOfWord_0]
  rw [P_2_codeOfWord_0] at hp
  refine b2_codeOfWord_0  ?_
  obtain ⟨hc, hp⟩ := hp
  refine b2_codeOfWord_3  (C_5_isWord 6 M hc) (Nat.le_of_ble_eq_true rfl) ?_
  refine b2_codeOfWord_6  (fun h => ?_) (fun h => ?_)
  · rw [if_pos h]
    have hp := hp.1 h
    refine b2_codeOfWord_11  ?_
    obtain ⟨hc, hp⟩ := hp
    refine b2_codeOfWord_14  (C_5_isWord 7 M hc) (Nat.le_of_ble_eq_true rfl) ?_
    refine b2_codeOfWord_17  (fun h => ?_) (fun h => ?_)
    · rw [if_pos h]
      have hp := hp.1 h
      refine b2_codeOfWord_23  ?_
      obtain ⟨hc, hp⟩ := hp
      refine b2_codeOfWord_26  (C_5_isWord 8 M hc) (Nat.le_of_ble_eq_true rfl) ?_
      refine b2_codeOfWord_29  (fun h => ?_) (fun h => ?_)
      · rw [if_pos h]
        have hp := hp.1 h
        refine b2_codeOfWord_35  ?_
        obtain ⟨hc, hp⟩ := hp
        refine b2_codeOfWord_38  (C_5_isWord 2 M hc) (Nat.le_of_ble_eq_true rfl) ?_
        refine b2_codeOfWord_41  (fun h => ?_) (fun h => ?_)
        · rw [if_pos h]
          have hp := hp.1 h
          refine b2_codeOfWord_47  ?_
          obtain ⟨hc, hp⟩ := hp
          refine b2_codeOfWord_50  (C_5_isWord 9 M hc) (Nat.le_of_ble_eq_true rfl) ?_
          refine b2_codeOfWord_53  (fun h => ?_) (fun h => ?_)
          · rw [if_pos h]
            have hp := hp.1 h
            refine b2_codeOfWord_59  ?_
            obtain ⟨hc, hp⟩ := hp
            refine b2_codeOfWord_62  (C_5_isWord 10 M hc) (Nat.le_of_ble_eq_true rfl) ?_
            refine b2_codeOfWord_65  (fun h => ?_) (fun h => ?_)
            · rw [if_pos h]
              have hp := hp.1 h
              refine b2_codeOfWord_71  ?_
              obtain ⟨hc, hp⟩ := hp
              refine b2_codeOfWord_74  (C_5_isWord 11 M hc) (Nat.le_of_ble_eq_true rfl) ?_
              refine b2_codeOfWord_77  (fun h => ?_) (fun h => ?_)
              · rw [if_pos h]
                have hp := hp.1 h
                refine b2_codeOfWord_83  ?_
                obtain ⟨hc, hp⟩ := hp
                refine b2_codeOfWord_86  (C_5_isWord 12 M hc) (Nat.le_of_ble_eq_true rfl) ?_
                refine b2_codeOfWord_89  (fun h => ?_) (fun h => ?_)
                · rw [if_pos h]
                  have hp := hp.1 h
                  refine b2_codeOfWord_95  ?_
                  obtain ⟨hc, hp⟩ := hp
                  refine b2_codeOfWord_98  (C_5_isWord 13 M hc) (Nat.le_of_ble_eq_true rfl) ?_
                  refine b2_codeOfWord_101  (fun h => ?_) (fun h => ?_)
                  · rw [if_pos h]
                    have hp := hp.1 h
                    refine b2_codeOfWord_107  ?_
                    have hc := hp
                    refine b2_codeOfWord_110  (C_5_isWord 14 M hc) (Nat.le_of_ble_eq_true rfl) ?_
                    refine b2_codeOfWord_113  (fun h => ?_) (fun h => ?_)
                    · rw [if_pos h]
                      refine b2_codeOfWord_121  ?_
                      exact b2_codeOfWord_123  rfl rfl
                    · rw [if_neg h]
                      refine b2_codeOfWord_116  ?_
                      exact b2_codeOfWord_123  rfl rfl
                  · rw [if_neg h]
                    exact b2_codeOfWord_104  rfl rfl
                · rw [if_neg h]
                  exact b2_codeOfWord_92  rfl rfl
              · rw [if_neg h]
                exact b2_codeOfWord_80  rfl rfl
            · rw [if_neg h]
              exact b2_codeOfWord_68  rfl rfl
          · rw [if_neg h]
            exact b2_codeOfWord_56  rfl rfl
        · rw [if_neg h]
          exact b2_codeOfWord_44  rfl rfl
      · rw [if_neg h]
        exact b2_codeOfWord_32  rfl rfl
    · rw [if_neg h]
      exact b2_codeOfWord_20  rfl rfl
  · rw [if_neg h]
    exact b2_codeOfWord_9  rfl rfl
theorem C_2_codeOfWord {g : Gl}   (M : Mem) (hp : P_2_codeOfWord_0 M) : Ms g 5 m2_codeOfWord [.ref 1560] M (some (.int (F_2_codeOfWord_0 M))) (M) := Ms.of okM_m2_codeOfWord (Nat.le_of_ble_eq_true rfl) (R_wk (lc rfl l0) (T_2_codeOfWord_0 M hp))
def F_5_fail_0 (x1 : Int32) (x2 : Int32) (M : Mem) : Int32 × Mem := (0, wr (wr M 1560 6 x1) 1560 7 x2)
theorem T_5_fail_0 {g : Gl} (x1 : Int32) (x2 : Int32) (M : Mem)  : Rn g 0 m5_fail 0 [some (.ref 1560), some (.int x1), some (.int x2)] [] M (some (.int (F_5_fail_0 x1 x2 M).1)) ((F_5_fail_0 x1 x2 M).2) := by
  rw [F_5_fail_0]
  exact b5_fail_0  rfl rfl
theorem C_5_fail {g : Gl}  (x1 : Int32) (x2 : Int32) (M : Mem)  : Ms g 0 m5_fail [.ref 1560, .int x1, .int x2] M (some (.int (F_5_fail_0 x1 x2 M).1)) ((F_5_fail_0 x1 x2 M).2) := Ms.of okM_m5_fail (Nat.le_of_ble_eq_true rfl) (R_wk (lc rfl (lc rfl (lc rfl l0))) (T_5_fail_0 x1 x2 M))
def F_5_needsNumber_19 (xs0 : Int32) (M : Mem) : Int32 × Mem := (xs0, M)
def P_5_needsNumber_19 (xs0 : Int32) (M : Mem) : Prop := (narrow .boolean (.int xs0) = .int xs0)
theorem T_5_needsNumber_19 {g : Gl} (xs0 : Int32) (M : Mem) (hp : P_5_needsNumber_19 xs0 M) : Rn g 1 m5_needsNumber 19 [none, none] [.int xs0] M (some (.int (F_5_needsNumber_19 xs0 M).1)) ((F_5_needsNumber_19 xs0 M).2) := by
  rw [F_5_needsNumber_19]
  rw [P_5_needsNumber_19] at hp
  have p0 := hp
  exact b5_needsNumber_19  rfl rfl p0
def F_5_needsNumber_111 (M : Mem) : Int32 × Mem := (1, M)
theorem T_5_needsNumber_111 {g : Gl} (M : Mem)  : Rn g 1 m5_needsNumber 111 [none, none] [] M (some (.int (F_5_needsNumber_111 M).1)) ((F_5_needsNumber_111 M).2) := by
  rw [F_5_needsNumber_111]
  refine b5_needsNumber_111  ?_
  exact b5_needsNumber_116  rfl rfl rfl
def F_5_needsNumber_108 (xs0 : Int32) (M : Mem) : Int32 × Mem := if xs0 = 0 then ((0, M)) else (F_5_needsNumber_111 M)
theorem T_5_needsNumber_108 {g : Gl} (xs0 : Int32) (M : Mem)  : Rn g 1 m5_needsNumber 108 [none, none] [.int xs0] M (some (.int (F_5_needsNumber_108 xs0 M).1)) ((F_5_needsNumber_108 xs0 M).2) := by
  rw [F_5_needsNumber_108]
  refine b5_needsNumber_108  (fun h => ?_) (fun h => ?_)
  · rw [if_pos h]
    refine b5_needsNumber_115  ?_
    exact b5_needsNumber_116  rfl rfl rfl
  · rw [if_neg h]
    exact T_5_needsNumber_111 M
def F_5_needsNumber_91 (x1 : Int32) (M : Mem) : Int32 × Mem := if (rd M 1560 5) ≤ x1 then (F_5_needsNumber_111 M) else (F_5_needsNumber_108 ((F_5_fail_0 2 (rd M 1560 4) M).1) ((F_5_fail_0 2 (rd M 1560 4) M).2))
theorem T_5_needsNumber_91 {g : Gl} (x1 : Int32) (M : Mem)  : Rn g 1 m5_needsNumber 91 [some (.ref 1560), some (.int x1)] [] M (some (.int (F_5_needsNumber_91 x1 M).1)) ((F_5_needsNumber_91 x1 M).2) := by
  rw [F_5_needsNumber_91]
  refine b5_needsNumber_91  (fun h => ?_) (fun h => ?_)
  · rw [if_pos h]
    exact T_5_needsNumber_111 M
  · rw [if_neg h]
    refine b5_needsNumber_99  (C_5_fail 2 (rd M 1560 4) M) (Nat.le_of_ble_eq_true rfl) ?_
    exact T_5_needsNumber_108 ((F_5_fail_0 2 (rd M 1560 4) M).1) ((F_5_fail_0 2 (rd M 1560 4) M).2)
def F_5_needsNumber_25  : Nat → Int32 → Mem → Int32 × Mem
  | 0, _, M => (0, M)
  | n + 1, x1, M => if (rd M 1560 1) ≤ (rd M 1560 2) then (F_5_needsNumber_91 x1 M) else (if (F_5_isDigit_0 M (F_5_byteAt_0 M (rd M 1560 2))) = 0 then (F_5_needsNumber_91 x1 M) else ((F_5_needsNumber_25 n) x1 (wr (wr M 1560 5 (if ((((rd M 1560 5) * 10) + (F_5_byteAt_0 M (rd M 1560 2))) - 48) < 100000 then ((((rd M 1560 5) * 10) + (F_5_byteAt_0 M (rd M 1560 2))) - 48) else 100000)) 1560 2 ((rd (wr M 1560 5 (if ((((rd M 1560 5) * 10) + (F_5_byteAt_0 M (rd M 1560 2))) - 48) < 100000 then ((((rd M 1560 5) * 10) + (F_5_byteAt_0 M (rd M 1560 2))) - 48) else 100000)) 1560 2) + 1))))
def P_5_needsNumber_25  : Nat → Int32 → Mem → Prop
  | 0, _, _ => False
  | n + 1, x1, M => (((rd M 1560 1) ≤ (rd M 1560 2) → True) ∧ (¬ (rd M 1560 1) ≤ (rd M 1560 2) → ((P_5_byteAt_0 M (rd M 1560 2)) ∧ ((((((F_5_isDigit_0 M (F_5_byteAt_0 M (rd M 1560 2))) = 0 → True) ∧ (¬ (F_5_isDigit_0 M (F_5_byteAt_0 M (rd M 1560 2))) = 0 → ((P_5_byteAt_0 M (rd M 1560 2)) ∧ ((((P_5_needsNumber_25 n) x1 (wr (wr M 1560 5 (if ((((rd M 1560 5) * 10) + (F_5_byteAt_0 M (rd M 1560 2))) - 48) < 100000 then ((((rd M 1560 5) * 10) + (F_5_byteAt_0 M (rd M 1560 2))) - 48) else 100000)) 1560 2 ((rd (wr M 1560 5 (if ((((rd M 1560 5) * 10) + (F_5_byteAt_0 M (rd M 1560 2))) - 48) < 100000 then ((((rd M 1560 5) * 10) + (F_5_byteAt_0 M (rd M 1560 2))) - 48) else 100000)) 1560 2) + 1))))))))))))))
theorem T_5_needsNumber_25 {g : Gl} : ∀ (n : Nat) (x1 : Int32) (M : Mem) (hp : P_5_needsNumber_25 n x1 M), Rn g 1 m5_needsNumber 25 [some (.ref 1560), some (.int x1)] [] M (some (.int (F_5_needsNumber_25 n x1 M).1)) ((F_5_needsNumber_25 n x1 M).2) := by
  intro n
  induction n with
  | zero => intro x1 M hp; exact hp.elim
  | succ n ih =>
    intro x1 M hp
    rw [F_5_needsNumber_25]
    rw [P_5_needsNumber_25] at hp
    refine b5_needsNumber_25  (fun h => ?_) (fun h => ?_)
    · rw [if_pos h]
      exact T_5_needsNumber_91 x1 M
    · rw [if_neg h]
      have hp := hp.2 h
      obtain ⟨hc, hp⟩ := hp
      refine b5_needsNumber_36  (C_5_byteAt (rd M 1560 2) M hc) (Nat.le_of_ble_eq_true rfl) ?_
      refine b5_needsNumber_44  (C_5_isDigit (F_5_byteAt_0 M (rd M 1560 2)) M) (Nat.le_of_ble_eq_true rfl) ?_
      refine b5_needsNumber_47  (fun h => ?_) (fun h => ?_)
      · rw [if_pos h]
        exact T_5_needsNumber_91 x1 M
      · rw [if_neg h]
        have hp := hp.2 h
        obtain ⟨hc, hp⟩ := hp
        refine b5_needsNumber_50  (C_5_byteAt (rd M 1560 2) M hc) (Nat.le_of_ble_eq_true rfl) ?_
        refine b5_needsNumber_68 (Nat.le_of_ble_eq_true rfl) ?_
        refine b5_needsNumber_75  ?_
        exact ih x1 (wr (wr M 1560 5 (if ((((rd M 1560 5) * 10) + (F_5_byteAt_0 M (rd M 1560 2))) - 48) < 100000 then ((((rd M 1560 5) * 10) + (F_5_byteAt_0 M (rd M 1560 2))) - 48) else 100000)) 1560 2 ((rd (wr M 1560 5 (if ((((rd M 1560 5) * 10) + (F_5_byteAt_0 M (rd M 1560 2))) - 48) < 100000 then ((((rd M 1560 5) * 10) + (F_5_byteAt_0 M (rd M 1560 2))) - 48) else 100000)) 1560 2) + 1)) hp
def F_5_needsNumber_4 (x1 : Int32) (xs0 : Int32) (M : Mem) : Int32 × Mem := if (F_5_isDigit_0 M xs0) = 0 then (F_5_needsNumber_19 ((F_5_fail_0 1 (rd M 1560 4) M).1) ((F_5_fail_0 1 (rd M 1560 4) M).2)) else (F_5_needsNumber_25 FU x1 (wr M 1560 5 0))
def P_5_needsNumber_4 (x1 : Int32) (xs0 : Int32) (M : Mem) : Prop := ((((¬ (F_5_isDigit_0 M xs0) = 0 → (P_5_needsNumber_25 FU x1 (wr M 1560 5 0))) ∧ ((F_5_isDigit_0 M xs0) = 0 → ((P_5_needsNumber_19 ((F_5_fail_0 1 (rd M 1560 4) M).1) ((F_5_fail_0 1 (rd M 1560 4) M).2)))))))
theorem T_5_needsNumber_4 {g : Gl} (x1 : Int32) (xs0 : Int32) (M : Mem) (hp : P_5_needsNumber_4 x1 xs0 M) : Rn g 1 m5_needsNumber 4 [some (.ref 1560), some (.int x1)] [.int xs0] M (some (.int (F_5_needsNumber_4 x1 xs0 M).1)) ((F_5_needsNumber_4 x1 xs0 M).2) := by
  rw [F_5_needsNumber_4]
  rw [P_5_needsNumber_4] at hp
  refine b5_needsNumber_4  (C_5_isDigit xs0 M) (Nat.le_of_ble_eq_true rfl) ?_
  refine b5_needsNumber_7  (fun h => ?_) (fun h => ?_)
  · rw [if_neg h]
    have hp := hp.1 h
    refine b5_needsNumber_20  ?_
    exact T_5_needsNumber_25 FU x1 (wr M 1560 5 0) hp
  · rw [if_pos h]
    have hp := hp.2 h
    refine b5_needsNumber_10  (C_5_fail 1 (rd M 1560 4) M) (Nat.le_of_ble_eq_true rfl) ?_
    exact T_5_needsNumber_19 ((F_5_fail_0 1 (rd M 1560 4) M).1) ((F_5_fail_0 1 (rd M 1560 4) M).2) hp
def F_5_needsNumber_0 (x1 : Int32) (M : Mem) : Int32 × Mem := F_5_needsNumber_4 x1 ((F_5_peek_0 FU M).1) ((F_5_peek_0 FU M).2)
def P_5_needsNumber_0 (x1 : Int32) (M : Mem) : Prop := ((P_5_peek_0 FU M) ∧ (P_5_needsNumber_4 x1 ((F_5_peek_0 FU M).1) ((F_5_peek_0 FU M).2)))
theorem T_5_needsNumber_0 {g : Gl} (x1 : Int32) (M : Mem) (hp : P_5_needsNumber_0 x1 M) : Rn g 1 m5_needsNumber 0 [some (.ref 1560), some (.int x1)] [] M (some (.int (F_5_needsNumber_0 x1 M).1)) ((F_5_needsNumber_0 x1 M).2) := by
  rw [F_5_needsNumber_0]
  rw [P_5_needsNumber_0] at hp
  obtain ⟨hc, hp⟩ := hp
  refine b5_needsNumber_0  (C_5_peek  M hc) (Nat.le_of_ble_eq_true rfl) ?_
  exact T_5_needsNumber_4 x1 ((F_5_peek_0 FU M).1) ((F_5_peek_0 FU M).2) hp
theorem C_5_needsNumber {g : Gl}  (x1 : Int32) (M : Mem) (hp : P_5_needsNumber_0 x1 M) : Ms g 1 m5_needsNumber [.ref 1560, .int x1] M (some (.int (F_5_needsNumber_0 x1 M).1)) ((F_5_needsNumber_0 x1 M).2) := Ms.of okM_m5_needsNumber (Nat.le_of_ble_eq_true rfl) (R_wk (lc rfl (lc rfl l0)) (T_5_needsNumber_0 x1 M hp))
def F_5_needs_17 (xs0 : Int32) (M : Mem) : Int32 × Mem := (xs0, M)
def P_5_needs_17 (xs0 : Int32) (M : Mem) : Prop := (narrow .boolean (.int xs0) = .int xs0)
theorem T_5_needs_17 {g : Gl} (xs0 : Int32) (M : Mem) (hp : P_5_needs_17 xs0 M) : Rn g 1 m5_needs 17 [none, none] [.int xs0] M (some (.int (F_5_needs_17 xs0 M).1)) ((F_5_needs_17 xs0 M).2) := by
  rw [F_5_needs_17]
  rw [P_5_needs_17] at hp
  have p0 := hp
  exact b5_needs_17  rfl rfl p0
def F_5_needs_4 (x1 : Int32) (xs0 : Int32) (M : Mem) : Int32 × Mem := if xs0 = x1 then ((1, wr M 1560 2 ((rd M 1560 2) + 1))) else (F_5_needs_17 ((F_5_fail_0 1 (rd M 1560 4) M).1) ((F_5_fail_0 1 (rd M 1560 4) M).2))
def P_5_needs_4 (x1 : Int32) (xs0 : Int32) (M : Mem) : Prop := ((xs0 = x1 → True) ∧ (¬ xs0 = x1 → ((P_5_needs_17 ((F_5_fail_0 1 (rd M 1560 4) M).1) ((F_5_fail_0 1 (rd M 1560 4) M).2)))))
theorem T_5_needs_4 {g : Gl} (x1 : Int32) (xs0 : Int32) (M : Mem) (hp : P_5_needs_4 x1 xs0 M) : Rn g 1 m5_needs 4 [some (.ref 1560), some (.int x1)] [.int xs0] M (some (.int (F_5_needs_4 x1 xs0 M).1)) ((F_5_needs_4 x1 xs0 M).2) := by
  rw [F_5_needs_4]
  rw [P_5_needs_4] at hp
  refine b5_needs_4  (fun h => ?_) (fun h => ?_)
  · rw [if_pos h]
    exact b5_needs_18  rfl rfl
  · rw [if_neg h]
    have hp := hp.2 h
    refine b5_needs_8  (C_5_fail 1 (rd M 1560 4) M) (Nat.le_of_ble_eq_true rfl) ?_
    exact T_5_needs_17 ((F_5_fail_0 1 (rd M 1560 4) M).1) ((F_5_fail_0 1 (rd M 1560 4) M).2) hp
def F_5_needs_0 (x1 : Int32) (M : Mem) : Int32 × Mem := F_5_needs_4 x1 ((F_5_peek_0 FU M).1) ((F_5_peek_0 FU M).2)
def P_5_needs_0 (x1 : Int32) (M : Mem) : Prop := ((P_5_peek_0 FU M) ∧ (P_5_needs_4 x1 ((F_5_peek_0 FU M).1) ((F_5_peek_0 FU M).2)))
theorem T_5_needs_0 {g : Gl} (x1 : Int32) (M : Mem) (hp : P_5_needs_0 x1 M) : Rn g 1 m5_needs 0 [some (.ref 1560), some (.int x1)] [] M (some (.int (F_5_needs_0 x1 M).1)) ((F_5_needs_0 x1 M).2) := by
  rw [F_5_needs_0]
  rw [P_5_needs_0] at hp
  obtain ⟨hc, hp⟩ := hp
  refine b5_needs_0  (C_5_peek  M hc) (Nat.le_of_ble_eq_true rfl) ?_
  exact T_5_needs_4 x1 ((F_5_peek_0 FU M).1) ((F_5_peek_0 FU M).2) hp
theorem C_5_needs {g : Gl}  (x1 : Int32) (M : Mem) (hp : P_5_needs_0 x1 M) : Ms g 1 m5_needs [.ref 1560, .int x1] M (some (.int (F_5_needs_0 x1 M).1)) ((F_5_needs_0 x1 M).2) := Ms.of okM_m5_needs (Nat.le_of_ble_eq_true rfl) (R_wk (lc rfl (lc rfl l0)) (T_5_needs_0 x1 M hp))
def F_2_readBracket_15 (rF : Int32 → Mem → Int32 × Mem) (xs0 : Int32) (M : Mem) : Int32 × Mem := (xs0, M)
def P_2_readBracket_15 (rF : Int32 → Mem → Int32 × Mem) (rP : Int32 → Mem → Prop) (xs0 : Int32) (M : Mem) : Prop := (narrow .boolean (.int xs0) = .int xs0)
theorem T_2_readBracket_15 {g : Gl} (rF : Int32 → Mem → Int32 × Mem) (rP : Int32 → Mem → Prop) {dr : Nat} (rT : ∀ (a0 : Int32) (M : Mem), rP a0 M → Ms g dr m2_readSum [.ref 1583, .ref 1560, .int a0] M (some (.int (rF a0 M).1)) ((rF a0 M).2)) (xs0 : Int32) (M : Mem) (hp : P_2_readBracket_15 rF rP xs0 M) : Rn g (dr + 2) m2_readBracket 15 [none, none, none] [.int xs0] M (some (.int (F_2_readBracket_15 rF xs0 M).1)) ((F_2_readBracket_15 rF xs0 M).2) := by
  rw [F_2_readBracket_15]
  rw [P_2_readBracket_15] at hp
  have p0 := hp
  exact b2_readBracket_15  rfl rfl p0
def F_2_readBracket_49 (rF : Int32 → Mem → Int32 × Mem) (M : Mem) : Int32 × Mem := (0, M)
theorem T_2_readBracket_49 {g : Gl} (rF : Int32 → Mem → Int32 × Mem) (rP : Int32 → Mem → Prop) {dr : Nat} (rT : ∀ (a0 : Int32) (M : Mem), rP a0 M → Ms g dr m2_readSum [.ref 1583, .ref 1560, .int a0] M (some (.int (rF a0 M).1)) ((rF a0 M).2)) (M : Mem)  : Rn g (dr + 2) m2_readBracket 49 [none, none, none] [] M (some (.int (F_2_readBracket_49 rF M).1)) ((F_2_readBracket_49 rF M).2) := by
  rw [F_2_readBracket_49]
  refine b2_readBracket_49  ?_
  exact b2_readBracket_50  rfl rfl rfl
def F_2_readBracket_42 (rF : Int32 → Mem → Int32 × Mem) (xs0 : Int32) (M : Mem) : Int32 × Mem := if xs0 = 0 then (F_2_readBracket_49 rF M) else ((1, M))
theorem T_2_readBracket_42 {g : Gl} (rF : Int32 → Mem → Int32 × Mem) (rP : Int32 → Mem → Prop) {dr : Nat} (rT : ∀ (a0 : Int32) (M : Mem), rP a0 M → Ms g dr m2_readSum [.ref 1583, .ref 1560, .int a0] M (some (.int (rF a0 M).1)) ((rF a0 M).2)) (xs0 : Int32) (M : Mem)  : Rn g (dr + 2) m2_readBracket 42 [none, none, none] [.int xs0] M (some (.int (F_2_readBracket_42 rF xs0 M).1)) ((F_2_readBracket_42 rF xs0 M).2) := by
  rw [F_2_readBracket_42]
  refine b2_readBracket_42  (fun h => ?_) (fun h => ?_)
  · rw [if_pos h]
    exact T_2_readBracket_49 rF rP rT M
  · rw [if_neg h]
    refine b2_readBracket_45  ?_
    exact b2_readBracket_50  rfl rfl rfl
def F_2_readBracket_33 (rF : Int32 → Mem → Int32 × Mem) (xs0 : Int32) (M : Mem) : Int32 × Mem := if xs0 = 0 then (F_2_readBracket_49 rF M) else (F_2_readBracket_42 rF ((F_5_needs_0 41 M).1) ((F_5_needs_0 41 M).2))
def P_2_readBracket_33 (rF : Int32 → Mem → Int32 × Mem) (rP : Int32 → Mem → Prop) (xs0 : Int32) (M : Mem) : Prop := ((xs0 = 0 → True) ∧ (¬ xs0 = 0 → ((P_5_needs_0 41 M))))
theorem T_2_readBracket_33 {g : Gl} (rF : Int32 → Mem → Int32 × Mem) (rP : Int32 → Mem → Prop) {dr : Nat} (rT : ∀ (a0 : Int32) (M : Mem), rP a0 M → Ms g dr m2_readSum [.ref 1583, .ref 1560, .int a0] M (some (.int (rF a0 M).1)) ((rF a0 M).2)) (xs0 : Int32) (M : Mem) (hp : P_2_readBracket_33 rF rP xs0 M) : Rn g (dr + 2) m2_readBracket 33 [none, some (.ref 1560), none] [.int xs0] M (some (.int (F_2_readBracket_33 rF xs0 M).1)) ((F_2_readBracket_33 rF xs0 M).2) := by
  rw [F_2_readBracket_33]
  rw [P_2_readBracket_33] at hp
  refine b2_readBracket_33  (fun h => ?_) (fun h => ?_)
  · rw [if_pos h]
    exact T_2_readBracket_49 rF rP rT M
  · rw [if_neg h]
    have hp := hp.2 h
    have hc := hp
    refine b2_readBracket_36  (C_5_needs 41 M hc) (by omega) ?_
    exact T_2_readBracket_42 rF rP rT ((F_5_needs_0 41 M).1) ((F_5_needs_0 41 M).2)
def F_2_readBracket_22 (rF : Int32 → Mem → Int32 × Mem) (x2 : Int32) (xs0 : Int32) (M : Mem) : Int32 × Mem := if xs0 = 0 then (F_2_readBracket_49 rF M) else (F_2_readBracket_33 rF ((rF (x2 + 1) M).1) ((rF (x2 + 1) M).2))
def P_2_readBracket_22 (rF : Int32 → Mem → Int32 × Mem) (rP : Int32 → Mem → Prop) (x2 : Int32) (xs0 : Int32) (M : Mem) : Prop := ((xs0 = 0 → True) ∧ (¬ xs0 = 0 → ((rP (x2 + 1) M) ∧ (P_2_readBracket_33 rF rP ((rF (x2 + 1) M).1) ((rF (x2 + 1) M).2)))))
theorem T_2_readBracket_22 {g : Gl} (rF : Int32 → Mem → Int32 × Mem) (rP : Int32 → Mem → Prop) {dr : Nat} (rT : ∀ (a0 : Int32) (M : Mem), rP a0 M → Ms g dr m2_readSum [.ref 1583, .ref 1560, .int a0] M (some (.int (rF a0 M).1)) ((rF a0 M).2)) (x2 : Int32) (xs0 : Int32) (M : Mem) (hp : P_2_readBracket_22 rF rP x2 xs0 M) : Rn g (dr + 2) m2_readBracket 22 [some (.ref 1583), some (.ref 1560), some (.int x2)] [.int xs0] M (some (.int (F_2_readBracket_22 rF x2 xs0 M).1)) ((F_2_readBracket_22 rF x2 xs0 M).2) := by
  rw [F_2_readBracket_22]
  rw [P_2_readBracket_22] at hp
  refine b2_readBracket_22  (fun h => ?_) (fun h => ?_)
  · rw [if_pos h]
    exact T_2_readBracket_49 rF rP rT M
  · rw [if_neg h]
    have hp := hp.2 h
    obtain ⟨hc, hp⟩ := hp
    refine b2_readBracket_25  (rT (x2 + 1) M hc) (by omega) ?_
    exact T_2_readBracket_33 rF rP rT ((rF (x2 + 1) M).1) ((rF (x2 + 1) M).2) hp
def F_2_readBracket_0 (rF : Int32 → Mem → Int32 × Mem) (x2 : Int32) (M : Mem) : Int32 × Mem := if x2 < 6 then (F_2_readBracket_22 rF x2 ((F_5_needs_0 40 M).1) ((F_5_needs_0 40 M).2)) else (F_2_readBracket_15 rF ((F_5_fail_0 3 (rd M 1560 4) M).1) ((F_5_fail_0 3 (rd M 1560 4) M).2))
def P_2_readBracket_0 (rF : Int32 → Mem → Int32 × Mem) (rP : Int32 → Mem → Prop) (x2 : Int32) (M : Mem) : Prop := ((x2 < 6 → ((P_5_needs_0 40 M) ∧ (P_2_readBracket_22 rF rP x2 ((F_5_needs_0 40 M).1) ((F_5_needs_0 40 M).2)))) ∧ (¬ x2 < 6 → ((P_2_readBracket_15 rF rP ((F_5_fail_0 3 (rd M 1560 4) M).1) ((F_5_fail_0 3 (rd M 1560 4) M).2)))))
theorem T_2_readBracket_0 {g : Gl} (rF : Int32 → Mem → Int32 × Mem) (rP : Int32 → Mem → Prop) {dr : Nat} (rT : ∀ (a0 : Int32) (M : Mem), rP a0 M → Ms g dr m2_readSum [.ref 1583, .ref 1560, .int a0] M (some (.int (rF a0 M).1)) ((rF a0 M).2)) (x2 : Int32) (M : Mem) (hp : P_2_readBracket_0 rF rP x2 M) : Rn g (dr + 2) m2_readBracket 0 [some (.ref 1583), some (.ref 1560), some (.int x2)] [] M (some (.int (F_2_readBracket_0 rF x2 M).1)) ((F_2_readBracket_0 rF x2 M).2) := by
  rw [F_2_readBracket_0]
  rw [P_2_readBracket_0] at hp
  refine b2_readBracket_0  (fun h => ?_) (fun h => ?_)
  · rw [if_pos h]
    have hp := hp.1 h
    obtain ⟨hc, hp⟩ := hp
    refine b2_readBracket_16  (C_5_needs 40 M hc) (by omega) ?_
    exact T_2_readBracket_22 rF rP rT x2 ((F_5_needs_0 40 M).1) ((F_5_needs_0 40 M).2) hp
  · rw [if_neg h]
    have hp := hp.2 h
    refine b2_readBracket_6  (C_5_fail 3 (rd M 1560 4) M) (by omega) ?_
    exact T_2_readBracket_15 rF rP rT ((F_5_fail_0 3 (rd M 1560 4) M).1) ((F_5_fail_0 3 (rd M 1560 4) M).2) hp
theorem C_2_readBracket {g : Gl} (rF : Int32 → Mem → Int32 × Mem) (rP : Int32 → Mem → Prop) {dr : Nat} (rT : ∀ (a0 : Int32) (M : Mem), rP a0 M → Ms g dr m2_readSum [.ref 1583, .ref 1560, .int a0] M (some (.int (rF a0 M).1)) ((rF a0 M).2)) (x2 : Int32) (M : Mem) (hp : P_2_readBracket_0 rF rP x2 M) : Ms g (dr + 2) m2_readBracket [.ref 1583, .ref 1560, .int x2] M (some (.int (F_2_readBracket_0 rF x2 M).1)) ((F_2_readBracket_0 rF x2 M).2) := Ms.of okM_m2_readBracket (Nat.le_of_ble_eq_true rfl) (R_wk (lc rfl (lc rfl (lc rfl l0))) (T_2_readBracket_0 rF rP rT x2 M hp))
