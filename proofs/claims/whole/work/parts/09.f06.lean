def F_12_wing_33 (x1 : Int32) (M : Mem) : Int32 × Mem := ((F_12_wingOf_0 M x1), M)
def P_12_wing_33 (x1 : Int32) (M : Mem) : Prop := ((P_12_wingOf_0 M x1))
theorem T_12_wing_33 {g : Gl} (x1 : Int32) (M : Mem) (hp : P_12_wing_33 x1 M) : Rn g 2 m12_wing 33 [some (.ref 0), some (.int x1)] [] M (some (.int (F_12_wing_33 x1 M).1)) ((F_12_wing_33 x1 M).2) := by
  rw [F_12_wing_33]
  rw [P_12_wing_33] at hp
  have hc := hp
  refine b12_wing_33  (C_12_wingOf x1 M hc) (Nat.le_of_ble_eq_true rfl) ?_
  exact b12_wing_38  rfl rfl
def F_12_wing_24 (x1 : Int32) (xs0 : Int32) (M : Mem) : Int32 × Mem := if xs0 = 0 then (F_12_wing_33 x1 (F_12_laysWays_0 M)) else ((0, M))
def P_12_wing_24 (x1 : Int32) (xs0 : Int32) (M : Mem) : Prop := ((xs0 = 0 → ((P_12_laysWays_0 M) ∧ (P_12_wing_33 x1 (F_12_laysWays_0 M)))) ∧ (¬ xs0 = 0 → True))
theorem T_12_wing_24 {g : Gl} (x1 : Int32) (xs0 : Int32) (M : Mem) (hp : P_12_wing_24 x1 xs0 M) : Rn g 2 m12_wing 24 [some (.ref 0), some (.int x1)] [.int xs0] M (some (.int (F_12_wing_24 x1 xs0 M).1)) ((F_12_wing_24 x1 xs0 M).2) := by
  rw [F_12_wing_24]
  rw [P_12_wing_24] at hp
  refine b12_wing_24  (fun h => ?_) (fun h => ?_)
  · rw [if_pos h]
    have hp := hp.1 h
    obtain ⟨hc, hp⟩ := hp
    refine b12_wing_29  (C_12_laysWays  M hc) (Nat.le_of_ble_eq_true rfl) ?_
    exact T_12_wing_33 x1 (F_12_laysWays_0 M) hp
  · rw [if_neg h]
    exact b12_wing_27  rfl rfl
def F_12_wing_19 (x1 : Int32) (xs0 : Int32) (M : Mem) : Int32 × Mem := F_12_wing_24 x1 ((F_12_bad_0 xs0 1 0 M).1) ((F_12_bad_0 xs0 1 0 M).2)
def P_12_wing_19 (x1 : Int32) (xs0 : Int32) (M : Mem) : Prop := ((P_12_bad_0 xs0 1 0 M) ∧ (P_12_wing_24 x1 ((F_12_bad_0 xs0 1 0 M).1) ((F_12_bad_0 xs0 1 0 M).2)))
theorem T_12_wing_19 {g : Gl} (x1 : Int32) (xs0 : Int32) (M : Mem) (hp : P_12_wing_19 x1 xs0 M) : Rn g 2 m12_wing 19 [some (.ref 0), some (.int x1)] [.int xs0, .ref 0] M (some (.int (F_12_wing_19 x1 xs0 M).1)) ((F_12_wing_19 x1 xs0 M).2) := by
  rw [F_12_wing_19]
  rw [P_12_wing_19] at hp
  obtain ⟨hc, hp⟩ := hp
  refine b12_wing_19  (C_12_bad xs0 1 0 M hc) (Nat.le_of_ble_eq_true rfl) ?_
  exact T_12_wing_24 x1 ((F_12_bad_0 xs0 1 0 M).1) ((F_12_bad_0 xs0 1 0 M).2) hp
def F_12_wing_0 (x1 : Int32) (M : Mem) : Int32 × Mem := if (F_12_isRoom_0 (wr M 0 0 0) x1) = 0 then (F_12_wing_19 x1 1 (wr M 0 0 0)) else (F_12_wing_19 x1 0 (wr M 0 0 0))
def P_12_wing_0 (x1 : Int32) (M : Mem) : Prop := ((P_12_isRoom_0 (wr M 0 0 0) x1) ∧ (((¬ (F_12_isRoom_0 (wr M 0 0 0) x1) = 0 → (P_12_wing_19 x1 0 (wr M 0 0 0))) ∧ ((F_12_isRoom_0 (wr M 0 0 0) x1) = 0 → (P_12_wing_19 x1 1 (wr M 0 0 0))))))
theorem T_12_wing_0 {g : Gl} (x1 : Int32) (M : Mem) (hp : P_12_wing_0 x1 M) : Rn g 2 m12_wing 0 [some (.ref 0), some (.int x1)] [] M (some (.int (F_12_wing_0 x1 M).1)) ((F_12_wing_0 x1 M).2) := by
  rw [F_12_wing_0]
  rw [P_12_wing_0] at hp
  obtain ⟨hc, hp⟩ := hp
  refine b12_wing_0  (C_12_isRoom x1 (wr M 0 0 0) hc) (Nat.le_of_ble_eq_true rfl) ?_
  refine b12_wing_11  (fun h => ?_) (fun h => ?_)
  · rw [if_neg h]
    have hp := hp.1 h
    refine b12_wing_18  ?_
    exact T_12_wing_19 x1 0 (wr M 0 0 0) hp
  · rw [if_pos h]
    have hp := hp.2 h
    refine b12_wing_14  ?_
    exact T_12_wing_19 x1 1 (wr M 0 0 0) hp
theorem C_12_wing {g : Gl}  (x1 : Int32) (M : Mem) (hp : P_12_wing_0 x1 M) : Ms g 2 m12_wing [.ref 0, .int x1] M (some (.int (F_12_wing_0 x1 M).1)) ((F_12_wing_0 x1 M).2) := Ms.of okM_m12_wing (Nat.le_of_ble_eq_true rfl) (R_wk (lc rfl (lc rfl l0)) (T_12_wing_0 x1 M hp))
def F_12_cuts_144 (k15 : Int32 → Int32 → Int32 → Mem → Int32 × Mem) (k66 : Int32 → Int32 → Int32 → Int32 → Int32 → Int32 → Int32 → Mem → Int32 × Mem) (x1 : Int32) (x2 : Int32) (x3 : Int32) (x4 : Int32) (x5 : Int32) (x6 : Int32) (x7 : Int32) (M : Mem) : Int32 × Mem := k66 x1 x2 x3 x4 x5 x6 (x7 + 1) M
def P_12_cuts_144 (pk15 : Int32 → Int32 → Int32 → Mem → Prop) (pk66 : Int32 → Int32 → Int32 → Int32 → Int32 → Int32 → Int32 → Mem → Prop) (x1 : Int32) (x2 : Int32) (x3 : Int32) (x4 : Int32) (x5 : Int32) (x6 : Int32) (x7 : Int32) (M : Mem) : Prop := (pk66 x1 x2 x3 x4 x5 x6 (x7 + 1) M)
theorem T_12_cuts_144 {g : Gl} (k15 : Int32 → Int32 → Int32 → Mem → Int32 × Mem) (k66 : Int32 → Int32 → Int32 → Int32 → Int32 → Int32 → Int32 → Mem → Int32 × Mem) (pk15 : Int32 → Int32 → Int32 → Mem → Prop) (pk66 : Int32 → Int32 → Int32 → Int32 → Int32 → Int32 → Int32 → Mem → Prop) (ih15 : ∀ (x1 : Int32) (x2 : Int32) (x3 : Int32) (M : Mem), pk15 x1 x2 x3 M → Rn g 2 m12_cuts 15 [some (.ref 0), some (.int x1), some (.int x2), some (.int x3), none, none, none, none] [] M (some (.int (k15 x1 x2 x3 M).1)) ((k15 x1 x2 x3 M).2)) (ih66 : ∀ (x1 : Int32) (x2 : Int32) (x3 : Int32) (x4 : Int32) (x5 : Int32) (x6 : Int32) (x7 : Int32) (M : Mem), pk66 x1 x2 x3 x4 x5 x6 x7 M → Rn g 2 m12_cuts 66 [some (.ref 0), some (.int x1), some (.int x2), some (.int x3), some (.int x4), some (.int x5), some (.int x6), some (.int x7)] [] M (some (.int (k66 x1 x2 x3 x4 x5 x6 x7 M).1)) ((k66 x1 x2 x3 x4 x5 x6 x7 M).2)) (x1 : Int32) (x2 : Int32) (x3 : Int32) (x4 : Int32) (x5 : Int32) (x6 : Int32) (x7 : Int32) (M : Mem) (hp : P_12_cuts_144 pk15 pk66 x1 x2 x3 x4 x5 x6 x7 M) : Rn g 2 m12_cuts 144 [some (.ref 0), some (.int x1), some (.int x2), some (.int x3), some (.int x4), some (.int x5), some (.int x6), some (.int x7)] [] M (some (.int (F_12_cuts_144 k15 k66 x1 x2 x3 x4 x5 x6 x7 M).1)) ((F_12_cuts_144 k15 k66 x1 x2 x3 x4 x5 x6 x7 M).2) := by
  rw [F_12_cuts_144]
  rw [P_12_cuts_144] at hp
  refine b12_cuts_144  ?_
  exact ih66 x1 x2 x3 x4 x5 x6 (x7 + 1) M hp
def F_12_cuts_142 (k15 : Int32 → Int32 → Int32 → Mem → Int32 × Mem) (k66 : Int32 → Int32 → Int32 → Int32 → Int32 → Int32 → Int32 → Mem → Int32 × Mem) (x1 : Int32) (x2 : Int32) (x3 : Int32) (x4 : Int32) (x5 : Int32) (x7 : Int32) (xs0 : Int32) (M : Mem) : Int32 × Mem := F_12_cuts_144 k15 k66 x1 x2 x3 x4 x5 xs0 x7 M
def P_12_cuts_142 (pk15 : Int32 → Int32 → Int32 → Mem → Prop) (pk66 : Int32 → Int32 → Int32 → Int32 → Int32 → Int32 → Int32 → Mem → Prop) (x1 : Int32) (x2 : Int32) (x3 : Int32) (x4 : Int32) (x5 : Int32) (x7 : Int32) (xs0 : Int32) (M : Mem) : Prop := (P_12_cuts_144 pk15 pk66 x1 x2 x3 x4 x5 xs0 x7 M)
theorem T_12_cuts_142 {g : Gl} (k15 : Int32 → Int32 → Int32 → Mem → Int32 × Mem) (k66 : Int32 → Int32 → Int32 → Int32 → Int32 → Int32 → Int32 → Mem → Int32 × Mem) (pk15 : Int32 → Int32 → Int32 → Mem → Prop) (pk66 : Int32 → Int32 → Int32 → Int32 → Int32 → Int32 → Int32 → Mem → Prop) (ih15 : ∀ (x1 : Int32) (x2 : Int32) (x3 : Int32) (M : Mem), pk15 x1 x2 x3 M → Rn g 2 m12_cuts 15 [some (.ref 0), some (.int x1), some (.int x2), some (.int x3), none, none, none, none] [] M (some (.int (k15 x1 x2 x3 M).1)) ((k15 x1 x2 x3 M).2)) (ih66 : ∀ (x1 : Int32) (x2 : Int32) (x3 : Int32) (x4 : Int32) (x5 : Int32) (x6 : Int32) (x7 : Int32) (M : Mem), pk66 x1 x2 x3 x4 x5 x6 x7 M → Rn g 2 m12_cuts 66 [some (.ref 0), some (.int x1), some (.int x2), some (.int x3), some (.int x4), some (.int x5), some (.int x6), some (.int x7)] [] M (some (.int (k66 x1 x2 x3 x4 x5 x6 x7 M).1)) ((k66 x1 x2 x3 x4 x5 x6 x7 M).2)) (x1 : Int32) (x2 : Int32) (x3 : Int32) (x4 : Int32) (x5 : Int32) (x7 : Int32) (xs0 : Int32) (M : Mem) (hp : P_12_cuts_142 pk15 pk66 x1 x2 x3 x4 x5 x7 xs0 M) : Rn g 2 m12_cuts 142 [some (.ref 0), some (.int x1), some (.int x2), some (.int x3), some (.int x4), some (.int x5), none, some (.int x7)] [.int xs0] M (some (.int (F_12_cuts_142 k15 k66 x1 x2 x3 x4 x5 x7 xs0 M).1)) ((F_12_cuts_142 k15 k66 x1 x2 x3 x4 x5 x7 xs0 M).2) := by
  rw [F_12_cuts_142]
  rw [P_12_cuts_142] at hp
  refine b12_cuts_142  ?_
  exact T_12_cuts_144 k15 k66 pk15 pk66 ih15 ih66 x1 x2 x3 x4 x5 xs0 x7 M hp
def F_12_cuts_141 (k15 : Int32 → Int32 → Int32 → Mem → Int32 × Mem) (k66 : Int32 → Int32 → Int32 → Int32 → Int32 → Int32 → Int32 → Mem → Int32 × Mem) (x1 : Int32) (x2 : Int32) (x3 : Int32) (x4 : Int32) (x5 : Int32) (x7 : Int32) (M : Mem) : Int32 × Mem := F_12_cuts_142 k15 k66 x1 x2 x3 x4 x5 x7 0 M
def P_12_cuts_141 (pk15 : Int32 → Int32 → Int32 → Mem → Prop) (pk66 : Int32 → Int32 → Int32 → Int32 → Int32 → Int32 → Int32 → Mem → Prop) (x1 : Int32) (x2 : Int32) (x3 : Int32) (x4 : Int32) (x5 : Int32) (x7 : Int32) (M : Mem) : Prop := (P_12_cuts_142 pk15 pk66 x1 x2 x3 x4 x5 x7 0 M)
theorem T_12_cuts_141 {g : Gl} (k15 : Int32 → Int32 → Int32 → Mem → Int32 × Mem) (k66 : Int32 → Int32 → Int32 → Int32 → Int32 → Int32 → Int32 → Mem → Int32 × Mem) (pk15 : Int32 → Int32 → Int32 → Mem → Prop) (pk66 : Int32 → Int32 → Int32 → Int32 → Int32 → Int32 → Int32 → Mem → Prop) (ih15 : ∀ (x1 : Int32) (x2 : Int32) (x3 : Int32) (M : Mem), pk15 x1 x2 x3 M → Rn g 2 m12_cuts 15 [some (.ref 0), some (.int x1), some (.int x2), some (.int x3), none, none, none, none] [] M (some (.int (k15 x1 x2 x3 M).1)) ((k15 x1 x2 x3 M).2)) (ih66 : ∀ (x1 : Int32) (x2 : Int32) (x3 : Int32) (x4 : Int32) (x5 : Int32) (x6 : Int32) (x7 : Int32) (M : Mem), pk66 x1 x2 x3 x4 x5 x6 x7 M → Rn g 2 m12_cuts 66 [some (.ref 0), some (.int x1), some (.int x2), some (.int x3), some (.int x4), some (.int x5), some (.int x6), some (.int x7)] [] M (some (.int (k66 x1 x2 x3 x4 x5 x6 x7 M).1)) ((k66 x1 x2 x3 x4 x5 x6 x7 M).2)) (x1 : Int32) (x2 : Int32) (x3 : Int32) (x4 : Int32) (x5 : Int32) (x7 : Int32) (M : Mem) (hp : P_12_cuts_141 pk15 pk66 x1 x2 x3 x4 x5 x7 M) : Rn g 2 m12_cuts 141 [some (.ref 0), some (.int x1), some (.int x2), some (.int x3), some (.int x4), some (.int x5), none, some (.int x7)] [] M (some (.int (F_12_cuts_141 k15 k66 x1 x2 x3 x4 x5 x7 M).1)) ((F_12_cuts_141 k15 k66 x1 x2 x3 x4 x5 x7 M).2) := by
  rw [F_12_cuts_141]
  rw [P_12_cuts_141] at hp
  refine b12_cuts_141  ?_
  exact T_12_cuts_142 k15 k66 pk15 pk66 ih15 ih66 x1 x2 x3 x4 x5 x7 0 M hp
def F_12_cuts_115 (k15 : Int32 → Int32 → Int32 → Mem → Int32 × Mem) (k66 : Int32 → Int32 → Int32 → Int32 → Int32 → Int32 → Int32 → Mem → Int32 × Mem) (x1 : Int32) (x2 : Int32) (x3 : Int32) (x4 : Int32) (x6 : Int32) (x7 : Int32) (xs0 : Int32) (M : Mem) : Int32 × Mem := if x6 = 0 then (F_12_cuts_141 k15 k66 x1 x2 x3 x4 xs0 x7 M) else (if (rd M (497 + x3.toNatClampNeg) x7.toNatClampNeg) < 999 then (F_12_cuts_141 k15 k66 x1 x2 x3 x4 xs0 x7 M) else (F_12_cuts_142 k15 k66 x1 x2 x3 x4 xs0 x7 1 M))
def P_12_cuts_115 (pk15 : Int32 → Int32 → Int32 → Mem → Prop) (pk66 : Int32 → Int32 → Int32 → Int32 → Int32 → Int32 → Int32 → Mem → Prop) (x1 : Int32) (x2 : Int32) (x3 : Int32) (x4 : Int32) (x6 : Int32) (x7 : Int32) (xs0 : Int32) (M : Mem) : Prop := ((x6 = 0 → P_12_cuts_141 pk15 pk66 x1 x2 x3 x4 xs0 x7 M) ∧ (¬ x6 = 0 → (vp_in x3 10) ∧ (vp_in x7 10) ∧ (((rd M (497 + x3.toNatClampNeg) x7.toNatClampNeg) < 999 → P_12_cuts_141 pk15 pk66 x1 x2 x3 x4 xs0 x7 M) ∧ (¬ (rd M (497 + x3.toNatClampNeg) x7.toNatClampNeg) < 999 → (P_12_cuts_142 pk15 pk66 x1 x2 x3 x4 xs0 x7 1 M)))))
theorem T_12_cuts_115 {g : Gl} (k15 : Int32 → Int32 → Int32 → Mem → Int32 × Mem) (k66 : Int32 → Int32 → Int32 → Int32 → Int32 → Int32 → Int32 → Mem → Int32 × Mem) (pk15 : Int32 → Int32 → Int32 → Mem → Prop) (pk66 : Int32 → Int32 → Int32 → Int32 → Int32 → Int32 → Int32 → Mem → Prop) (ih15 : ∀ (x1 : Int32) (x2 : Int32) (x3 : Int32) (M : Mem), pk15 x1 x2 x3 M → Rn g 2 m12_cuts 15 [some (.ref 0), some (.int x1), some (.int x2), some (.int x3), none, none, none, none] [] M (some (.int (k15 x1 x2 x3 M).1)) ((k15 x1 x2 x3 M).2)) (ih66 : ∀ (x1 : Int32) (x2 : Int32) (x3 : Int32) (x4 : Int32) (x5 : Int32) (x6 : Int32) (x7 : Int32) (M : Mem), pk66 x1 x2 x3 x4 x5 x6 x7 M → Rn g 2 m12_cuts 66 [some (.ref 0), some (.int x1), some (.int x2), some (.int x3), some (.int x4), some (.int x5), some (.int x6), some (.int x7)] [] M (some (.int (k66 x1 x2 x3 x4 x5 x6 x7 M).1)) ((k66 x1 x2 x3 x4 x5 x6 x7 M).2)) (x1 : Int32) (x2 : Int32) (x3 : Int32) (x4 : Int32) (x6 : Int32) (x7 : Int32) (xs0 : Int32) (M : Mem) (hp : P_12_cuts_115 pk15 pk66 x1 x2 x3 x4 x6 x7 xs0 M) : Rn g 2 m12_cuts 115 [some (.ref 0), some (.int x1), some (.int x2), some (.int x3), some (.int x4), none, some (.int x6), some (.int x7)] [.int xs0] M (some (.int (F_12_cuts_115 k15 k66 x1 x2 x3 x4 x6 x7 xs0 M).1)) ((F_12_cuts_115 k15 k66 x1 x2 x3 x4 x6 x7 xs0 M).2) := by
  rw [F_12_cuts_115]
  rw [P_12_cuts_115] at hp
  refine b12_cuts_115  (fun h => ?_) (fun h => ?_)
  · rw [if_pos h]
    have hp := hp.1 h
    exact T_12_cuts_141 k15 k66 pk15 pk66 ih15 ih66 x1 x2 x3 x4 xs0 x7 M hp
  · rw [if_neg h]
    have hp := hp.2 h
    obtain ⟨p0, p1, hp⟩ := hp
    refine b12_cuts_122 p0 p1 (fun h => ?_) (fun h => ?_)
    · rw [if_pos h]
      have hp := hp.1 h
      exact T_12_cuts_141 k15 k66 pk15 pk66 ih15 ih66 x1 x2 x3 x4 xs0 x7 M hp
    · rw [if_neg h]
      have hp := hp.2 h
      refine b12_cuts_137  ?_
      exact T_12_cuts_142 k15 k66 pk15 pk66 ih15 ih66 x1 x2 x3 x4 xs0 x7 1 M hp
def F_12_cuts_114 (k15 : Int32 → Int32 → Int32 → Mem → Int32 × Mem) (k66 : Int32 → Int32 → Int32 → Int32 → Int32 → Int32 → Int32 → Mem → Int32 × Mem) (x1 : Int32) (x2 : Int32) (x3 : Int32) (x4 : Int32) (x6 : Int32) (x7 : Int32) (M : Mem) : Int32 × Mem := F_12_cuts_115 k15 k66 x1 x2 x3 x4 x6 x7 0 M
def P_12_cuts_114 (pk15 : Int32 → Int32 → Int32 → Mem → Prop) (pk66 : Int32 → Int32 → Int32 → Int32 → Int32 → Int32 → Int32 → Mem → Prop) (x1 : Int32) (x2 : Int32) (x3 : Int32) (x4 : Int32) (x6 : Int32) (x7 : Int32) (M : Mem) : Prop := (P_12_cuts_115 pk15 pk66 x1 x2 x3 x4 x6 x7 0 M)
theorem T_12_cuts_114 {g : Gl} (k15 : Int32 → Int32 → Int32 → Mem → Int32 × Mem) (k66 : Int32 → Int32 → Int32 → Int32 → Int32 → Int32 → Int32 → Mem → Int32 × Mem) (pk15 : Int32 → Int32 → Int32 → Mem → Prop) (pk66 : Int32 → Int32 → Int32 → Int32 → Int32 → Int32 → Int32 → Mem → Prop) (ih15 : ∀ (x1 : Int32) (x2 : Int32) (x3 : Int32) (M : Mem), pk15 x1 x2 x3 M → Rn g 2 m12_cuts 15 [some (.ref 0), some (.int x1), some (.int x2), some (.int x3), none, none, none, none] [] M (some (.int (k15 x1 x2 x3 M).1)) ((k15 x1 x2 x3 M).2)) (ih66 : ∀ (x1 : Int32) (x2 : Int32) (x3 : Int32) (x4 : Int32) (x5 : Int32) (x6 : Int32) (x7 : Int32) (M : Mem), pk66 x1 x2 x3 x4 x5 x6 x7 M → Rn g 2 m12_cuts 66 [some (.ref 0), some (.int x1), some (.int x2), some (.int x3), some (.int x4), some (.int x5), some (.int x6), some (.int x7)] [] M (some (.int (k66 x1 x2 x3 x4 x5 x6 x7 M).1)) ((k66 x1 x2 x3 x4 x5 x6 x7 M).2)) (x1 : Int32) (x2 : Int32) (x3 : Int32) (x4 : Int32) (x6 : Int32) (x7 : Int32) (M : Mem) (hp : P_12_cuts_114 pk15 pk66 x1 x2 x3 x4 x6 x7 M) : Rn g 2 m12_cuts 114 [some (.ref 0), some (.int x1), some (.int x2), some (.int x3), some (.int x4), none, some (.int x6), some (.int x7)] [] M (some (.int (F_12_cuts_114 k15 k66 x1 x2 x3 x4 x6 x7 M).1)) ((F_12_cuts_114 k15 k66 x1 x2 x3 x4 x6 x7 M).2) := by
  rw [F_12_cuts_114]
  rw [P_12_cuts_114] at hp
  refine b12_cuts_114  ?_
  exact T_12_cuts_115 k15 k66 pk15 pk66 ih15 ih66 x1 x2 x3 x4 x6 x7 0 M hp
def F_12_cuts_176 (k15 : Int32 → Int32 → Int32 → Mem → Int32 × Mem) (x1 : Int32) (x2 : Int32) (x3 : Int32) (M : Mem) : Int32 × Mem := k15 x1 x2 (x3 + 1) M
def P_12_cuts_176 (pk15 : Int32 → Int32 → Int32 → Mem → Prop) (x1 : Int32) (x2 : Int32) (x3 : Int32) (M : Mem) : Prop := (pk15 x1 x2 (x3 + 1) M)
theorem T_12_cuts_176 {g : Gl} (k15 : Int32 → Int32 → Int32 → Mem → Int32 × Mem) (pk15 : Int32 → Int32 → Int32 → Mem → Prop) (ih15 : ∀ (x1 : Int32) (x2 : Int32) (x3 : Int32) (M : Mem), pk15 x1 x2 x3 M → Rn g 2 m12_cuts 15 [some (.ref 0), some (.int x1), some (.int x2), some (.int x3), none, none, none, none] [] M (some (.int (k15 x1 x2 x3 M).1)) ((k15 x1 x2 x3 M).2)) (x1 : Int32) (x2 : Int32) (x3 : Int32) (M : Mem) (hp : P_12_cuts_176 pk15 x1 x2 x3 M) : Rn g 2 m12_cuts 176 [some (.ref 0), some (.int x1), some (.int x2), some (.int x3), none, none, none, none] [] M (some (.int (F_12_cuts_176 k15 x1 x2 x3 M).1)) ((F_12_cuts_176 k15 x1 x2 x3 M).2) := by
  rw [F_12_cuts_176]
  rw [P_12_cuts_176] at hp
  refine b12_cuts_176  ?_
  exact ih15 x1 x2 (x3 + 1) M hp
def F_12_cuts_174 (k15 : Int32 → Int32 → Int32 → Mem → Int32 × Mem) (x1 : Int32) (x3 : Int32) (xs0 : Int32) (xs1 : Int32) (M : Mem) : Int32 × Mem := F_12_cuts_176 k15 x1 (xs1 + xs0) x3 M
def P_12_cuts_174 (pk15 : Int32 → Int32 → Int32 → Mem → Prop) (x1 : Int32) (x3 : Int32) (xs0 : Int32) (xs1 : Int32) (M : Mem) : Prop := (P_12_cuts_176 pk15 x1 (xs1 + xs0) x3 M)
theorem T_12_cuts_174 {g : Gl} (k15 : Int32 → Int32 → Int32 → Mem → Int32 × Mem) (pk15 : Int32 → Int32 → Int32 → Mem → Prop) (ih15 : ∀ (x1 : Int32) (x2 : Int32) (x3 : Int32) (M : Mem), pk15 x1 x2 x3 M → Rn g 2 m12_cuts 15 [some (.ref 0), some (.int x1), some (.int x2), some (.int x3), none, none, none, none] [] M (some (.int (k15 x1 x2 x3 M).1)) ((k15 x1 x2 x3 M).2)) (x1 : Int32) (x3 : Int32) (xs0 : Int32) (xs1 : Int32) (M : Mem) (hp : P_12_cuts_174 pk15 x1 x3 xs0 xs1 M) : Rn g 2 m12_cuts 174 [some (.ref 0), some (.int x1), none, some (.int x3), none, none, none, none] [.int xs0, .int xs1] M (some (.int (F_12_cuts_174 k15 x1 x3 xs0 xs1 M).1)) ((F_12_cuts_174 k15 x1 x3 xs0 xs1 M).2) := by
  rw [F_12_cuts_174]
  rw [P_12_cuts_174] at hp
  refine b12_cuts_174  ?_
  exact T_12_cuts_176 k15 pk15 ih15 x1 (xs1 + xs0) x3 M hp
def F_12_cuts_161 (k15 : Int32 → Int32 → Int32 → Mem → Int32 × Mem) (x2 : Int32) (x3 : Int32) (x6 : Int32) (xs0 : Int32) (xs1 : Int32) (M : Mem) : Int32 × Mem := if x6 = 0 then (F_12_cuts_174 k15 (xs1 + xs0) x3 0 x2 M) else (F_12_cuts_174 k15 (xs1 + xs0) x3 1 x2 M)
def P_12_cuts_161 (pk15 : Int32 → Int32 → Int32 → Mem → Prop) (x2 : Int32) (x3 : Int32) (x6 : Int32) (xs0 : Int32) (xs1 : Int32) (M : Mem) : Prop := ((x6 = 0 → (P_12_cuts_174 pk15 (xs1 + xs0) x3 0 x2 M)) ∧ (¬ x6 = 0 → (P_12_cuts_174 pk15 (xs1 + xs0) x3 1 x2 M)))
theorem T_12_cuts_161 {g : Gl} (k15 : Int32 → Int32 → Int32 → Mem → Int32 × Mem) (pk15 : Int32 → Int32 → Int32 → Mem → Prop) (ih15 : ∀ (x1 : Int32) (x2 : Int32) (x3 : Int32) (M : Mem), pk15 x1 x2 x3 M → Rn g 2 m12_cuts 15 [some (.ref 0), some (.int x1), some (.int x2), some (.int x3), none, none, none, none] [] M (some (.int (k15 x1 x2 x3 M).1)) ((k15 x1 x2 x3 M).2)) (x2 : Int32) (x3 : Int32) (x6 : Int32) (xs0 : Int32) (xs1 : Int32) (M : Mem) (hp : P_12_cuts_161 pk15 x2 x3 x6 xs0 xs1 M) : Rn g 2 m12_cuts 161 [some (.ref 0), none, some (.int x2), some (.int x3), none, none, some (.int x6), none] [.int xs0, .int xs1] M (some (.int (F_12_cuts_161 k15 x2 x3 x6 xs0 xs1 M).1)) ((F_12_cuts_161 k15 x2 x3 x6 xs0 xs1 M).2) := by
  rw [F_12_cuts_161]
  rw [P_12_cuts_161] at hp
  refine b12_cuts_161  (fun h => ?_) (fun h => ?_)
  · rw [if_pos h]
    have hp := hp.1 h
    refine b12_cuts_173  ?_
    exact T_12_cuts_174 k15 pk15 ih15 (xs1 + xs0) x3 0 x2 M hp
  · rw [if_neg h]
    have hp := hp.2 h
    refine b12_cuts_169  ?_
    exact T_12_cuts_174 k15 pk15 ih15 (xs1 + xs0) x3 1 x2 M hp
def F_12_cuts_66 (k15 : Int32 → Int32 → Int32 → Mem → Int32 × Mem) : Nat → Int32 → Int32 → Int32 → Int32 → Int32 → Int32 → Int32 → Mem → Int32 × Mem
  | 0, _, _, _, _, _, _, _, M => (0, M)
  | n + 1, x1, x2, x3, x4, x5, x6, x7, M => if (rd M 4 ((0 : Int32).toNatClampNeg)) ≤ x7 then (if x5 = 0 then (F_12_cuts_161 k15 x2 x3 x6 0 x1 M) else (F_12_cuts_161 k15 x2 x3 x6 1 x1 M)) else (if (F_12_has_0 M x4 x7) = 0 then (if x5 = 0 then (F_12_cuts_114 k15 (F_12_cuts_66 k15 n) x1 x2 x3 x4 x6 x7 M) else (if (rd M (497 + x7.toNatClampNeg) x3.toNatClampNeg) < 999 then (F_12_cuts_114 k15 (F_12_cuts_66 k15 n) x1 x2 x3 x4 x6 x7 M) else (F_12_cuts_115 k15 (F_12_cuts_66 k15 n) x1 x2 x3 x4 x6 x7 1 M))) else (F_12_cuts_144 k15 (F_12_cuts_66 k15 n) x1 x2 x3 x4 x5 x6 x7 M))
def P_12_cuts_66 (pk15 : Int32 → Int32 → Int32 → Mem → Prop) : Nat → Int32 → Int32 → Int32 → Int32 → Int32 → Int32 → Int32 → Mem → Prop
  | 0, _, _, _, _, _, _, _, _ => False
  | n + 1, x1, x2, x3, x4, x5, x6, x7, M => (((rd M 4 ((0 : Int32).toNatClampNeg)) ≤ x7 → ((x5 = 0 → (P_12_cuts_161 pk15 x2 x3 x6 0 x1 M)) ∧ (¬ x5 = 0 → (P_12_cuts_161 pk15 x2 x3 x6 1 x1 M)))) ∧ (¬ (rd M 4 ((0 : Int32).toNatClampNeg)) ≤ x7 → (((((F_12_has_0 M x4 x7) = 0 → ((x5 = 0 → P_12_cuts_114 pk15 (P_12_cuts_66 pk15 n) x1 x2 x3 x4 x6 x7 M) ∧ (¬ x5 = 0 → (vp_in x7 10) ∧ (vp_in x3 10) ∧ (((rd M (497 + x7.toNatClampNeg) x3.toNatClampNeg) < 999 → P_12_cuts_114 pk15 (P_12_cuts_66 pk15 n) x1 x2 x3 x4 x6 x7 M) ∧ (¬ (rd M (497 + x7.toNatClampNeg) x3.toNatClampNeg) < 999 → (P_12_cuts_115 pk15 (P_12_cuts_66 pk15 n) x1 x2 x3 x4 x6 x7 1 M)))))) ∧ (¬ (F_12_has_0 M x4 x7) = 0 → (P_12_cuts_144 pk15 (P_12_cuts_66 pk15 n) x1 x2 x3 x4 x5 x6 x7 M)))))))
theorem T_12_cuts_66 {g : Gl} (k15 : Int32 → Int32 → Int32 → Mem → Int32 × Mem) (pk15 : Int32 → Int32 → Int32 → Mem → Prop) (ih15 : ∀ (x1 : Int32) (x2 : Int32) (x3 : Int32) (M : Mem), pk15 x1 x2 x3 M → Rn g 2 m12_cuts 15 [some (.ref 0), some (.int x1), some (.int x2), some (.int x3), none, none, none, none] [] M (some (.int (k15 x1 x2 x3 M).1)) ((k15 x1 x2 x3 M).2)) : ∀ (n : Nat) (x1 : Int32) (x2 : Int32) (x3 : Int32) (x4 : Int32) (x5 : Int32) (x6 : Int32) (x7 : Int32) (M : Mem) (hp : P_12_cuts_66 pk15 n x1 x2 x3 x4 x5 x6 x7 M), Rn g 2 m12_cuts 66 [some (.ref 0), some (.int x1), some (.int x2), some (.int x3), some (.int x4), some (.int x5), some (.int x6), some (.int x7)] [] M (some (.int (F_12_cuts_66 k15 n x1 x2 x3 x4 x5 x6 x7 M).1)) ((F_12_cuts_66 k15 n x1 x2 x3 x4 x5 x6 x7 M).2) := by
  intro n
  induction n with
  | zero => intro x1 x2 x3 x4 x5 x6 x7 M hp; exact hp.elim
  | succ n ih =>
    intro x1 x2 x3 x4 x5 x6 x7 M hp
    rw [F_12_cuts_66]
    rw [P_12_cuts_66] at hp
    refine b12_cuts_66 (vpl (by decide)) (fun h => ?_) (fun h => ?_)
    · rw [if_pos h]
      have hp := hp.1 h
      refine b12_cuts_150  (fun h => ?_) (fun h => ?_)
      · rw [if_pos h]
        have hp := hp.1 h
        refine b12_cuts_160  ?_
        exact T_12_cuts_161 k15 pk15 ih15 x2 x3 x6 0 x1 M hp
      · rw [if_neg h]
        have hp := hp.2 h
        refine b12_cuts_156  ?_
        exact T_12_cuts_161 k15 pk15 ih15 x2 x3 x6 1 x1 M hp
    · rw [if_neg h]
      have hp := hp.2 h
      refine b12_cuts_77  (C_12_has x4 x7 M) (Nat.le_of_ble_eq_true rfl) ?_
      refine b12_cuts_84  (fun h => ?_) (fun h => ?_)
      · rw [if_pos h]
        have hp := hp.1 h
        refine b12_cuts_90  (fun h => ?_) (fun h => ?_)
        · rw [if_pos h]
          have hp := hp.1 h
          exact T_12_cuts_114 k15 (F_12_cuts_66 k15 n) pk15 (P_12_cuts_66 pk15 n) ih15 ih x1 x2 x3 x4 x6 x7 M hp
        · rw [if_neg h]
          have hp := hp.2 h
          obtain ⟨p0, p1, hp⟩ := hp
          refine b12_cuts_95 p0 p1 (fun h => ?_) (fun h => ?_)
          · rw [if_pos h]
            have hp := hp.1 h
            exact T_12_cuts_114 k15 (F_12_cuts_66 k15 n) pk15 (P_12_cuts_66 pk15 n) ih15 ih x1 x2 x3 x4 x6 x7 M hp
          · rw [if_neg h]
            have hp := hp.2 h
            refine b12_cuts_110  ?_
            exact T_12_cuts_115 k15 (F_12_cuts_66 k15 n) pk15 (P_12_cuts_66 pk15 n) ih15 ih x1 x2 x3 x4 x6 x7 1 M hp
      · rw [if_neg h]
        have hp := hp.2 h
        refine b12_cuts_87  ?_
        exact T_12_cuts_144 k15 (F_12_cuts_66 k15 n) pk15 (P_12_cuts_66 pk15 n) ih15 ih x1 x2 x3 x4 x5 x6 x7 M hp
def F_12_cuts_15  : Nat → Int32 → Int32 → Int32 → Mem → Int32 × Mem
  | 0, _, _, _, M => (0, M)
  | n + 1, x1, x2, x3, M => if (rd M 4 ((0 : Int32).toNatClampNeg)) ≤ x3 then (((F_12_more_0 M x1 x2), M)) else (if ((F_12_wingOf_0 M x3) &&& (((1 : Int32) <<< (x3 &&& 31)) - 1)) = 0 then (if (F_12_wingOf_0 M x3) = (F_12_allRooms_0 M) then ((0, M)) else (F_12_cuts_66 (F_12_cuts_15 n) FU x1 x2 x3 (F_12_wingOf_0 M x3) 1 1 0 M)) else (F_12_cuts_176 (F_12_cuts_15 n) x1 x2 x3 M))
def P_12_cuts_15  : Nat → Int32 → Int32 → Int32 → Mem → Prop
  | 0, _, _, _, _ => False
  | n + 1, x1, x2, x3, M => (((rd M 4 ((0 : Int32).toNatClampNeg)) ≤ x3 → True) ∧ (¬ (rd M 4 ((0 : Int32).toNatClampNeg)) ≤ x3 → ((P_12_wingOf_0 M x3) ∧ (((((F_12_wingOf_0 M x3) &&& (((1 : Int32) <<< (x3 &&& 31)) - 1)) = 0 → ((((¬ (F_12_wingOf_0 M x3) = (F_12_allRooms_0 M) → (P_12_cuts_66 (P_12_cuts_15 n) FU x1 x2 x3 (F_12_wingOf_0 M x3) 1 1 0 M)) ∧ ((F_12_wingOf_0 M x3) = (F_12_allRooms_0 M) → True))))) ∧ (¬ ((F_12_wingOf_0 M x3) &&& (((1 : Int32) <<< (x3 &&& 31)) - 1)) = 0 → (P_12_cuts_176 (P_12_cuts_15 n) x1 x2 x3 M)))))))
theorem T_12_cuts_15 {g : Gl} : ∀ (n : Nat) (x1 : Int32) (x2 : Int32) (x3 : Int32) (M : Mem) (hp : P_12_cuts_15 n x1 x2 x3 M), Rn g 2 m12_cuts 15 [some (.ref 0), some (.int x1), some (.int x2), some (.int x3), none, none, none, none] [] M (some (.int (F_12_cuts_15 n x1 x2 x3 M).1)) ((F_12_cuts_15 n x1 x2 x3 M).2) := by
  intro n
  induction n with
  | zero => intro x1 x2 x3 M hp; exact hp.elim
  | succ n ih =>
    intro x1 x2 x3 M hp
    rw [F_12_cuts_15]
    rw [P_12_cuts_15] at hp
    refine b12_cuts_15 (vpl (by decide)) (fun h => ?_) (fun h => ?_)
    · rw [if_pos h]
      refine b12_cuts_182  (C_12_more x1 x2 M) (Nat.le_of_ble_eq_true rfl) ?_
      exact b12_cuts_187  rfl rfl
    · rw [if_neg h]
      have hp := hp.2 h
      obtain ⟨hc, hp⟩ := hp
      refine b12_cuts_25  (C_12_wingOf x3 M hc) (Nat.le_of_ble_eq_true rfl) ?_
      refine b12_cuts_30  (fun h => ?_) (fun h => ?_)
      · rw [if_pos h]
        have hp := hp.1 h
        refine b12_cuts_52  (C_12_allRooms  M) (Nat.le_of_ble_eq_true rfl) ?_
        refine b12_cuts_58  (fun h => ?_) (fun h => ?_)
        · rw [if_neg h]
          have hp := hp.1 h
          refine b12_cuts_63  ?_
          exact T_12_cuts_66 (F_12_cuts_15 n) (P_12_cuts_15 n) ih FU x1 x2 x3 (F_12_wingOf_0 M x3) 1 1 0 M hp
        · rw [if_pos h]
          exact b12_cuts_61  rfl rfl
      · rw [if_neg h]
        have hp := hp.2 h
        refine b12_cuts_49  ?_
        exact T_12_cuts_176 (F_12_cuts_15 n) (P_12_cuts_15 n) ih x1 x2 x3 M hp
def F_12_cuts_13 (x1 : Int32) (x2 : Int32) (M : Mem) : Int32 × Mem := F_12_cuts_15 FU x1 x2 0 M
def P_12_cuts_13 (x1 : Int32) (x2 : Int32) (M : Mem) : Prop := (P_12_cuts_15 FU x1 x2 0 M)
theorem T_12_cuts_13 {g : Gl} (x1 : Int32) (x2 : Int32) (M : Mem) (hp : P_12_cuts_13 x1 x2 M) : Rn g 2 m12_cuts 13 [some (.ref 0), some (.int x1), some (.int x2), none, none, none, none, none] [] M (some (.int (F_12_cuts_13 x1 x2 M).1)) ((F_12_cuts_13 x1 x2 M).2) := by
  rw [F_12_cuts_13]
  rw [P_12_cuts_13] at hp
  refine b12_cuts_13  ?_
  exact T_12_cuts_15 FU x1 x2 0 M hp
def F_12_cuts_0 (M : Mem) : Int32 × Mem := F_12_cuts_13 0 0 (F_12_laysWays_0 (wr M 0 0 0))
def P_12_cuts_0 (M : Mem) : Prop := ((P_12_laysWays_0 (wr M 0 0 0)) ∧ (P_12_cuts_13 0 0 (F_12_laysWays_0 (wr M 0 0 0))))
theorem T_12_cuts_0 {g : Gl} (M : Mem) (hp : P_12_cuts_0 M) : Rn g 2 m12_cuts 0 [some (.ref 0), none, none, none, none, none, none, none] [] M (some (.int (F_12_cuts_0 M).1)) ((F_12_cuts_0 M).2) := by
  rw [F_12_cuts_0]
  rw [P_12_cuts_0] at hp
  obtain ⟨hc, hp⟩ := hp
  refine b12_cuts_0  (C_12_laysWays  (wr M 0 0 0) hc) (Nat.le_of_ble_eq_true rfl) ?_
  exact T_12_cuts_13 0 0 (F_12_laysWays_0 (wr M 0 0 0)) hp
theorem C_12_cuts {g : Gl}   (M : Mem) (hp : P_12_cuts_0 M) : Ms g 2 m12_cuts [.ref 0] M (some (.int (F_12_cuts_0 M).1)) ((F_12_cuts_0 M).2) := Ms.of okM_m12_cuts (Nat.le_of_ble_eq_true rfl) (R_wk (lc rfl (ln (ln (ln (ln (ln (ln (ln l0)))))))) (T_12_cuts_0 M hp))
def F_12_laysRounds_16 (k6 : Int32 → Int32 → Mem → Mem) : Nat → Int32 → Int32 → Int32 → Mem → Mem
  | 0, _, _, _, M => M
  | n + 1, x1, x2, x3, M => if (rd M 4 ((0 : Int32).toNatClampNeg)) ≤ x3 then (k6 x1 (x2 + 1) M) else ((F_12_laysRounds_16 k6 n) x1 x2 (x3 + 1) (wr M (533 + x2.toNatClampNeg) x3.toNatClampNeg 999))
def P_12_laysRounds_16 (pk6 : Int32 → Int32 → Mem → Prop) : Nat → Int32 → Int32 → Int32 → Mem → Prop
  | 0, _, _, _, _ => False
  | n + 1, x1, x2, x3, M => (((rd M 4 ((0 : Int32).toNatClampNeg)) ≤ x3 → (pk6 x1 (x2 + 1) M)) ∧ (¬ (rd M 4 ((0 : Int32).toNatClampNeg)) ≤ x3 → (vp_in x2 1024) ∧ (vp_in x3 10) ∧ ((P_12_laysRounds_16 pk6 n) x1 x2 (x3 + 1) (wr M (533 + x2.toNatClampNeg) x3.toNatClampNeg 999))))
theorem T_12_laysRounds_16 {g : Gl} (k6 : Int32 → Int32 → Mem → Mem) (pk6 : Int32 → Int32 → Mem → Prop) (ih6 : ∀ (x1 : Int32) (x2 : Int32) (M : Mem), pk6 x1 x2 M → Rn g 2 m12_laysRounds 6 [some (.ref 0), some (.int x1), some (.int x2), none, none] [] M (none) ((k6 x1 x2 M))) : ∀ (n : Nat) (x1 : Int32) (x2 : Int32) (x3 : Int32) (M : Mem) (hp : P_12_laysRounds_16 pk6 n x1 x2 x3 M), Rn g 2 m12_laysRounds 16 [some (.ref 0), some (.int x1), some (.int x2), some (.int x3), none] [] M (none) ((F_12_laysRounds_16 k6 n x1 x2 x3 M)) := by
  intro n
  induction n with
  | zero => intro x1 x2 x3 M hp; exact hp.elim
  | succ n ih =>
    intro x1 x2 x3 M hp
    rw [F_12_laysRounds_16]
    rw [P_12_laysRounds_16] at hp
    refine b12_laysRounds_16 (vpl (by decide)) (fun h => ?_) (fun h => ?_)
    · rw [if_pos h]
      have hp := hp.1 h
      refine b12_laysRounds_43  ?_
      exact ih6 x1 (x2 + 1) M hp
    · rw [if_neg h]
      have hp := hp.2 h
      obtain ⟨p0, p1, hp⟩ := hp
      refine b12_laysRounds_26 p0 p1 ?_
      exact ih x1 x2 (x3 + 1) (wr M (533 + x2.toNatClampNeg) x3.toNatClampNeg 999) hp
def F_12_laysRounds_171 (k62 : Int32 → Mem → Mem) (k72 : Int32 → Int32 → Mem → Mem) (k102 : Int32 → Int32 → Int32 → Mem → Mem) (x2 : Int32) (x3 : Int32) (x4 : Int32) (M : Mem) : Mem := k102 x2 x3 (x4 + 1) M
def P_12_laysRounds_171 (pk62 : Int32 → Mem → Prop) (pk72 : Int32 → Int32 → Mem → Prop) (pk102 : Int32 → Int32 → Int32 → Mem → Prop) (x2 : Int32) (x3 : Int32) (x4 : Int32) (M : Mem) : Prop := (pk102 x2 x3 (x4 + 1) M)
theorem T_12_laysRounds_171 {g : Gl} (k62 : Int32 → Mem → Mem) (k72 : Int32 → Int32 → Mem → Mem) (k102 : Int32 → Int32 → Int32 → Mem → Mem) (pk62 : Int32 → Mem → Prop) (pk72 : Int32 → Int32 → Mem → Prop) (pk102 : Int32 → Int32 → Int32 → Mem → Prop) (ih62 : ∀ (x2 : Int32) (M : Mem), pk62 x2 M → Rn g 2 m12_laysRounds 62 [some (.ref 0), none, some (.int x2), none, none] [] M (none) ((k62 x2 M))) (ih72 : ∀ (x2 : Int32) (x3 : Int32) (M : Mem), pk72 x2 x3 M → Rn g 2 m12_laysRounds 72 [some (.ref 0), none, some (.int x2), some (.int x3), none] [] M (none) ((k72 x2 x3 M))) (ih102 : ∀ (x2 : Int32) (x3 : Int32) (x4 : Int32) (M : Mem), pk102 x2 x3 x4 M → Rn g 2 m12_laysRounds 102 [some (.ref 0), none, some (.int x2), some (.int x3), some (.int x4)] [] M (none) ((k102 x2 x3 x4 M))) (x2 : Int32) (x3 : Int32) (x4 : Int32) (M : Mem) (hp : P_12_laysRounds_171 pk62 pk72 pk102 x2 x3 x4 M) : Rn g 2 m12_laysRounds 171 [some (.ref 0), none, some (.int x2), some (.int x3), some (.int x4)] [] M (none) ((F_12_laysRounds_171 k62 k72 k102 x2 x3 x4 M)) := by
  rw [F_12_laysRounds_171]
  rw [P_12_laysRounds_171] at hp
  refine b12_laysRounds_171  ?_
  exact ih102 x2 x3 (x4 + 1) M hp
def F_12_laysRounds_177 (k62 : Int32 → Mem → Mem) (k72 : Int32 → Int32 → Mem → Mem) (x2 : Int32) (x3 : Int32) (M : Mem) : Mem := k72 x2 (x3 + 1) M
def P_12_laysRounds_177 (pk62 : Int32 → Mem → Prop) (pk72 : Int32 → Int32 → Mem → Prop) (x2 : Int32) (x3 : Int32) (M : Mem) : Prop := (pk72 x2 (x3 + 1) M)
theorem T_12_laysRounds_177 {g : Gl} (k62 : Int32 → Mem → Mem) (k72 : Int32 → Int32 → Mem → Mem) (pk62 : Int32 → Mem → Prop) (pk72 : Int32 → Int32 → Mem → Prop) (ih62 : ∀ (x2 : Int32) (M : Mem), pk62 x2 M → Rn g 2 m12_laysRounds 62 [some (.ref 0), none, some (.int x2), none, none] [] M (none) ((k62 x2 M))) (ih72 : ∀ (x2 : Int32) (x3 : Int32) (M : Mem), pk72 x2 x3 M → Rn g 2 m12_laysRounds 72 [some (.ref 0), none, some (.int x2), some (.int x3), none] [] M (none) ((k72 x2 x3 M))) (x2 : Int32) (x3 : Int32) (M : Mem) (hp : P_12_laysRounds_177 pk62 pk72 x2 x3 M) : Rn g 2 m12_laysRounds 177 [some (.ref 0), none, some (.int x2), some (.int x3), none] [] M (none) ((F_12_laysRounds_177 k62 k72 x2 x3 M)) := by
  rw [F_12_laysRounds_177]
  rw [P_12_laysRounds_177] at hp
  refine b12_laysRounds_177  ?_
  exact ih72 x2 (x3 + 1) M hp
def F_12_laysRounds_102 (k62 : Int32 → Mem → Mem) (k72 : Int32 → Int32 → Mem → Mem) : Nat → Int32 → Int32 → Int32 → Mem → Mem
  | 0, _, _, _, M => M
  | n + 1, x2, x3, x4, M => if (rd M 4 ((0 : Int32).toNatClampNeg)) ≤ x4 then (F_12_laysRounds_177 k62 k72 x2 x3 M) else (if (F_12_has_0 M x2 x4) = 0 then (F_12_laysRounds_171 k62 k72 (F_12_laysRounds_102 k62 k72 n) x2 x3 x4 (wr M (533 + ((x2 ||| ((1 : Int32) <<< (x4 &&& 31))).toNatClampNeg)) x4.toNatClampNeg (F_12_less_0 M (rd M (533 + (x2 ||| ((1 : Int32) <<< (x4 &&& 31))).toNatClampNeg) x4.toNatClampNeg) ((rd M (533 + x2.toNatClampNeg) x3.toNatClampNeg) + (rd M (497 + x3.toNatClampNeg) x4.toNatClampNeg))))) else (F_12_laysRounds_171 k62 k72 (F_12_laysRounds_102 k62 k72 n) x2 x3 x4 M))
def P_12_laysRounds_102 (pk62 : Int32 → Mem → Prop) (pk72 : Int32 → Int32 → Mem → Prop) : Nat → Int32 → Int32 → Int32 → Mem → Prop
  | 0, _, _, _, _ => False
  | n + 1, x2, x3, x4, M => (((rd M 4 ((0 : Int32).toNatClampNeg)) ≤ x4 → P_12_laysRounds_177 pk62 pk72 x2 x3 M) ∧ (¬ (rd M 4 ((0 : Int32).toNatClampNeg)) ≤ x4 → ((((¬ (F_12_has_0 M x2 x4) = 0 → P_12_laysRounds_171 pk62 pk72 (P_12_laysRounds_102 pk62 pk72 n) x2 x3 x4 M) ∧ ((F_12_has_0 M x2 x4) = 0 → (vp_in (x2 ||| ((1 : Int32) <<< (x4 &&& 31))) 1024) ∧ (vp_in x4 10) ∧ (vp_in x2 1024) ∧ (vp_in x3 10) ∧ (((vp_in x4 10) ∧ (P_12_laysRounds_171 pk62 pk72 (P_12_laysRounds_102 pk62 pk72 n) x2 x3 x4 (wr M (533 + ((x2 ||| ((1 : Int32) <<< (x4 &&& 31))).toNatClampNeg)) x4.toNatClampNeg (F_12_less_0 M (rd M (533 + (x2 ||| ((1 : Int32) <<< (x4 &&& 31))).toNatClampNeg) x4.toNatClampNeg) ((rd M (533 + x2.toNatClampNeg) x3.toNatClampNeg) + (rd M (497 + x3.toNatClampNeg) x4.toNatClampNeg)))))))))))))
theorem T_12_laysRounds_102 {g : Gl} (k62 : Int32 → Mem → Mem) (k72 : Int32 → Int32 → Mem → Mem) (pk62 : Int32 → Mem → Prop) (pk72 : Int32 → Int32 → Mem → Prop) (ih62 : ∀ (x2 : Int32) (M : Mem), pk62 x2 M → Rn g 2 m12_laysRounds 62 [some (.ref 0), none, some (.int x2), none, none] [] M (none) ((k62 x2 M))) (ih72 : ∀ (x2 : Int32) (x3 : Int32) (M : Mem), pk72 x2 x3 M → Rn g 2 m12_laysRounds 72 [some (.ref 0), none, some (.int x2), some (.int x3), none] [] M (none) ((k72 x2 x3 M))) : ∀ (n : Nat) (x2 : Int32) (x3 : Int32) (x4 : Int32) (M : Mem) (hp : P_12_laysRounds_102 pk62 pk72 n x2 x3 x4 M), Rn g 2 m12_laysRounds 102 [some (.ref 0), none, some (.int x2), some (.int x3), some (.int x4)] [] M (none) ((F_12_laysRounds_102 k62 k72 n x2 x3 x4 M)) := by
  intro n
  induction n with
  | zero => intro x2 x3 x4 M hp; exact hp.elim
  | succ n ih =>
    intro x2 x3 x4 M hp
    rw [F_12_laysRounds_102]
    rw [P_12_laysRounds_102] at hp
    refine b12_laysRounds_102 (vpl (by decide)) (fun h => ?_) (fun h => ?_)
    · rw [if_pos h]
      have hp := hp.1 h
      exact T_12_laysRounds_177 k62 k72 pk62 pk72 ih62 ih72 x2 x3 M hp
    · rw [if_neg h]
      have hp := hp.2 h
      refine b12_laysRounds_113  (C_12_has x2 x4 M) (Nat.le_of_ble_eq_true rfl) ?_
      refine b12_laysRounds_119  (fun h => ?_) (fun h => ?_)
      · rw [if_neg h]
        have hp := hp.1 h
        exact T_12_laysRounds_171 k62 k72 (F_12_laysRounds_102 k62 k72 n) pk62 pk72 (P_12_laysRounds_102 pk62 pk72 n) ih62 ih72 ih x2 x3 x4 M hp
      · rw [if_pos h]
        have hp := hp.2 h
        obtain ⟨p0, p1, p2, p3, hp⟩ := hp
        refine b12_laysRounds_122 p0 p1 p2 p3 (C_12_less (rd M (533 + (x2 ||| ((1 : Int32) <<< (x4 &&& 31))).toNatClampNeg) x4.toNatClampNeg) ((rd M (533 + x2.toNatClampNeg) x3.toNatClampNeg) + (rd M (497 + x3.toNatClampNeg) x4.toNatClampNeg)) M) (Nat.le_of_ble_eq_true rfl) ?_
        obtain ⟨p4, hp⟩ := hp
        refine b12_laysRounds_170 ((vp_lt p0)) p4 ?_
        exact T_12_laysRounds_171 k62 k72 (F_12_laysRounds_102 k62 k72 n) pk62 pk72 (P_12_laysRounds_102 pk62 pk72 n) ih62 ih72 ih x2 x3 x4 (wr M (533 + ((x2 ||| ((1 : Int32) <<< (x4 &&& 31))).toNatClampNeg)) x4.toNatClampNeg (F_12_less_0 M (rd M (533 + (x2 ||| ((1 : Int32) <<< (x4 &&& 31))).toNatClampNeg) x4.toNatClampNeg) ((rd M (533 + x2.toNatClampNeg) x3.toNatClampNeg) + (rd M (497 + x3.toNatClampNeg) x4.toNatClampNeg)))) hp
def F_12_laysRounds_72 (k62 : Int32 → Mem → Mem) : Nat → Int32 → Int32 → Mem → Mem
  | 0, _, _, M => M
  | n + 1, x2, x3, M => if (rd M 4 ((0 : Int32).toNatClampNeg)) ≤ x3 then (k62 (x2 + 1) M) else (if (rd M (533 + x2.toNatClampNeg) x3.toNatClampNeg) < 999 then (F_12_laysRounds_102 k62 (F_12_laysRounds_72 k62 n) FU x2 x3 0 M) else (F_12_laysRounds_177 k62 (F_12_laysRounds_72 k62 n) x2 x3 M))
def P_12_laysRounds_72 (pk62 : Int32 → Mem → Prop) : Nat → Int32 → Int32 → Mem → Prop
  | 0, _, _, _ => False
  | n + 1, x2, x3, M => (((rd M 4 ((0 : Int32).toNatClampNeg)) ≤ x3 → (pk62 (x2 + 1) M)) ∧ (¬ (rd M 4 ((0 : Int32).toNatClampNeg)) ≤ x3 → (vp_in x2 1024) ∧ (vp_in x3 10) ∧ (((rd M (533 + x2.toNatClampNeg) x3.toNatClampNeg) < 999 → (P_12_laysRounds_102 pk62 (P_12_laysRounds_72 pk62 n) FU x2 x3 0 M)) ∧ (¬ (rd M (533 + x2.toNatClampNeg) x3.toNatClampNeg) < 999 → (P_12_laysRounds_177 pk62 (P_12_laysRounds_72 pk62 n) x2 x3 M)))))
theorem T_12_laysRounds_72 {g : Gl} (k62 : Int32 → Mem → Mem) (pk62 : Int32 → Mem → Prop) (ih62 : ∀ (x2 : Int32) (M : Mem), pk62 x2 M → Rn g 2 m12_laysRounds 62 [some (.ref 0), none, some (.int x2), none, none] [] M (none) ((k62 x2 M))) : ∀ (n : Nat) (x2 : Int32) (x3 : Int32) (M : Mem) (hp : P_12_laysRounds_72 pk62 n x2 x3 M), Rn g 2 m12_laysRounds 72 [some (.ref 0), none, some (.int x2), some (.int x3), none] [] M (none) ((F_12_laysRounds_72 k62 n x2 x3 M)) := by
  intro n
  induction n with
  | zero => intro x2 x3 M hp; exact hp.elim
  | succ n ih =>
    intro x2 x3 M hp
    rw [F_12_laysRounds_72]
    rw [P_12_laysRounds_72] at hp
    refine b12_laysRounds_72 (vpl (by decide)) (fun h => ?_) (fun h => ?_)
    · rw [if_pos h]
      have hp := hp.1 h
      refine b12_laysRounds_183  ?_
      exact ih62 (x2 + 1) M hp
    · rw [if_neg h]
      have hp := hp.2 h
      obtain ⟨p0, p1, hp⟩ := hp
      refine b12_laysRounds_82 p0 p1 (fun h => ?_) (fun h => ?_)
      · rw [if_pos h]
        have hp := hp.1 h
        refine b12_laysRounds_99  ?_
        exact T_12_laysRounds_102 k62 (F_12_laysRounds_72 k62 n) pk62 (P_12_laysRounds_72 pk62 n) ih62 ih FU x2 x3 0 M hp
      · rw [if_neg h]
        have hp := hp.2 h
        refine b12_laysRounds_96  ?_
        exact T_12_laysRounds_177 k62 (F_12_laysRounds_72 k62 n) pk62 (P_12_laysRounds_72 pk62 n) ih62 ih x2 x3 M hp
def F_12_laysRounds_62  : Nat → Int32 → Mem → Mem
  | 0, _, M => M
  | n + 1, x2, M => if (F_12_allRooms_0 M) < x2 then (M) else (F_12_laysRounds_72 (F_12_laysRounds_62 n) FU x2 0 M)
def P_12_laysRounds_62  : Nat → Int32 → Mem → Prop
  | 0, _, _ => False
  | n + 1, x2, M => (((((F_12_allRooms_0 M) < x2 → True) ∧ (¬ (F_12_allRooms_0 M) < x2 → (P_12_laysRounds_72 (P_12_laysRounds_62 n) FU x2 0 M)))))
theorem T_12_laysRounds_62 {g : Gl} : ∀ (n : Nat) (x2 : Int32) (M : Mem) (hp : P_12_laysRounds_62 n x2 M), Rn g 2 m12_laysRounds 62 [some (.ref 0), none, some (.int x2), none, none] [] M (none) ((F_12_laysRounds_62 n x2 M)) := by
  intro n
  induction n with
  | zero => intro x2 M hp; exact hp.elim
  | succ n ih =>
    intro x2 M hp
    rw [F_12_laysRounds_62]
    rw [P_12_laysRounds_62] at hp
    refine b12_laysRounds_62  (C_12_allRooms  M) (Nat.le_of_ble_eq_true rfl) ?_
    refine b12_laysRounds_67  (fun h => ?_) (fun h => ?_)
    · rw [if_pos h]
      exact b12_laysRounds_189  rfl rfl
    · rw [if_neg h]
      have hp := hp.2 h
      refine b12_laysRounds_70  ?_
      exact T_12_laysRounds_72 (F_12_laysRounds_62 n) (P_12_laysRounds_62 n) ih FU x2 0 M hp
def F_12_laysRounds_6  : Nat → Int32 → Int32 → Mem → Mem
  | 0, _, _, M => M
  | n + 1, x1, x2, M => if (F_12_allRooms_0 M) < x2 then (F_12_laysRounds_62 FU 0 (wr M (533 + ((1 : Int32) <<< (x1 &&& 31)).toNatClampNeg) x1.toNatClampNeg 0)) else (F_12_laysRounds_16 (F_12_laysRounds_6 n) FU x1 x2 0 M)
def P_12_laysRounds_6  : Nat → Int32 → Int32 → Mem → Prop
  | 0, _, _, _ => False
  | n + 1, x1, x2, M => (((((F_12_allRooms_0 M) < x2 → (vp_in ((1 : Int32) <<< (x1 &&& 31)) 1024) ∧ (vp_in x1 10) ∧ (P_12_laysRounds_62 FU 0 (wr M (533 + ((1 : Int32) <<< (x1 &&& 31)).toNatClampNeg) x1.toNatClampNeg 0))) ∧ (¬ (F_12_allRooms_0 M) < x2 → (P_12_laysRounds_16 (P_12_laysRounds_6 n) FU x1 x2 0 M)))))
theorem T_12_laysRounds_6 {g : Gl} : ∀ (n : Nat) (x1 : Int32) (x2 : Int32) (M : Mem) (hp : P_12_laysRounds_6 n x1 x2 M), Rn g 2 m12_laysRounds 6 [some (.ref 0), some (.int x1), some (.int x2), none, none] [] M (none) ((F_12_laysRounds_6 n x1 x2 M)) := by
  intro n
  induction n with
  | zero => intro x1 x2 M hp; exact hp.elim
  | succ n ih =>
    intro x1 x2 M hp
    rw [F_12_laysRounds_6]
    rw [P_12_laysRounds_6] at hp
    refine b12_laysRounds_6  (C_12_allRooms  M) (Nat.le_of_ble_eq_true rfl) ?_
    refine b12_laysRounds_11  (fun h => ?_) (fun h => ?_)
    · rw [if_pos h]
      have hp := hp.1 h
      obtain ⟨p0, p1, hp⟩ := hp
      refine b12_laysRounds_49 p0 p1 ?_
      exact T_12_laysRounds_62 FU 0 (wr M (533 + ((1 : Int32) <<< (x1 &&& 31)).toNatClampNeg) x1.toNatClampNeg 0) hp
    · rw [if_neg h]
      have hp := hp.2 h
      refine b12_laysRounds_14  ?_
      exact T_12_laysRounds_16 (F_12_laysRounds_6 n) (P_12_laysRounds_6 n) ih FU x1 x2 0 M hp
def F_12_laysRounds_4 (x1 : Int32) (M : Mem) : Mem := F_12_laysRounds_6 FU x1 0 M
def P_12_laysRounds_4 (x1 : Int32) (M : Mem) : Prop := (P_12_laysRounds_6 FU x1 0 M)
theorem T_12_laysRounds_4 {g : Gl} (x1 : Int32) (M : Mem) (hp : P_12_laysRounds_4 x1 M) : Rn g 2 m12_laysRounds 4 [some (.ref 0), some (.int x1), none, none, none] [] M (none) ((F_12_laysRounds_4 x1 M)) := by
  rw [F_12_laysRounds_4]
  rw [P_12_laysRounds_4] at hp
  refine b12_laysRounds_4  ?_
  exact T_12_laysRounds_6 FU x1 0 M hp
def F_12_laysRounds_0 (x1 : Int32) (M : Mem) : Mem := F_12_laysRounds_4 x1 (F_12_laysWays_0 M)
def P_12_laysRounds_0 (x1 : Int32) (M : Mem) : Prop := ((P_12_laysWays_0 M) ∧ (P_12_laysRounds_4 x1 (F_12_laysWays_0 M)))
theorem T_12_laysRounds_0 {g : Gl} (x1 : Int32) (M : Mem) (hp : P_12_laysRounds_0 x1 M) : Rn g 2 m12_laysRounds 0 [some (.ref 0), some (.int x1), none, none, none] [] M (none) ((F_12_laysRounds_0 x1 M)) := by
  rw [F_12_laysRounds_0]
  rw [P_12_laysRounds_0] at hp
  obtain ⟨hc, hp⟩ := hp
  refine b12_laysRounds_0  (C_12_laysWays  M hc) (Nat.le_of_ble_eq_true rfl) ?_
  exact T_12_laysRounds_4 x1 (F_12_laysWays_0 M) hp
theorem C_12_laysRounds {g : Gl}  (x1 : Int32) (M : Mem) (hp : P_12_laysRounds_0 x1 M) : Ms g 2 m12_laysRounds [.ref 0, .int x1] M (none) ((F_12_laysRounds_0 x1 M)) := Ms.of okM_m12_laysRounds (Nat.le_of_ble_eq_true rfl) (R_wk (lc rfl (lc rfl (ln (ln (ln l0))))) (T_12_laysRounds_0 x1 M hp))
def F_12_roundTo_44 (k4 : Int32 → Int32 → Int32) (M : Mem) (x2 : Int32) (xs0 : Int32) : Int32 := k4 xs0 (x2 + 1)
def P_12_roundTo_44 (pk4 : Int32 → Int32 → Prop) (M : Mem) (x2 : Int32) (xs0 : Int32) : Prop := (pk4 xs0 (x2 + 1))
theorem T_12_roundTo_44 {g : Gl} (k4 : Int32 → Int32 → Int32) (pk4 : Int32 → Int32 → Prop) (M : Mem) (ih4 : ∀ (x1 : Int32) (x2 : Int32), pk4 x1 x2 → Rn g 1 m12_roundTo 4 [some (.ref 0), some (.int x1), some (.int x2)] [] M (some (.int (k4 x1 x2))) (M)) (x2 : Int32) (xs0 : Int32) (hp : P_12_roundTo_44 pk4 M x2 xs0) : Rn g 1 m12_roundTo 44 [some (.ref 0), none, some (.int x2)] [.int xs0] M (some (.int (F_12_roundTo_44 k4 M x2 xs0))) (M) := by
  rw [F_12_roundTo_44]
  rw [P_12_roundTo_44] at hp
  refine b12_roundTo_44  ?_
  exact ih4 xs0 (x2 + 1) hp
def F_12_roundTo_4 (M : Mem) : Nat → Int32 → Int32 → Int32
  | 0, _, _ => 0
  | n + 1, x1, x2 => if (rd M 4 ((0 : Int32).toNatClampNeg)) ≤ x2 then (x1) else (if (rd M (533 + (F_12_allRooms_0 M).toNatClampNeg) x1.toNatClampNeg) ≤ (rd M (533 + (F_12_allRooms_0 M).toNatClampNeg) x2.toNatClampNeg) then (F_12_roundTo_44 (F_12_roundTo_4 M n) M x2 x1) else (F_12_roundTo_44 (F_12_roundTo_4 M n) M x2 x2))
def P_12_roundTo_4 (M : Mem) : Nat → Int32 → Int32 → Prop
  | 0, _, _ => False
  | n + 1, x1, x2 => (((rd M 4 ((0 : Int32).toNatClampNeg)) ≤ x2 → True) ∧ (¬ (rd M 4 ((0 : Int32).toNatClampNeg)) ≤ x2 → (((vp_in (F_12_allRooms_0 M) 1024) ∧ (vp_in x2 10) ∧ (((vp_in (F_12_allRooms_0 M) 1024) ∧ (vp_in x1 10) ∧ (((rd M (533 + (F_12_allRooms_0 M).toNatClampNeg) x1.toNatClampNeg) ≤ (rd M (533 + (F_12_allRooms_0 M).toNatClampNeg) x2.toNatClampNeg) → (P_12_roundTo_44 (P_12_roundTo_4 M n) M x2 x1)) ∧ (¬ (rd M (533 + (F_12_allRooms_0 M).toNatClampNeg) x1.toNatClampNeg) ≤ (rd M (533 + (F_12_allRooms_0 M).toNatClampNeg) x2.toNatClampNeg) → (P_12_roundTo_44 (P_12_roundTo_4 M n) M x2 x2)))))))))
theorem T_12_roundTo_4 {g : Gl} (M : Mem) : ∀ (n : Nat) (x1 : Int32) (x2 : Int32) (hp : P_12_roundTo_4 M n x1 x2), Rn g 1 m12_roundTo 4 [some (.ref 0), some (.int x1), some (.int x2)] [] M (some (.int (F_12_roundTo_4 M n x1 x2))) (M) := by
  intro n
  induction n with
  | zero => intro x1 x2 hp; exact hp.elim
  | succ n ih =>
    intro x1 x2 hp
    rw [F_12_roundTo_4]
    rw [P_12_roundTo_4] at hp
    refine b12_roundTo_4 (vpl (by decide)) (fun h => ?_) (fun h => ?_)
    · rw [if_pos h]
      exact b12_roundTo_51  rfl rfl
    · rw [if_neg h]
      have hp := hp.2 h
      refine b12_roundTo_14  (C_12_allRooms  M) (Nat.le_of_ble_eq_true rfl) ?_
      obtain ⟨p0, p1, hp⟩ := hp
      refine b12_roundTo_22 p0 p1 (C_12_allRooms  M) (Nat.le_of_ble_eq_true rfl) ?_
      obtain ⟨p2, p3, hp⟩ := hp
      refine b12_roundTo_33 p2 p3 (fun h => ?_) (fun h => ?_)
      · rw [if_pos h]
        have hp := hp.1 h
        refine b12_roundTo_43  ?_
        exact T_12_roundTo_44 (F_12_roundTo_4 M n) (P_12_roundTo_4 M n) _ ih x2 x1 hp
      · rw [if_neg h]
        have hp := hp.2 h
        refine b12_roundTo_39  ?_
        exact T_12_roundTo_44 (F_12_roundTo_4 M n) (P_12_roundTo_4 M n) _ ih x2 x2 hp
def F_12_roundTo_0 (M : Mem) : Int32 := F_12_roundTo_4 M FU 0 1
def P_12_roundTo_0 (M : Mem) : Prop := (P_12_roundTo_4 M FU 0 1)
theorem T_12_roundTo_0 {g : Gl} (M : Mem) (hp : P_12_roundTo_0 M) : Rn g 1 m12_roundTo 0 [some (.ref 0), none, none] [] M (some (.int (F_12_roundTo_0 M))) (M) := by
  rw [F_12_roundTo_0]
  rw [P_12_roundTo_0] at hp
  refine b12_roundTo_0  ?_
  exact T_12_roundTo_4 _ FU 0 1 hp
theorem C_12_roundTo {g : Gl}   (M : Mem) (hp : P_12_roundTo_0 M) : Ms g 1 m12_roundTo [.ref 0] M (some (.int (F_12_roundTo_0 M))) (M) := Ms.of okM_m12_roundTo (Nat.le_of_ble_eq_true rfl) (R_wk (lc rfl (ln (ln l0))) (T_12_roundTo_0 M hp))
def F_12_round_34 (M : Mem) : Int32 × Mem := ((F_12_orNone_0 M (rd M (533 + ((F_12_allRooms_0 M).toNatClampNeg)) (F_12_roundTo_0 M).toNatClampNeg)), M)
def P_12_round_34 (M : Mem) : Prop := (((vp_in (F_12_allRooms_0 M) 1024) ∧ ((P_12_roundTo_0 M) ∧ ((vp_in (F_12_roundTo_0 M) 10)))))
theorem T_12_round_34 {g : Gl} (M : Mem) (hp : P_12_round_34 M) : Rn g 3 m12_round 34 [some (.ref 0), none] [] M (some (.int (F_12_round_34 M).1)) ((F_12_round_34 M).2) := by
  rw [F_12_round_34]
  rw [P_12_round_34] at hp
  refine b12_round_34  (C_12_allRooms  M) (Nat.le_of_ble_eq_true rfl) ?_
  obtain ⟨p0, hp⟩ := hp
  obtain ⟨hc, hp⟩ := hp
  refine b12_round_42 p0 (C_12_roundTo  M hc) (Nat.le_of_ble_eq_true rfl) ?_
  have p1 := hp
  refine b12_round_47 ((vp_lt p0)) p1 (C_12_orNone (rd M (533 + ((F_12_allRooms_0 M).toNatClampNeg)) (F_12_roundTo_0 M).toNatClampNeg) M) (Nat.le_of_ble_eq_true rfl) ?_
  exact b12_round_51  rfl rfl
def F_12_round_24 (x1 : Int32) (xs0 : Int32) (M : Mem) : Int32 × Mem := if xs0 = 0 then (F_12_round_34 (F_12_laysRounds_0 x1 M)) else ((0, M))
def P_12_round_24 (x1 : Int32) (xs0 : Int32) (M : Mem) : Prop := ((xs0 = 0 → ((P_12_laysRounds_0 x1 M) ∧ (P_12_round_34 (F_12_laysRounds_0 x1 M)))) ∧ (¬ xs0 = 0 → True))
theorem T_12_round_24 {g : Gl} (x1 : Int32) (xs0 : Int32) (M : Mem) (hp : P_12_round_24 x1 xs0 M) : Rn g 3 m12_round 24 [some (.ref 0), some (.int x1)] [.int xs0] M (some (.int (F_12_round_24 x1 xs0 M).1)) ((F_12_round_24 x1 xs0 M).2) := by
  rw [F_12_round_24]
  rw [P_12_round_24] at hp
  refine b12_round_24  (fun h => ?_) (fun h => ?_)
  · rw [if_pos h]
    have hp := hp.1 h
    obtain ⟨hc, hp⟩ := hp
    refine b12_round_29  (C_12_laysRounds x1 M hc) (Nat.le_of_ble_eq_true rfl) ?_
    exact T_12_round_34 (F_12_laysRounds_0 x1 M) hp
  · rw [if_neg h]
    exact b12_round_27  rfl rfl
def F_12_round_19 (x1 : Int32) (xs0 : Int32) (M : Mem) : Int32 × Mem := F_12_round_24 x1 ((F_12_bad_0 xs0 1 0 M).1) ((F_12_bad_0 xs0 1 0 M).2)
def P_12_round_19 (x1 : Int32) (xs0 : Int32) (M : Mem) : Prop := ((P_12_bad_0 xs0 1 0 M) ∧ (P_12_round_24 x1 ((F_12_bad_0 xs0 1 0 M).1) ((F_12_bad_0 xs0 1 0 M).2)))
theorem T_12_round_19 {g : Gl} (x1 : Int32) (xs0 : Int32) (M : Mem) (hp : P_12_round_19 x1 xs0 M) : Rn g 3 m12_round 19 [some (.ref 0), some (.int x1)] [.int xs0, .ref 0] M (some (.int (F_12_round_19 x1 xs0 M).1)) ((F_12_round_19 x1 xs0 M).2) := by
  rw [F_12_round_19]
  rw [P_12_round_19] at hp
  obtain ⟨hc, hp⟩ := hp
  refine b12_round_19  (C_12_bad xs0 1 0 M hc) (Nat.le_of_ble_eq_true rfl) ?_
  exact T_12_round_24 x1 ((F_12_bad_0 xs0 1 0 M).1) ((F_12_bad_0 xs0 1 0 M).2) hp
def F_12_round_0 (x1 : Int32) (M : Mem) : Int32 × Mem := if (F_12_isRoom_0 (wr M 0 0 0) x1) = 0 then (F_12_round_19 x1 1 (wr M 0 0 0)) else (F_12_round_19 x1 0 (wr M 0 0 0))
def P_12_round_0 (x1 : Int32) (M : Mem) : Prop := ((P_12_isRoom_0 (wr M 0 0 0) x1) ∧ (((¬ (F_12_isRoom_0 (wr M 0 0 0) x1) = 0 → (P_12_round_19 x1 0 (wr M 0 0 0))) ∧ ((F_12_isRoom_0 (wr M 0 0 0) x1) = 0 → (P_12_round_19 x1 1 (wr M 0 0 0))))))
theorem T_12_round_0 {g : Gl} (x1 : Int32) (M : Mem) (hp : P_12_round_0 x1 M) : Rn g 3 m12_round 0 [some (.ref 0), some (.int x1)] [] M (some (.int (F_12_round_0 x1 M).1)) ((F_12_round_0 x1 M).2) := by
  rw [F_12_round_0]
  rw [P_12_round_0] at hp
  obtain ⟨hc, hp⟩ := hp
  refine b12_round_0  (C_12_isRoom x1 (wr M 0 0 0) hc) (Nat.le_of_ble_eq_true rfl) ?_
  refine b12_round_11  (fun h => ?_) (fun h => ?_)
  · rw [if_neg h]
    have hp := hp.1 h
    refine b12_round_18  ?_
    exact T_12_round_19 x1 0 (wr M 0 0 0) hp
  · rw [if_pos h]
    have hp := hp.2 h
    refine b12_round_14  ?_
    exact T_12_round_19 x1 1 (wr M 0 0 0) hp
theorem C_12_round {g : Gl}  (x1 : Int32) (M : Mem) (hp : P_12_round_0 x1 M) : Ms g 3 m12_round [.ref 0, .int x1] M (some (.int (F_12_round_0 x1 M).1)) ((F_12_round_0 x1 M).2) := Ms.of okM_m12_round (Nat.le_of_ble_eq_true rfl) (R_wk (lc rfl (lc rfl l0)) (T_12_round_0 x1 M hp))
def F_12_last_34 (M : Mem) : Int32 × Mem := if (rd M (533 + ((F_12_allRooms_0 M).toNatClampNeg)) (F_12_roundTo_0 M).toNatClampNeg) < 999 then (((F_12_roundTo_0 M), M)) else (((-1), M))
def P_12_last_34 (M : Mem) : Prop := (((vp_in (F_12_allRooms_0 M) 1024) ∧ ((P_12_roundTo_0 M) ∧ ((vp_in (F_12_roundTo_0 M) 10) ∧ (((rd M (533 + ((F_12_allRooms_0 M).toNatClampNeg)) (F_12_roundTo_0 M).toNatClampNeg) < 999 → ((P_12_roundTo_0 M))) ∧ (¬ (rd M (533 + ((F_12_allRooms_0 M).toNatClampNeg)) (F_12_roundTo_0 M).toNatClampNeg) < 999 → True))))))
theorem T_12_last_34 {g : Gl} (M : Mem) (hp : P_12_last_34 M) : Rn g 3 m12_last 34 [some (.ref 0), none] [] M (some (.int (F_12_last_34 M).1)) ((F_12_last_34 M).2) := by
  rw [F_12_last_34]
  rw [P_12_last_34] at hp
  refine b12_last_34  (C_12_allRooms  M) (Nat.le_of_ble_eq_true rfl) ?_
  obtain ⟨p0, hp⟩ := hp
  obtain ⟨hc, hp⟩ := hp
  refine b12_last_42 p0 (C_12_roundTo  M hc) (Nat.le_of_ble_eq_true rfl) ?_
  obtain ⟨p1, hp⟩ := hp
  refine b12_last_47 ((vp_lt p0)) p1 (fun h => ?_) (fun h => ?_)
  · rw [if_pos h]
    have hp := hp.1 h
    have hc := hp
    refine b12_last_58  (C_12_roundTo  M hc) (Nat.le_of_ble_eq_true rfl) ?_
    exact b12_last_62  rfl rfl
  · rw [if_neg h]
    refine b12_last_54  ?_
    exact b12_last_62  rfl rfl
def F_12_last_24 (x1 : Int32) (xs0 : Int32) (M : Mem) : Int32 × Mem := if xs0 = 0 then (F_12_last_34 (F_12_laysRounds_0 x1 M)) else ((0, M))
def P_12_last_24 (x1 : Int32) (xs0 : Int32) (M : Mem) : Prop := ((xs0 = 0 → ((P_12_laysRounds_0 x1 M) ∧ (P_12_last_34 (F_12_laysRounds_0 x1 M)))) ∧ (¬ xs0 = 0 → True))
theorem T_12_last_24 {g : Gl} (x1 : Int32) (xs0 : Int32) (M : Mem) (hp : P_12_last_24 x1 xs0 M) : Rn g 3 m12_last 24 [some (.ref 0), some (.int x1)] [.int xs0] M (some (.int (F_12_last_24 x1 xs0 M).1)) ((F_12_last_24 x1 xs0 M).2) := by
  rw [F_12_last_24]
  rw [P_12_last_24] at hp
  refine b12_last_24  (fun h => ?_) (fun h => ?_)
  · rw [if_pos h]
    have hp := hp.1 h
    obtain ⟨hc, hp⟩ := hp
    refine b12_last_29  (C_12_laysRounds x1 M hc) (Nat.le_of_ble_eq_true rfl) ?_
    exact T_12_last_34 (F_12_laysRounds_0 x1 M) hp
  · rw [if_neg h]
    exact b12_last_27  rfl rfl
def F_12_last_19 (x1 : Int32) (xs0 : Int32) (M : Mem) : Int32 × Mem := F_12_last_24 x1 ((F_12_bad_0 xs0 1 0 M).1) ((F_12_bad_0 xs0 1 0 M).2)
def P_12_last_19 (x1 : Int32) (xs0 : Int32) (M : Mem) : Prop := ((P_12_bad_0 xs0 1 0 M) ∧ (P_12_last_24 x1 ((F_12_bad_0 xs0 1 0 M).1) ((F_12_bad_0 xs0 1 0 M).2)))
theorem T_12_last_19 {g : Gl} (x1 : Int32) (xs0 : Int32) (M : Mem) (hp : P_12_last_19 x1 xs0 M) : Rn g 3 m12_last 19 [some (.ref 0), some (.int x1)] [.int xs0, .ref 0] M (some (.int (F_12_last_19 x1 xs0 M).1)) ((F_12_last_19 x1 xs0 M).2) := by
  rw [F_12_last_19]
  rw [P_12_last_19] at hp
  obtain ⟨hc, hp⟩ := hp
  refine b12_last_19  (C_12_bad xs0 1 0 M hc) (Nat.le_of_ble_eq_true rfl) ?_
  exact T_12_last_24 x1 ((F_12_bad_0 xs0 1 0 M).1) ((F_12_bad_0 xs0 1 0 M).2) hp
def F_12_last_0 (x1 : Int32) (M : Mem) : Int32 × Mem := if (F_12_isRoom_0 (wr M 0 0 0) x1) = 0 then (F_12_last_19 x1 1 (wr M 0 0 0)) else (F_12_last_19 x1 0 (wr M 0 0 0))
def P_12_last_0 (x1 : Int32) (M : Mem) : Prop := ((P_12_isRoom_0 (wr M 0 0 0) x1) ∧ (((¬ (F_12_isRoom_0 (wr M 0 0 0) x1) = 0 → (P_12_last_19 x1 0 (wr M 0 0 0))) ∧ ((F_12_isRoom_0 (wr M 0 0 0) x1) = 0 → (P_12_last_19 x1 1 (wr M 0 0 0))))))
theorem T_12_last_0 {g : Gl} (x1 : Int32) (M : Mem) (hp : P_12_last_0 x1 M) : Rn g 3 m12_last 0 [some (.ref 0), some (.int x1)] [] M (some (.int (F_12_last_0 x1 M).1)) ((F_12_last_0 x1 M).2) := by
  rw [F_12_last_0]
  rw [P_12_last_0] at hp
  obtain ⟨hc, hp⟩ := hp
  refine b12_last_0  (C_12_isRoom x1 (wr M 0 0 0) hc) (Nat.le_of_ble_eq_true rfl) ?_
  refine b12_last_11  (fun h => ?_) (fun h => ?_)
  · rw [if_neg h]
    have hp := hp.1 h
    refine b12_last_18  ?_
    exact T_12_last_19 x1 0 (wr M 0 0 0) hp
  · rw [if_pos h]
    have hp := hp.2 h
    refine b12_last_14  ?_
    exact T_12_last_19 x1 1 (wr M 0 0 0) hp
theorem C_12_last {g : Gl}  (x1 : Int32) (M : Mem) (hp : P_12_last_0 x1 M) : Ms g 3 m12_last [.ref 0, .int x1] M (some (.int (F_12_last_0 x1 M).1)) ((F_12_last_0 x1 M).2) := Ms.of okM_m12_last (Nat.le_of_ble_eq_true rfl) (R_wk (lc rfl (lc rfl l0)) (T_12_last_0 x1 M hp))
def F_12_meet_127 (k75 : Int32 → Int32 → Int32 → Int32 → Int32 → Int32 → Mem → Int32 × Mem) (x1 : Int32) (x2 : Int32) (x3 : Int32) (x4 : Int32) (x5 : Int32) (x6 : Int32) (M : Mem) : Int32 × Mem := k75 x1 x2 x3 x4 x5 (x6 + 1) M
def P_12_meet_127 (pk75 : Int32 → Int32 → Int32 → Int32 → Int32 → Int32 → Mem → Prop) (x1 : Int32) (x2 : Int32) (x3 : Int32) (x4 : Int32) (x5 : Int32) (x6 : Int32) (M : Mem) : Prop := (pk75 x1 x2 x3 x4 x5 (x6 + 1) M)
theorem T_12_meet_127 {g : Gl} (k75 : Int32 → Int32 → Int32 → Int32 → Int32 → Int32 → Mem → Int32 × Mem) (pk75 : Int32 → Int32 → Int32 → Int32 → Int32 → Int32 → Mem → Prop) (ih75 : ∀ (x1 : Int32) (x2 : Int32) (x3 : Int32) (x4 : Int32) (x5 : Int32) (x6 : Int32) (M : Mem), pk75 x1 x2 x3 x4 x5 x6 M → Rn g 2 m12_meet 75 [some (.ref 0), some (.int x1), some (.int x2), some (.int x3), some (.int x4), some (.int x5), some (.int x6), none] [] M (some (.int (k75 x1 x2 x3 x4 x5 x6 M).1)) ((k75 x1 x2 x3 x4 x5 x6 M).2)) (x1 : Int32) (x2 : Int32) (x3 : Int32) (x4 : Int32) (x5 : Int32) (x6 : Int32) (M : Mem) (hp : P_12_meet_127 pk75 x1 x2 x3 x4 x5 x6 M) : Rn g 2 m12_meet 127 [some (.ref 0), some (.int x1), some (.int x2), some (.int x3), some (.int x4), some (.int x5), some (.int x6), none] [] M (some (.int (F_12_meet_127 k75 x1 x2 x3 x4 x5 x6 M).1)) ((F_12_meet_127 k75 x1 x2 x3 x4 x5 x6 M).2) := by
  rw [F_12_meet_127]
  rw [P_12_meet_127] at hp
  refine b12_meet_127  ?_
  exact ih75 x1 x2 x3 x4 x5 (x6 + 1) M hp
def F_12_meet_75  : Nat → Int32 → Int32 → Int32 → Int32 → Int32 → Int32 → Mem → Int32 × Mem
  | 0, _, _, _, _, _, _, M => (0, M)
  | n + 1, x1, x2, x3, x4, x5, x6, M => if (rd M 4 ((0 : Int32).toNatClampNeg)) ≤ x6 then (if x3 = 0 then (((F_12_orNone_0 M x4), M)) else ((x5, M))) else (if (F_12_more_0 M (rd M (497 + x1.toNatClampNeg) x6.toNatClampNeg) (rd M (497 + x2.toNatClampNeg) x6.toNatClampNeg)) < x4 then (F_12_meet_127 (F_12_meet_75 n) x1 x2 x3 (F_12_more_0 M (rd M (497 + x1.toNatClampNeg) x6.toNatClampNeg) (rd M (497 + x2.toNatClampNeg) x6.toNatClampNeg)) x6 x6 M) else (F_12_meet_127 (F_12_meet_75 n) x1 x2 x3 x4 x5 x6 M))
def P_12_meet_75  : Nat → Int32 → Int32 → Int32 → Int32 → Int32 → Int32 → Mem → Prop
  | 0, _, _, _, _, _, _, _ => False
  | n + 1, x1, x2, x3, x4, x5, x6, M => (((rd M 4 ((0 : Int32).toNatClampNeg)) ≤ x6 → True) ∧ (¬ (rd M 4 ((0 : Int32).toNatClampNeg)) ≤ x6 → (vp_in x1 10) ∧ (vp_in x6 10) ∧ (vp_in x2 10) ∧ (((((F_12_more_0 M (rd M (497 + x1.toNatClampNeg) x6.toNatClampNeg) (rd M (497 + x2.toNatClampNeg) x6.toNatClampNeg)) < x4 → (P_12_meet_127 (P_12_meet_75 n) x1 x2 x3 (F_12_more_0 M (rd M (497 + x1.toNatClampNeg) x6.toNatClampNeg) (rd M (497 + x2.toNatClampNeg) x6.toNatClampNeg)) x6 x6 M)) ∧ (¬ (F_12_more_0 M (rd M (497 + x1.toNatClampNeg) x6.toNatClampNeg) (rd M (497 + x2.toNatClampNeg) x6.toNatClampNeg)) < x4 → (P_12_meet_127 (P_12_meet_75 n) x1 x2 x3 x4 x5 x6 M)))))))
theorem T_12_meet_75 {g : Gl} : ∀ (n : Nat) (x1 : Int32) (x2 : Int32) (x3 : Int32) (x4 : Int32) (x5 : Int32) (x6 : Int32) (M : Mem) (hp : P_12_meet_75 n x1 x2 x3 x4 x5 x6 M), Rn g 2 m12_meet 75 [some (.ref 0), some (.int x1), some (.int x2), some (.int x3), some (.int x4), some (.int x5), some (.int x6), none] [] M (some (.int (F_12_meet_75 n x1 x2 x3 x4 x5 x6 M).1)) ((F_12_meet_75 n x1 x2 x3 x4 x5 x6 M).2) := by
  intro n
  induction n with
  | zero => intro x1 x2 x3 x4 x5 x6 M hp; exact hp.elim
  | succ n ih =>
    intro x1 x2 x3 x4 x5 x6 M hp
    rw [F_12_meet_75]
    rw [P_12_meet_75] at hp
    refine b12_meet_75 (vpl (by decide)) (fun h => ?_) (fun h => ?_)
    · rw [if_pos h]
      refine b12_meet_133  (fun h => ?_) (fun h => ?_)
      · rw [if_neg h]
        refine b12_meet_145  ?_
        exact b12_meet_147  rfl rfl
      · rw [if_pos h]
        refine b12_meet_137  (C_12_orNone x4 M) (Nat.le_of_ble_eq_true rfl) ?_
        refine b12_meet_142  ?_
        exact b12_meet_147  rfl rfl
    · rw [if_neg h]
      have hp := hp.2 h
      obtain ⟨p0, p1, p2, hp⟩ := hp
      refine b12_meet_86 p0 p1 p2 (C_12_more (rd M (497 + x1.toNatClampNeg) x6.toNatClampNeg) (rd M (497 + x2.toNatClampNeg) x6.toNatClampNeg) M) (Nat.le_of_ble_eq_true rfl) ?_
      refine b12_meet_107  (fun h => ?_) (fun h => ?_)
      · rw [if_pos h]
        have hp := hp.1 h
        refine b12_meet_119  ?_
        exact T_12_meet_127 (F_12_meet_75 n) (P_12_meet_75 n) ih x1 x2 x3 (F_12_more_0 M (rd M (497 + x1.toNatClampNeg) x6.toNatClampNeg) (rd M (497 + x2.toNatClampNeg) x6.toNatClampNeg)) x6 x6 M hp
      · rw [if_neg h]
        have hp := hp.2 h
        refine b12_meet_116  ?_
        exact T_12_meet_127 (F_12_meet_75 n) (P_12_meet_75 n) ih x1 x2 x3 x4 x5 x6 M hp
def F_12_meet_72 (x1 : Int32) (x2 : Int32) (x3 : Int32) (x4 : Int32) (x5 : Int32) (M : Mem) : Int32 × Mem := F_12_meet_75 FU x1 x2 x3 x4 x5 0 M
def P_12_meet_72 (x1 : Int32) (x2 : Int32) (x3 : Int32) (x4 : Int32) (x5 : Int32) (M : Mem) : Prop := (P_12_meet_75 FU x1 x2 x3 x4 x5 0 M)
theorem T_12_meet_72 {g : Gl} (x1 : Int32) (x2 : Int32) (x3 : Int32) (x4 : Int32) (x5 : Int32) (M : Mem) (hp : P_12_meet_72 x1 x2 x3 x4 x5 M) : Rn g 2 m12_meet 72 [some (.ref 0), some (.int x1), some (.int x2), some (.int x3), some (.int x4), some (.int x5), none, none] [] M (some (.int (F_12_meet_72 x1 x2 x3 x4 x5 M).1)) ((F_12_meet_72 x1 x2 x3 x4 x5 M).2) := by
  rw [F_12_meet_72]
  rw [P_12_meet_72] at hp
  refine b12_meet_72  ?_
  exact T_12_meet_75 FU x1 x2 x3 x4 x5 0 M hp
def F_12_meet_55 (x1 : Int32) (x2 : Int32) (x3 : Int32) (xs0 : Int32) (M : Mem) : Int32 × Mem := if xs0 = 0 then (F_12_meet_72 x1 x2 x3 999 (-1) (F_12_laysWays_0 M)) else ((0, M))
def P_12_meet_55 (x1 : Int32) (x2 : Int32) (x3 : Int32) (xs0 : Int32) (M : Mem) : Prop := ((xs0 = 0 → ((P_12_laysWays_0 M) ∧ (P_12_meet_72 x1 x2 x3 999 (-1) (F_12_laysWays_0 M)))) ∧ (¬ xs0 = 0 → True))
theorem T_12_meet_55 {g : Gl} (x1 : Int32) (x2 : Int32) (x3 : Int32) (xs0 : Int32) (M : Mem) (hp : P_12_meet_55 x1 x2 x3 xs0 M) : Rn g 2 m12_meet 55 [some (.ref 0), some (.int x1), some (.int x2), some (.int x3), none, none, none, none] [.int xs0] M (some (.int (F_12_meet_55 x1 x2 x3 xs0 M).1)) ((F_12_meet_55 x1 x2 x3 xs0 M).2) := by
  rw [F_12_meet_55]
  rw [P_12_meet_55] at hp
  refine b12_meet_55  (fun h => ?_) (fun h => ?_)
  · rw [if_pos h]
    have hp := hp.1 h
    obtain ⟨hc, hp⟩ := hp
    refine b12_meet_60  (C_12_laysWays  M hc) (Nat.le_of_ble_eq_true rfl) ?_
    exact T_12_meet_72 x1 x2 x3 999 (-1) (F_12_laysWays_0 M) hp
  · rw [if_neg h]
    exact b12_meet_58  rfl rfl
def F_12_meet_50 (x1 : Int32) (x2 : Int32) (x3 : Int32) (xs0 : Int32) (M : Mem) : Int32 × Mem := F_12_meet_55 x1 x2 x3 ((F_12_bad_0 xs0 2 1 M).1) ((F_12_bad_0 xs0 2 1 M).2)
def P_12_meet_50 (x1 : Int32) (x2 : Int32) (x3 : Int32) (xs0 : Int32) (M : Mem) : Prop := ((P_12_bad_0 xs0 2 1 M) ∧ (P_12_meet_55 x1 x2 x3 ((F_12_bad_0 xs0 2 1 M).1) ((F_12_bad_0 xs0 2 1 M).2)))
theorem T_12_meet_50 {g : Gl} (x1 : Int32) (x2 : Int32) (x3 : Int32) (xs0 : Int32) (M : Mem) (hp : P_12_meet_50 x1 x2 x3 xs0 M) : Rn g 2 m12_meet 50 [some (.ref 0), some (.int x1), some (.int x2), some (.int x3), none, none, none, none] [.int xs0, .ref 0] M (some (.int (F_12_meet_50 x1 x2 x3 xs0 M).1)) ((F_12_meet_50 x1 x2 x3 xs0 M).2) := by
  rw [F_12_meet_50]
  rw [P_12_meet_50] at hp
  obtain ⟨hc, hp⟩ := hp
  refine b12_meet_50  (C_12_bad xs0 2 1 M hc) (Nat.le_of_ble_eq_true rfl) ?_
  exact T_12_meet_55 x1 x2 x3 ((F_12_bad_0 xs0 2 1 M).1) ((F_12_bad_0 xs0 2 1 M).2) hp
def F_12_meet_32 (x1 : Int32) (x2 : Int32) (x3 : Int32) (xs0 : Int32) (M : Mem) : Int32 × Mem := if xs0 = 0 then (if (F_12_in_0 M x3 0 1) = 0 then (F_12_meet_50 x1 x2 x3 1 M) else (F_12_meet_50 x1 x2 x3 0 M)) else ((0, M))
def P_12_meet_32 (x1 : Int32) (x2 : Int32) (x3 : Int32) (xs0 : Int32) (M : Mem) : Prop := ((¬ xs0 = 0 → True) ∧ (xs0 = 0 → ((((¬ (F_12_in_0 M x3 0 1) = 0 → (P_12_meet_50 x1 x2 x3 0 M)) ∧ ((F_12_in_0 M x3 0 1) = 0 → (P_12_meet_50 x1 x2 x3 1 M)))))))
theorem T_12_meet_32 {g : Gl} (x1 : Int32) (x2 : Int32) (x3 : Int32) (xs0 : Int32) (M : Mem) (hp : P_12_meet_32 x1 x2 x3 xs0 M) : Rn g 2 m12_meet 32 [some (.ref 0), some (.int x1), some (.int x2), some (.int x3), none, none, none, none] [.int xs0] M (some (.int (F_12_meet_32 x1 x2 x3 xs0 M).1)) ((F_12_meet_32 x1 x2 x3 xs0 M).2) := by
  rw [F_12_meet_32]
  rw [P_12_meet_32] at hp
  refine b12_meet_32  (fun h => ?_) (fun h => ?_)
  · rw [if_neg h]
    exact b12_meet_58  rfl rfl
  · rw [if_pos h]
    have hp := hp.2 h
    refine b12_meet_35  (C_12_in x3 0 1 M) (Nat.le_of_ble_eq_true rfl) ?_
    refine b12_meet_42  (fun h => ?_) (fun h => ?_)
    · rw [if_neg h]
      have hp := hp.1 h
      refine b12_meet_49  ?_
      exact T_12_meet_50 x1 x2 x3 0 M hp
    · rw [if_pos h]
      have hp := hp.2 h
      refine b12_meet_45  ?_
      exact T_12_meet_50 x1 x2 x3 1 M hp
def F_12_meet_27 (x1 : Int32) (x2 : Int32) (x3 : Int32) (xs0 : Int32) (M : Mem) : Int32 × Mem := F_12_meet_32 x1 x2 x3 ((F_12_bad_0 xs0 1 0 M).1) ((F_12_bad_0 xs0 1 0 M).2)
def P_12_meet_27 (x1 : Int32) (x2 : Int32) (x3 : Int32) (xs0 : Int32) (M : Mem) : Prop := ((P_12_bad_0 xs0 1 0 M) ∧ (P_12_meet_32 x1 x2 x3 ((F_12_bad_0 xs0 1 0 M).1) ((F_12_bad_0 xs0 1 0 M).2)))
theorem T_12_meet_27 {g : Gl} (x1 : Int32) (x2 : Int32) (x3 : Int32) (xs0 : Int32) (M : Mem) (hp : P_12_meet_27 x1 x2 x3 xs0 M) : Rn g 2 m12_meet 27 [some (.ref 0), some (.int x1), some (.int x2), some (.int x3), none, none, none, none] [.int xs0, .ref 0] M (some (.int (F_12_meet_27 x1 x2 x3 xs0 M).1)) ((F_12_meet_27 x1 x2 x3 xs0 M).2) := by
  rw [F_12_meet_27]
  rw [P_12_meet_27] at hp
  obtain ⟨hc, hp⟩ := hp
  refine b12_meet_27  (C_12_bad xs0 1 0 M hc) (Nat.le_of_ble_eq_true rfl) ?_
  exact T_12_meet_32 x1 x2 x3 ((F_12_bad_0 xs0 1 0 M).1) ((F_12_bad_0 xs0 1 0 M).2) hp
def F_12_meet_22 (x1 : Int32) (x2 : Int32) (x3 : Int32) (M : Mem) : Int32 × Mem := F_12_meet_27 x1 x2 x3 1 M
def P_12_meet_22 (x1 : Int32) (x2 : Int32) (x3 : Int32) (M : Mem) : Prop := (P_12_meet_27 x1 x2 x3 1 M)
theorem T_12_meet_22 {g : Gl} (x1 : Int32) (x2 : Int32) (x3 : Int32) (M : Mem) (hp : P_12_meet_22 x1 x2 x3 M) : Rn g 2 m12_meet 22 [some (.ref 0), some (.int x1), some (.int x2), some (.int x3), none, none, none, none] [.ref 0] M (some (.int (F_12_meet_22 x1 x2 x3 M).1)) ((F_12_meet_22 x1 x2 x3 M).2) := by
  rw [F_12_meet_22]
  rw [P_12_meet_22] at hp
  refine b12_meet_22  ?_
  exact T_12_meet_27 x1 x2 x3 1 M hp
def F_12_meet_0 (x1 : Int32) (x2 : Int32) (x3 : Int32) (M : Mem) : Int32 × Mem := if (F_12_isRoom_0 (wr M 0 0 0) x1) = 0 then (F_12_meet_22 x1 x2 x3 (wr M 0 0 0)) else (if (F_12_isRoom_0 (wr M 0 0 0) x2) = 0 then (F_12_meet_22 x1 x2 x3 (wr M 0 0 0)) else (F_12_meet_27 x1 x2 x3 0 (wr M 0 0 0)))
def P_12_meet_0 (x1 : Int32) (x2 : Int32) (x3 : Int32) (M : Mem) : Prop := ((P_12_isRoom_0 (wr M 0 0 0) x1) ∧ ((((F_12_isRoom_0 (wr M 0 0 0) x1) = 0 → P_12_meet_22 x1 x2 x3 (wr M 0 0 0)) ∧ (¬ (F_12_isRoom_0 (wr M 0 0 0) x1) = 0 → ((P_12_isRoom_0 (wr M 0 0 0) x2) ∧ (((¬ (F_12_isRoom_0 (wr M 0 0 0) x2) = 0 → (P_12_meet_27 x1 x2 x3 0 (wr M 0 0 0))) ∧ ((F_12_isRoom_0 (wr M 0 0 0) x2) = 0 → P_12_meet_22 x1 x2 x3 (wr M 0 0 0)))))))))
theorem T_12_meet_0 {g : Gl} (x1 : Int32) (x2 : Int32) (x3 : Int32) (M : Mem) (hp : P_12_meet_0 x1 x2 x3 M) : Rn g 2 m12_meet 0 [some (.ref 0), some (.int x1), some (.int x2), some (.int x3), none, none, none, none] [] M (some (.int (F_12_meet_0 x1 x2 x3 M).1)) ((F_12_meet_0 x1 x2 x3 M).2) := by
  rw [F_12_meet_0]
  rw [P_12_meet_0] at hp
  obtain ⟨hc, hp⟩ := hp
  refine b12_meet_0  (C_12_isRoom x1 (wr M 0 0 0) hc) (Nat.le_of_ble_eq_true rfl) ?_
  refine b12_meet_11  (fun h => ?_) (fun h => ?_)
  · rw [if_pos h]
    have hp := hp.1 h
    exact T_12_meet_22 x1 x2 x3 (wr M 0 0 0) hp
  · rw [if_neg h]
    have hp := hp.2 h
    obtain ⟨hc, hp⟩ := hp
    refine b12_meet_14  (C_12_isRoom x2 (wr M 0 0 0) hc) (Nat.le_of_ble_eq_true rfl) ?_
    refine b12_meet_19  (fun h => ?_) (fun h => ?_)
    · rw [if_neg h]
      have hp := hp.1 h
      refine b12_meet_26  ?_
      exact T_12_meet_27 x1 x2 x3 0 (wr M 0 0 0) hp
    · rw [if_pos h]
      have hp := hp.2 h
      exact T_12_meet_22 x1 x2 x3 (wr M 0 0 0) hp
theorem C_12_meet {g : Gl}  (x1 : Int32) (x2 : Int32) (x3 : Int32) (M : Mem) (hp : P_12_meet_0 x1 x2 x3 M) : Ms g 2 m12_meet [.ref 0, .int x1, .int x2, .int x3] M (some (.int (F_12_meet_0 x1 x2 x3 M).1)) ((F_12_meet_0 x1 x2 x3 M).2) := Ms.of okM_m12_meet (Nat.le_of_ble_eq_true rfl) (R_wk (lc rfl (lc rfl (lc rfl (lc rfl (ln (ln (ln (ln l0)))))))) (T_12_meet_0 x1 x2 x3 M hp))
def F_12_isMore_205 (rF : Int32 → Int32 → Int32 → Mem → Int32 × Mem) (k10 : Int32 → Int32 → Int32 → Int32 → Mem → Int32 × Mem) (x1 : Int32) (x2 : Int32) (x3 : Int32) (x4 : Int32) (M : Mem) : Int32 × Mem := k10 x1 x2 x3 (x4 + 1) M
def P_12_isMore_205 (rF : Int32 → Int32 → Int32 → Mem → Int32 × Mem) (rP : Int32 → Int32 → Int32 → Mem → Prop) (pk10 : Int32 → Int32 → Int32 → Int32 → Mem → Prop) (x1 : Int32) (x2 : Int32) (x3 : Int32) (x4 : Int32) (M : Mem) : Prop := (pk10 x1 x2 x3 (x4 + 1) M)
theorem T_12_isMore_205 {g : Gl} (rF : Int32 → Int32 → Int32 → Mem → Int32 × Mem) (rP : Int32 → Int32 → Int32 → Mem → Prop) (k10 : Int32 → Int32 → Int32 → Int32 → Mem → Int32 × Mem) (pk10 : Int32 → Int32 → Int32 → Int32 → Mem → Prop) {dr : Nat} (rT : ∀ (a0 : Int32) (a1 : Int32) (a2 : Int32) (M : Mem), rP a0 a1 a2 M → Ms g dr m12_isMore [.ref 0, .int a0, .int a1, .int a2] M (some (.int (rF a0 a1 a2 M).1)) ((rF a0 a1 a2 M).2)) (ih10 : ∀ (x1 : Int32) (x2 : Int32) (x3 : Int32) (x4 : Int32) (M : Mem), pk10 x1 x2 x3 x4 M → Rn g (dr + 1) m12_isMore 10 [some (.ref 0), some (.int x1), some (.int x2), some (.int x3), some (.int x4), none, none, none] [] M (some (.int (k10 x1 x2 x3 x4 M).1)) ((k10 x1 x2 x3 x4 M).2)) (x1 : Int32) (x2 : Int32) (x3 : Int32) (x4 : Int32) (M : Mem) (hp : P_12_isMore_205 rF rP pk10 x1 x2 x3 x4 M) : Rn g (dr + 1) m12_isMore 205 [some (.ref 0), some (.int x1), some (.int x2), some (.int x3), some (.int x4), none, none, none] [] M (some (.int (F_12_isMore_205 rF k10 x1 x2 x3 x4 M).1)) ((F_12_isMore_205 rF k10 x1 x2 x3 x4 M).2) := by
  rw [F_12_isMore_205]
  rw [P_12_isMore_205] at hp
  refine b12_isMore_205  ?_
  exact ih10 x1 x2 x3 (x4 + 1) M hp
def F_12_isMore_180 (rF : Int32 → Int32 → Int32 → Mem → Int32 × Mem) (k10 : Int32 → Int32 → Int32 → Int32 → Mem → Int32 × Mem) (x1 : Int32) (x2 : Int32) (x3 : Int32) (x4 : Int32) (x5 : Int32) (xs0 : Int32) (M : Mem) : Int32 × Mem := if xs0 = 0 then (F_12_isMore_205 rF k10 x1 x2 x3 x4 M) else (if x5 = 0 then ((1, wr M 27 x4.toNatClampNeg 0)) else ((1, wr M 27 x4.toNatClampNeg 1)))
def P_12_isMore_180 (rF : Int32 → Int32 → Int32 → Mem → Int32 × Mem) (rP : Int32 → Int32 → Int32 → Mem → Prop) (pk10 : Int32 → Int32 → Int32 → Int32 → Mem → Prop) (x1 : Int32) (x2 : Int32) (x3 : Int32) (x4 : Int32) (x5 : Int32) (xs0 : Int32) (M : Mem) : Prop := ((¬ xs0 = 0 → ((x5 = 0 → ((vp_in x4 24))) ∧ (¬ x5 = 0 → ((vp_in x4 24))))) ∧ (xs0 = 0 → (P_12_isMore_205 rF rP pk10 x1 x2 x3 x4 M)))
theorem T_12_isMore_180 {g : Gl} (rF : Int32 → Int32 → Int32 → Mem → Int32 × Mem) (rP : Int32 → Int32 → Int32 → Mem → Prop) (k10 : Int32 → Int32 → Int32 → Int32 → Mem → Int32 × Mem) (pk10 : Int32 → Int32 → Int32 → Int32 → Mem → Prop) {dr : Nat} (rT : ∀ (a0 : Int32) (a1 : Int32) (a2 : Int32) (M : Mem), rP a0 a1 a2 M → Ms g dr m12_isMore [.ref 0, .int a0, .int a1, .int a2] M (some (.int (rF a0 a1 a2 M).1)) ((rF a0 a1 a2 M).2)) (ih10 : ∀ (x1 : Int32) (x2 : Int32) (x3 : Int32) (x4 : Int32) (M : Mem), pk10 x1 x2 x3 x4 M → Rn g (dr + 1) m12_isMore 10 [some (.ref 0), some (.int x1), some (.int x2), some (.int x3), some (.int x4), none, none, none] [] M (some (.int (k10 x1 x2 x3 x4 M).1)) ((k10 x1 x2 x3 x4 M).2)) (x1 : Int32) (x2 : Int32) (x3 : Int32) (x4 : Int32) (x5 : Int32) (xs0 : Int32) (M : Mem) (hp : P_12_isMore_180 rF rP pk10 x1 x2 x3 x4 x5 xs0 M) : Rn g (dr + 1) m12_isMore 180 [some (.ref 0), some (.int x1), some (.int x2), some (.int x3), some (.int x4), some (.int x5), none, none] [.int xs0] M (some (.int (F_12_isMore_180 rF k10 x1 x2 x3 x4 x5 xs0 M).1)) ((F_12_isMore_180 rF k10 x1 x2 x3 x4 x5 xs0 M).2) := by
  rw [F_12_isMore_180]
  rw [P_12_isMore_180] at hp
  refine b12_isMore_180  (fun h => ?_) (fun h => ?_)
  · rw [if_neg h]
    have hp := hp.1 h
    refine b12_isMore_186  (fun h => ?_) (fun h => ?_)
    · rw [if_pos h]
      have hp := hp.1 h
      refine b12_isMore_201  ?_
      have p0 := hp
      exact b12_isMore_202 p0 rfl rfl
    · rw [if_neg h]
      have hp := hp.2 h
      refine b12_isMore_197  ?_
      have p1 := hp
      exact b12_isMore_202 p1 rfl rfl
  · rw [if_pos h]
    have hp := hp.2 h
    refine b12_isMore_183  ?_
    exact T_12_isMore_205 rF rP k10 pk10 rT ih10 x1 x2 x3 x4 M hp
def F_12_isMore_144 (rF : Int32 → Int32 → Int32 → Mem → Int32 × Mem) (k10 : Int32 → Int32 → Int32 → Int32 → Mem → Int32 × Mem) (x1 : Int32) (x2 : Int32) (x3 : Int32) (x4 : Int32) (x5 : Int32) (x7 : Int32) (M : Mem) : Int32 × Mem := if (F_12_has_0 M (rd M 0 46) x7) = 0 then (F_12_isMore_180 rF k10 x1 x2 x3 x4 x5 ((rF x7 x2 x3 (wr M 0 46 ((rd M 0 46) ||| ((1 : Int32) <<< (x7 &&& 31))))).1) ((rF x7 x2 x3 (wr M 0 46 ((rd M 0 46) ||| ((1 : Int32) <<< (x7 &&& 31))))).2)) else (F_12_isMore_205 rF k10 x1 x2 x3 x4 M)
def P_12_isMore_144 (rF : Int32 → Int32 → Int32 → Mem → Int32 × Mem) (rP : Int32 → Int32 → Int32 → Mem → Prop) (pk10 : Int32 → Int32 → Int32 → Int32 → Mem → Prop) (x1 : Int32) (x2 : Int32) (x3 : Int32) (x4 : Int32) (x5 : Int32) (x7 : Int32) (M : Mem) : Prop := (((((F_12_has_0 M (rd M 0 46) x7) = 0 → ((rP x7 x2 x3 (wr M 0 46 ((rd M 0 46) ||| ((1 : Int32) <<< (x7 &&& 31))))) ∧ (P_12_isMore_180 rF rP pk10 x1 x2 x3 x4 x5 ((rF x7 x2 x3 (wr M 0 46 ((rd M 0 46) ||| ((1 : Int32) <<< (x7 &&& 31))))).1) ((rF x7 x2 x3 (wr M 0 46 ((rd M 0 46) ||| ((1 : Int32) <<< (x7 &&& 31))))).2)))) ∧ (¬ (F_12_has_0 M (rd M 0 46) x7) = 0 → (P_12_isMore_205 rF rP pk10 x1 x2 x3 x4 M)))))
theorem T_12_isMore_144 {g : Gl} (rF : Int32 → Int32 → Int32 → Mem → Int32 × Mem) (rP : Int32 → Int32 → Int32 → Mem → Prop) (k10 : Int32 → Int32 → Int32 → Int32 → Mem → Int32 × Mem) (pk10 : Int32 → Int32 → Int32 → Int32 → Mem → Prop) {dr : Nat} (rT : ∀ (a0 : Int32) (a1 : Int32) (a2 : Int32) (M : Mem), rP a0 a1 a2 M → Ms g dr m12_isMore [.ref 0, .int a0, .int a1, .int a2] M (some (.int (rF a0 a1 a2 M).1)) ((rF a0 a1 a2 M).2)) (ih10 : ∀ (x1 : Int32) (x2 : Int32) (x3 : Int32) (x4 : Int32) (M : Mem), pk10 x1 x2 x3 x4 M → Rn g (dr + 1) m12_isMore 10 [some (.ref 0), some (.int x1), some (.int x2), some (.int x3), some (.int x4), none, none, none] [] M (some (.int (k10 x1 x2 x3 x4 M).1)) ((k10 x1 x2 x3 x4 M).2)) (x1 : Int32) (x2 : Int32) (x3 : Int32) (x4 : Int32) (x5 : Int32) (x7 : Int32) (M : Mem) (hp : P_12_isMore_144 rF rP pk10 x1 x2 x3 x4 x5 x7 M) : Rn g (dr + 1) m12_isMore 144 [some (.ref 0), some (.int x1), some (.int x2), some (.int x3), some (.int x4), some (.int x5), none, some (.int x7)] [] M (some (.int (F_12_isMore_144 rF k10 x1 x2 x3 x4 x5 x7 M).1)) ((F_12_isMore_144 rF k10 x1 x2 x3 x4 x5 x7 M).2) := by
  rw [F_12_isMore_144]
  rw [P_12_isMore_144] at hp
  refine b12_isMore_144  (C_12_has (rd M 0 46) x7 M) (by omega) ?_
  refine b12_isMore_153  (fun h => ?_) (fun h => ?_)
  · rw [if_pos h]
    have hp := hp.1 h
    obtain ⟨hc, hp⟩ := hp
    refine b12_isMore_159  (rT x7 x2 x3 (wr M 0 46 ((rd M 0 46) ||| ((1 : Int32) <<< (x7 &&& 31)))) hc) (by omega) ?_
    exact T_12_isMore_180 rF rP k10 pk10 rT ih10 x1 x2 x3 x4 x5 ((rF x7 x2 x3 (wr M 0 46 ((rd M 0 46) ||| ((1 : Int32) <<< (x7 &&& 31))))).1) ((rF x7 x2 x3 (wr M 0 46 ((rd M 0 46) ||| ((1 : Int32) <<< (x7 &&& 31))))).2) hp
  · rw [if_neg h]
    have hp := hp.2 h
    refine b12_isMore_156  ?_
    exact T_12_isMore_205 rF rP k10 pk10 rT ih10 x1 x2 x3 x4 M hp
def F_12_isMore_132 (rF : Int32 → Int32 → Int32 → Mem → Int32 × Mem) (k10 : Int32 → Int32 → Int32 → Int32 → Mem → Int32 × Mem) (x1 : Int32) (x2 : Int32) (x3 : Int32) (x4 : Int32) (x5 : Int32) (x6 : Int32) (xs0 : Int32) (M : Mem) : Int32 × Mem := if x5 = 0 then (if x6 = 0 then (F_12_isMore_205 rF k10 x1 x2 x3 x4 M) else (F_12_isMore_144 rF k10 x1 x2 x3 x4 x5 xs0 M)) else (F_12_isMore_144 rF k10 x1 x2 x3 x4 x5 xs0 M)
def P_12_isMore_132 (rF : Int32 → Int32 → Int32 → Mem → Int32 × Mem) (rP : Int32 → Int32 → Int32 → Mem → Prop) (pk10 : Int32 → Int32 → Int32 → Int32 → Mem → Prop) (x1 : Int32) (x2 : Int32) (x3 : Int32) (x4 : Int32) (x5 : Int32) (x6 : Int32) (xs0 : Int32) (M : Mem) : Prop := ((¬ x5 = 0 → P_12_isMore_144 rF rP pk10 x1 x2 x3 x4 x5 xs0 M) ∧ (x5 = 0 → ((x6 = 0 → P_12_isMore_205 rF rP pk10 x1 x2 x3 x4 M) ∧ (¬ x6 = 0 → P_12_isMore_144 rF rP pk10 x1 x2 x3 x4 x5 xs0 M))))
theorem T_12_isMore_132 {g : Gl} (rF : Int32 → Int32 → Int32 → Mem → Int32 × Mem) (rP : Int32 → Int32 → Int32 → Mem → Prop) (k10 : Int32 → Int32 → Int32 → Int32 → Mem → Int32 × Mem) (pk10 : Int32 → Int32 → Int32 → Int32 → Mem → Prop) {dr : Nat} (rT : ∀ (a0 : Int32) (a1 : Int32) (a2 : Int32) (M : Mem), rP a0 a1 a2 M → Ms g dr m12_isMore [.ref 0, .int a0, .int a1, .int a2] M (some (.int (rF a0 a1 a2 M).1)) ((rF a0 a1 a2 M).2)) (ih10 : ∀ (x1 : Int32) (x2 : Int32) (x3 : Int32) (x4 : Int32) (M : Mem), pk10 x1 x2 x3 x4 M → Rn g (dr + 1) m12_isMore 10 [some (.ref 0), some (.int x1), some (.int x2), some (.int x3), some (.int x4), none, none, none] [] M (some (.int (k10 x1 x2 x3 x4 M).1)) ((k10 x1 x2 x3 x4 M).2)) (x1 : Int32) (x2 : Int32) (x3 : Int32) (x4 : Int32) (x5 : Int32) (x6 : Int32) (xs0 : Int32) (M : Mem) (hp : P_12_isMore_132 rF rP pk10 x1 x2 x3 x4 x5 x6 xs0 M) : Rn g (dr + 1) m12_isMore 132 [some (.ref 0), some (.int x1), some (.int x2), some (.int x3), some (.int x4), some (.int x5), some (.int x6), none] [.int xs0] M (some (.int (F_12_isMore_132 rF k10 x1 x2 x3 x4 x5 x6 xs0 M).1)) ((F_12_isMore_132 rF k10 x1 x2 x3 x4 x5 x6 xs0 M).2) := by
  rw [F_12_isMore_132]
  rw [P_12_isMore_132] at hp
  refine b12_isMore_132  (fun h => ?_) (fun h => ?_)
  · rw [if_neg h]
    have hp := hp.1 h
    exact T_12_isMore_144 rF rP k10 pk10 rT ih10 x1 x2 x3 x4 x5 xs0 M hp
  · rw [if_pos h]
    have hp := hp.2 h
    refine b12_isMore_139  (fun h => ?_) (fun h => ?_)
    · rw [if_pos h]
      have hp := hp.1 h
      exact T_12_isMore_205 rF rP k10 pk10 rT ih10 x1 x2 x3 x4 M hp
    · rw [if_neg h]
      have hp := hp.2 h
      exact T_12_isMore_144 rF rP k10 pk10 rT ih10 x1 x2 x3 x4 x5 xs0 M hp
def F_12_isMore_104 (rF : Int32 → Int32 → Int32 → Mem → Int32 × Mem) (k10 : Int32 → Int32 → Int32 → Int32 → Mem → Int32 × Mem) (x1 : Int32) (x2 : Int32) (x3 : Int32) (x4 : Int32) (x5 : Int32) (xs0 : Int32) (M : Mem) : Int32 × Mem := if x5 = 0 then (F_12_isMore_132 rF k10 x1 x2 x3 x4 x5 xs0 (rd M (54 + x4.toNatClampNeg) ((0 : Int32).toNatClampNeg)) M) else (F_12_isMore_132 rF k10 x1 x2 x3 x4 x5 xs0 (rd M (54 + x4.toNatClampNeg) ((1 : Int32).toNatClampNeg)) M)
def P_12_isMore_104 (rF : Int32 → Int32 → Int32 → Mem → Int32 × Mem) (rP : Int32 → Int32 → Int32 → Mem → Prop) (pk10 : Int32 → Int32 → Int32 → Int32 → Mem → Prop) (x1 : Int32) (x2 : Int32) (x3 : Int32) (x4 : Int32) (x5 : Int32) (xs0 : Int32) (M : Mem) : Prop := ((x5 = 0 → (vp_in x4 24) ∧ (P_12_isMore_132 rF rP pk10 x1 x2 x3 x4 x5 xs0 (rd M (54 + x4.toNatClampNeg) ((0 : Int32).toNatClampNeg)) M)) ∧ (¬ x5 = 0 → (vp_in x4 24) ∧ (P_12_isMore_132 rF rP pk10 x1 x2 x3 x4 x5 xs0 (rd M (54 + x4.toNatClampNeg) ((1 : Int32).toNatClampNeg)) M)))
theorem T_12_isMore_104 {g : Gl} (rF : Int32 → Int32 → Int32 → Mem → Int32 × Mem) (rP : Int32 → Int32 → Int32 → Mem → Prop) (k10 : Int32 → Int32 → Int32 → Int32 → Mem → Int32 × Mem) (pk10 : Int32 → Int32 → Int32 → Int32 → Mem → Prop) {dr : Nat} (rT : ∀ (a0 : Int32) (a1 : Int32) (a2 : Int32) (M : Mem), rP a0 a1 a2 M → Ms g dr m12_isMore [.ref 0, .int a0, .int a1, .int a2] M (some (.int (rF a0 a1 a2 M).1)) ((rF a0 a1 a2 M).2)) (ih10 : ∀ (x1 : Int32) (x2 : Int32) (x3 : Int32) (x4 : Int32) (M : Mem), pk10 x1 x2 x3 x4 M → Rn g (dr + 1) m12_isMore 10 [some (.ref 0), some (.int x1), some (.int x2), some (.int x3), some (.int x4), none, none, none] [] M (some (.int (k10 x1 x2 x3 x4 M).1)) ((k10 x1 x2 x3 x4 M).2)) (x1 : Int32) (x2 : Int32) (x3 : Int32) (x4 : Int32) (x5 : Int32) (xs0 : Int32) (M : Mem) (hp : P_12_isMore_104 rF rP pk10 x1 x2 x3 x4 x5 xs0 M) : Rn g (dr + 1) m12_isMore 104 [some (.ref 0), some (.int x1), some (.int x2), some (.int x3), some (.int x4), some (.int x5), none, none] [.int xs0] M (some (.int (F_12_isMore_104 rF k10 x1 x2 x3 x4 x5 xs0 M).1)) ((F_12_isMore_104 rF k10 x1 x2 x3 x4 x5 xs0 M).2) := by
  rw [F_12_isMore_104]
  rw [P_12_isMore_104] at hp
  refine b12_isMore_104  (fun h => ?_) (fun h => ?_)
  · rw [if_pos h]
    have hp := hp.1 h
    obtain ⟨p0, hp⟩ := hp
    refine b12_isMore_123 p0 (vpl (by decide)) ?_
    exact T_12_isMore_132 rF rP k10 pk10 rT ih10 x1 x2 x3 x4 x5 xs0 (rd M (54 + x4.toNatClampNeg) ((0 : Int32).toNatClampNeg)) M hp
  · rw [if_neg h]
    have hp := hp.2 h
    obtain ⟨p1, hp⟩ := hp
    refine b12_isMore_111 p1 (vpl (by decide)) ?_
    exact T_12_isMore_132 rF rP k10 pk10 rT ih10 x1 x2 x3 x4 x5 xs0 (rd M (54 + x4.toNatClampNeg) ((1 : Int32).toNatClampNeg)) M hp
def F_12_isMore_103 (rF : Int32 → Int32 → Int32 → Mem → Int32 × Mem) (k10 : Int32 → Int32 → Int32 → Int32 → Mem → Int32 × Mem) (x1 : Int32) (x2 : Int32) (x3 : Int32) (x4 : Int32) (x5 : Int32) (M : Mem) : Int32 × Mem := F_12_isMore_104 rF k10 x1 x2 x3 x4 x5 0 M
def P_12_isMore_103 (rF : Int32 → Int32 → Int32 → Mem → Int32 × Mem) (rP : Int32 → Int32 → Int32 → Mem → Prop) (pk10 : Int32 → Int32 → Int32 → Int32 → Mem → Prop) (x1 : Int32) (x2 : Int32) (x3 : Int32) (x4 : Int32) (x5 : Int32) (M : Mem) : Prop := (P_12_isMore_104 rF rP pk10 x1 x2 x3 x4 x5 0 M)
theorem T_12_isMore_103 {g : Gl} (rF : Int32 → Int32 → Int32 → Mem → Int32 × Mem) (rP : Int32 → Int32 → Int32 → Mem → Prop) (k10 : Int32 → Int32 → Int32 → Int32 → Mem → Int32 × Mem) (pk10 : Int32 → Int32 → Int32 → Int32 → Mem → Prop) {dr : Nat} (rT : ∀ (a0 : Int32) (a1 : Int32) (a2 : Int32) (M : Mem), rP a0 a1 a2 M → Ms g dr m12_isMore [.ref 0, .int a0, .int a1, .int a2] M (some (.int (rF a0 a1 a2 M).1)) ((rF a0 a1 a2 M).2)) (ih10 : ∀ (x1 : Int32) (x2 : Int32) (x3 : Int32) (x4 : Int32) (M : Mem), pk10 x1 x2 x3 x4 M → Rn g (dr + 1) m12_isMore 10 [some (.ref 0), some (.int x1), some (.int x2), some (.int x3), some (.int x4), none, none, none] [] M (some (.int (k10 x1 x2 x3 x4 M).1)) ((k10 x1 x2 x3 x4 M).2)) (x1 : Int32) (x2 : Int32) (x3 : Int32) (x4 : Int32) (x5 : Int32) (M : Mem) (hp : P_12_isMore_103 rF rP pk10 x1 x2 x3 x4 x5 M) : Rn g (dr + 1) m12_isMore 103 [some (.ref 0), some (.int x1), some (.int x2), some (.int x3), some (.int x4), some (.int x5), none, none] [] M (some (.int (F_12_isMore_103 rF k10 x1 x2 x3 x4 x5 M).1)) ((F_12_isMore_103 rF k10 x1 x2 x3 x4 x5 M).2) := by
  rw [F_12_isMore_103]
  rw [P_12_isMore_103] at hp
  refine b12_isMore_103  ?_
  exact T_12_isMore_104 rF rP k10 pk10 rT ih10 x1 x2 x3 x4 x5 0 M hp
def F_12_isMore_73 (rF : Int32 → Int32 → Int32 → Mem → Int32 × Mem) (k10 : Int32 → Int32 → Int32 → Int32 → Mem → Int32 × Mem) (x1 : Int32) (x2 : Int32) (x3 : Int32) (x4 : Int32) (xs0 : Int32) (M : Mem) : Int32 × Mem := if (rd M (54 + x4.toNatClampNeg) ((1 : Int32).toNatClampNeg)) = x1 then (if (rd M 27 x4.toNatClampNeg) = 1 then (F_12_isMore_104 rF k10 x1 x2 x3 x4 xs0 1 M) else (F_12_isMore_103 rF k10 x1 x2 x3 x4 xs0 M)) else (F_12_isMore_103 rF k10 x1 x2 x3 x4 xs0 M)
def P_12_isMore_73 (rF : Int32 → Int32 → Int32 → Mem → Int32 × Mem) (rP : Int32 → Int32 → Int32 → Mem → Prop) (pk10 : Int32 → Int32 → Int32 → Int32 → Mem → Prop) (x1 : Int32) (x2 : Int32) (x3 : Int32) (x4 : Int32) (xs0 : Int32) (M : Mem) : Prop := (vp_in x4 24) ∧ ((¬ (rd M (54 + x4.toNatClampNeg) ((1 : Int32).toNatClampNeg)) = x1 → P_12_isMore_103 rF rP pk10 x1 x2 x3 x4 xs0 M) ∧ ((rd M (54 + x4.toNatClampNeg) ((1 : Int32).toNatClampNeg)) = x1 → (vp_in x4 24) ∧ ((¬ (rd M 27 x4.toNatClampNeg) = 1 → P_12_isMore_103 rF rP pk10 x1 x2 x3 x4 xs0 M) ∧ ((rd M 27 x4.toNatClampNeg) = 1 → (P_12_isMore_104 rF rP pk10 x1 x2 x3 x4 xs0 1 M)))))
theorem T_12_isMore_73 {g : Gl} (rF : Int32 → Int32 → Int32 → Mem → Int32 × Mem) (rP : Int32 → Int32 → Int32 → Mem → Prop) (k10 : Int32 → Int32 → Int32 → Int32 → Mem → Int32 × Mem) (pk10 : Int32 → Int32 → Int32 → Int32 → Mem → Prop) {dr : Nat} (rT : ∀ (a0 : Int32) (a1 : Int32) (a2 : Int32) (M : Mem), rP a0 a1 a2 M → Ms g dr m12_isMore [.ref 0, .int a0, .int a1, .int a2] M (some (.int (rF a0 a1 a2 M).1)) ((rF a0 a1 a2 M).2)) (ih10 : ∀ (x1 : Int32) (x2 : Int32) (x3 : Int32) (x4 : Int32) (M : Mem), pk10 x1 x2 x3 x4 M → Rn g (dr + 1) m12_isMore 10 [some (.ref 0), some (.int x1), some (.int x2), some (.int x3), some (.int x4), none, none, none] [] M (some (.int (k10 x1 x2 x3 x4 M).1)) ((k10 x1 x2 x3 x4 M).2)) (x1 : Int32) (x2 : Int32) (x3 : Int32) (x4 : Int32) (xs0 : Int32) (M : Mem) (hp : P_12_isMore_73 rF rP pk10 x1 x2 x3 x4 xs0 M) : Rn g (dr + 1) m12_isMore 73 [some (.ref 0), some (.int x1), some (.int x2), some (.int x3), some (.int x4), none, none, none] [.int xs0] M (some (.int (F_12_isMore_73 rF k10 x1 x2 x3 x4 xs0 M).1)) ((F_12_isMore_73 rF k10 x1 x2 x3 x4 xs0 M).2) := by
  rw [F_12_isMore_73]
  rw [P_12_isMore_73] at hp
  obtain ⟨p0, hp⟩ := hp
  refine b12_isMore_73 p0 (vpl (by decide)) (fun h => ?_) (fun h => ?_)
  · rw [if_neg h]
    have hp := hp.1 h
    exact T_12_isMore_103 rF rP k10 pk10 rT ih10 x1 x2 x3 x4 xs0 M hp
  · rw [if_pos h]
    have hp := hp.2 h
    obtain ⟨p1, hp⟩ := hp
    refine b12_isMore_88 p1 (fun h => ?_) (fun h => ?_)
    · rw [if_neg h]
      have hp := hp.1 h
      exact T_12_isMore_103 rF rP k10 pk10 rT ih10 x1 x2 x3 x4 xs0 M hp
    · rw [if_pos h]
      have hp := hp.2 h
      refine b12_isMore_99  ?_
      exact T_12_isMore_104 rF rP k10 pk10 rT ih10 x1 x2 x3 x4 xs0 1 M hp
def F_12_isMore_72 (rF : Int32 → Int32 → Int32 → Mem → Int32 × Mem) (k10 : Int32 → Int32 → Int32 → Int32 → Mem → Int32 × Mem) (x1 : Int32) (x2 : Int32) (x3 : Int32) (x4 : Int32) (M : Mem) : Int32 × Mem := F_12_isMore_73 rF k10 x1 x2 x3 x4 0 M
def P_12_isMore_72 (rF : Int32 → Int32 → Int32 → Mem → Int32 × Mem) (rP : Int32 → Int32 → Int32 → Mem → Prop) (pk10 : Int32 → Int32 → Int32 → Int32 → Mem → Prop) (x1 : Int32) (x2 : Int32) (x3 : Int32) (x4 : Int32) (M : Mem) : Prop := (P_12_isMore_73 rF rP pk10 x1 x2 x3 x4 0 M)
theorem T_12_isMore_72 {g : Gl} (rF : Int32 → Int32 → Int32 → Mem → Int32 × Mem) (rP : Int32 → Int32 → Int32 → Mem → Prop) (k10 : Int32 → Int32 → Int32 → Int32 → Mem → Int32 × Mem) (pk10 : Int32 → Int32 → Int32 → Int32 → Mem → Prop) {dr : Nat} (rT : ∀ (a0 : Int32) (a1 : Int32) (a2 : Int32) (M : Mem), rP a0 a1 a2 M → Ms g dr m12_isMore [.ref 0, .int a0, .int a1, .int a2] M (some (.int (rF a0 a1 a2 M).1)) ((rF a0 a1 a2 M).2)) (ih10 : ∀ (x1 : Int32) (x2 : Int32) (x3 : Int32) (x4 : Int32) (M : Mem), pk10 x1 x2 x3 x4 M → Rn g (dr + 1) m12_isMore 10 [some (.ref 0), some (.int x1), some (.int x2), some (.int x3), some (.int x4), none, none, none] [] M (some (.int (k10 x1 x2 x3 x4 M).1)) ((k10 x1 x2 x3 x4 M).2)) (x1 : Int32) (x2 : Int32) (x3 : Int32) (x4 : Int32) (M : Mem) (hp : P_12_isMore_72 rF rP pk10 x1 x2 x3 x4 M) : Rn g (dr + 1) m12_isMore 72 [some (.ref 0), some (.int x1), some (.int x2), some (.int x3), some (.int x4), none, none, none] [] M (some (.int (F_12_isMore_72 rF k10 x1 x2 x3 x4 M).1)) ((F_12_isMore_72 rF k10 x1 x2 x3 x4 M).2) := by
  rw [F_12_isMore_72]
  rw [P_12_isMore_72] at hp
  refine b12_isMore_72  ?_
  exact T_12_isMore_73 rF rP k10 pk10 rT ih10 x1 x2 x3 x4 0 M hp
def F_12_isMore_10 (rF : Int32 → Int32 → Int32 → Mem → Int32 × Mem) : Nat → Int32 → Int32 → Int32 → Int32 → Mem → Int32 × Mem
  | 0, _, _, _, _, M => (0, M)
  | n + 1, x1, x2, x3, x4, M => if (rd M 4 ((1 : Int32).toNatClampNeg)) ≤ x4 then ((0, M)) else (if (F_12_isBarred_0 M x4) = 0 then (if (F_12_has_0 M x3 x4) = 0 then (if (rd M (54 + x4.toNatClampNeg) ((0 : Int32).toNatClampNeg)) = x1 then (if (rd M 27 x4.toNatClampNeg) = 0 then (F_12_isMore_73 rF (F_12_isMore_10 rF n) x1 x2 x3 x4 1 M) else (F_12_isMore_72 rF (F_12_isMore_10 rF n) x1 x2 x3 x4 M)) else (F_12_isMore_72 rF (F_12_isMore_10 rF n) x1 x2 x3 x4 M)) else (F_12_isMore_205 rF (F_12_isMore_10 rF n) x1 x2 x3 x4 M)) else (F_12_isMore_205 rF (F_12_isMore_10 rF n) x1 x2 x3 x4 M))
def P_12_isMore_10 (rF : Int32 → Int32 → Int32 → Mem → Int32 × Mem) (rP : Int32 → Int32 → Int32 → Mem → Prop) : Nat → Int32 → Int32 → Int32 → Int32 → Mem → Prop
  | 0, _, _, _, _, _ => False
  | n + 1, x1, x2, x3, x4, M => (((rd M 4 ((1 : Int32).toNatClampNeg)) ≤ x4 → True) ∧ (¬ (rd M 4 ((1 : Int32).toNatClampNeg)) ≤ x4 → ((P_12_isBarred_0 M x4) ∧ (((¬ (F_12_isBarred_0 M x4) = 0 → P_12_isMore_205 rF rP (P_12_isMore_10 rF rP n) x1 x2 x3 x4 M) ∧ ((F_12_isBarred_0 M x4) = 0 → (((((F_12_has_0 M x3 x4) = 0 → (vp_in x4 24) ∧ ((¬ (rd M (54 + x4.toNatClampNeg) ((0 : Int32).toNatClampNeg)) = x1 → P_12_isMore_72 rF rP (P_12_isMore_10 rF rP n) x1 x2 x3 x4 M) ∧ ((rd M (54 + x4.toNatClampNeg) ((0 : Int32).toNatClampNeg)) = x1 → (vp_in x4 24) ∧ ((¬ (rd M 27 x4.toNatClampNeg) = 0 → P_12_isMore_72 rF rP (P_12_isMore_10 rF rP n) x1 x2 x3 x4 M) ∧ ((rd M 27 x4.toNatClampNeg) = 0 → (P_12_isMore_73 rF rP (P_12_isMore_10 rF rP n) x1 x2 x3 x4 1 M)))))) ∧ (¬ (F_12_has_0 M x3 x4) = 0 → (P_12_isMore_205 rF rP (P_12_isMore_10 rF rP n) x1 x2 x3 x4 M)))))))))))
theorem T_12_isMore_10 {g : Gl} (rF : Int32 → Int32 → Int32 → Mem → Int32 × Mem) (rP : Int32 → Int32 → Int32 → Mem → Prop) {dr : Nat} (rT : ∀ (a0 : Int32) (a1 : Int32) (a2 : Int32) (M : Mem), rP a0 a1 a2 M → Ms g dr m12_isMore [.ref 0, .int a0, .int a1, .int a2] M (some (.int (rF a0 a1 a2 M).1)) ((rF a0 a1 a2 M).2)) : ∀ (n : Nat) (x1 : Int32) (x2 : Int32) (x3 : Int32) (x4 : Int32) (M : Mem) (hp : P_12_isMore_10 rF rP n x1 x2 x3 x4 M), Rn g (dr + 1) m12_isMore 10 [some (.ref 0), some (.int x1), some (.int x2), some (.int x3), some (.int x4), none, none, none] [] M (some (.int (F_12_isMore_10 rF n x1 x2 x3 x4 M).1)) ((F_12_isMore_10 rF n x1 x2 x3 x4 M).2) := by
  intro n
  induction n with
  | zero => intro x1 x2 x3 x4 M hp; exact hp.elim
  | succ n ih =>
    intro x1 x2 x3 x4 M hp
    rw [F_12_isMore_10]
    rw [P_12_isMore_10] at hp
    refine b12_isMore_10 (vpl (by decide)) (fun h => ?_) (fun h => ?_)
    · rw [if_pos h]
      exact b12_isMore_211  rfl rfl
    · rw [if_neg h]
      have hp := hp.2 h
      obtain ⟨hc, hp⟩ := hp
      refine b12_isMore_21  (C_12_isBarred x4 M hc) (by omega) ?_
      refine b12_isMore_30  (fun h => ?_) (fun h => ?_)
      · rw [if_neg h]
        have hp := hp.1 h
        exact T_12_isMore_205 rF rP (F_12_isMore_10 rF n) (P_12_isMore_10 rF rP n) rT ih x1 x2 x3 x4 M hp
      · rw [if_pos h]
        have hp := hp.2 h
        refine b12_isMore_33  (C_12_has x3 x4 M) (by omega) ?_
        refine b12_isMore_39  (fun h => ?_) (fun h => ?_)
        · rw [if_pos h]
          have hp := hp.1 h
          obtain ⟨p0, hp⟩ := hp
          refine b12_isMore_45 p0 (vpl (by decide)) (fun h => ?_) (fun h => ?_)
          · rw [if_neg h]
            have hp := hp.1 h
            exact T_12_isMore_72 rF rP (F_12_isMore_10 rF n) (P_12_isMore_10 rF rP n) rT ih x1 x2 x3 x4 M hp
          · rw [if_pos h]
            have hp := hp.2 h
            obtain ⟨p1, hp⟩ := hp
            refine b12_isMore_58 p1 (fun h => ?_) (fun h => ?_)
            · rw [if_neg h]
              have hp := hp.1 h
              exact T_12_isMore_72 rF rP (F_12_isMore_10 rF n) (P_12_isMore_10 rF rP n) rT ih x1 x2 x3 x4 M hp
            · rw [if_pos h]
              have hp := hp.2 h
              refine b12_isMore_68  ?_
              exact T_12_isMore_73 rF rP (F_12_isMore_10 rF n) (P_12_isMore_10 rF rP n) rT ih x1 x2 x3 x4 1 M hp
        · rw [if_neg h]
          have hp := hp.2 h
          refine b12_isMore_42  ?_
          exact T_12_isMore_205 rF rP (F_12_isMore_10 rF n) (P_12_isMore_10 rF rP n) rT ih x1 x2 x3 x4 M hp
def F_12_isMore_0 (rF : Int32 → Int32 → Int32 → Mem → Int32 × Mem) (x1 : Int32) (x2 : Int32) (x3 : Int32) (M : Mem) : Int32 × Mem := if x1 = x2 then ((1, M)) else (F_12_isMore_10 rF FU x1 x2 x3 0 M)
def P_12_isMore_0 (rF : Int32 → Int32 → Int32 → Mem → Int32 × Mem) (rP : Int32 → Int32 → Int32 → Mem → Prop) (x1 : Int32) (x2 : Int32) (x3 : Int32) (M : Mem) : Prop := ((¬ x1 = x2 → (P_12_isMore_10 rF rP FU x1 x2 x3 0 M)) ∧ (x1 = x2 → True))
theorem T_12_isMore_0 {g : Gl} (rF : Int32 → Int32 → Int32 → Mem → Int32 × Mem) (rP : Int32 → Int32 → Int32 → Mem → Prop) {dr : Nat} (rT : ∀ (a0 : Int32) (a1 : Int32) (a2 : Int32) (M : Mem), rP a0 a1 a2 M → Ms g dr m12_isMore [.ref 0, .int a0, .int a1, .int a2] M (some (.int (rF a0 a1 a2 M).1)) ((rF a0 a1 a2 M).2)) (x1 : Int32) (x2 : Int32) (x3 : Int32) (M : Mem) (hp : P_12_isMore_0 rF rP x1 x2 x3 M) : Rn g (dr + 1) m12_isMore 0 [some (.ref 0), some (.int x1), some (.int x2), some (.int x3), none, none, none, none] [] M (some (.int (F_12_isMore_0 rF x1 x2 x3 M).1)) ((F_12_isMore_0 rF x1 x2 x3 M).2) := by
  rw [F_12_isMore_0]
  rw [P_12_isMore_0] at hp
  refine b12_isMore_0  (fun h => ?_) (fun h => ?_)
  · rw [if_neg h]
    have hp := hp.1 h
    refine b12_isMore_7  ?_
    exact T_12_isMore_10 rF rP rT FU x1 x2 x3 0 M hp
  · rw [if_pos h]
    exact b12_isMore_5  rfl rfl
theorem C_12_isMore {g : Gl} (rF : Int32 → Int32 → Int32 → Mem → Int32 × Mem) (rP : Int32 → Int32 → Int32 → Mem → Prop) {dr : Nat} (rT : ∀ (a0 : Int32) (a1 : Int32) (a2 : Int32) (M : Mem), rP a0 a1 a2 M → Ms g dr m12_isMore [.ref 0, .int a0, .int a1, .int a2] M (some (.int (rF a0 a1 a2 M).1)) ((rF a0 a1 a2 M).2)) (x1 : Int32) (x2 : Int32) (x3 : Int32) (M : Mem) (hp : P_12_isMore_0 rF rP x1 x2 x3 M) : Ms g (dr + 1) m12_isMore [.ref 0, .int x1, .int x2, .int x3] M (some (.int (F_12_isMore_0 rF x1 x2 x3 M).1)) ((F_12_isMore_0 rF x1 x2 x3 M).2) := Ms.of okM_m12_isMore (Nat.le_of_ble_eq_true rfl) (R_wk (lc rfl (lc rfl (lc rfl (lc rfl (ln (ln (ln (ln l0)))))))) (T_12_isMore_0 rF rP rT x1 x2 x3 M hp))
def G_12_isMore  : Nat → Int32 → Int32 → Int32 → Mem → Int32 × Mem
  | 0, _, _, _, M => (0, M)
  | n + 1, a0, a1, a2, M => F_12_isMore_0 (G_12_isMore n) a0 a1 a2 M
def H_12_isMore  : Nat → Int32 → Int32 → Int32 → Mem → Prop
  | 0, _, _, _, _ => False
  | n + 1, a0, a1, a2, M => P_12_isMore_0 (G_12_isMore n) (H_12_isMore n) a0 a1 a2 M
theorem D_12_isMore {g : Gl}  : ∀ (n : Nat) (a0 : Int32) (a1 : Int32) (a2 : Int32) (M : Mem), H_12_isMore n a0 a1 a2 M → Ms g (1 * n) m12_isMore [.ref 0, .int a0, .int a1, .int a2] M (some (.int (G_12_isMore n a0 a1 a2 M).1)) ((G_12_isMore n a0 a1 a2 M).2) := by
  intro n
  induction n with
  | zero => intro a0 a1 a2 M hp; exact hp.elim
  | succ n ih =>
    intro a0 a1 a2 M hp
    rw [G_12_isMore]
    rw [H_12_isMore] at hp
    exact C_12_isMore (G_12_isMore n) (H_12_isMore n) ih a0 a1 a2 M hp
def F_12_flowsTo_41 (k34 : Int32 → Int32 → Int32 → Int32 → Mem → Int32 × Mem) (x1 : Int32) (x2 : Int32) (x3 : Int32) (x4 : Int32) (xs0 : Int32) (M : Mem) : Int32 × Mem := if xs0 = 0 then ((x4, M)) else (k34 x1 x2 x3 (x4 + 1) (wr M 0 46 ((1 : Int32) <<< (x1 &&& 31))))
def P_12_flowsTo_41 (pk34 : Int32 → Int32 → Int32 → Int32 → Mem → Prop) (x1 : Int32) (x2 : Int32) (x3 : Int32) (x4 : Int32) (xs0 : Int32) (M : Mem) : Prop := ((xs0 = 0 → True) ∧ (¬ xs0 = 0 → (pk34 x1 x2 x3 (x4 + 1) (wr M 0 46 ((1 : Int32) <<< (x1 &&& 31))))))
theorem T_12_flowsTo_41 {g : Gl} (k34 : Int32 → Int32 → Int32 → Int32 → Mem → Int32 × Mem) (pk34 : Int32 → Int32 → Int32 → Int32 → Mem → Prop) (ih34 : ∀ (x1 : Int32) (x2 : Int32) (x3 : Int32) (x4 : Int32) (M : Mem), pk34 x1 x2 x3 x4 M → Rn g 13 m12_flowsTo 34 [some (.ref 0), some (.int x1), some (.int x2), some (.int x3), some (.int x4), none] [] M (some (.int (k34 x1 x2 x3 x4 M).1)) ((k34 x1 x2 x3 x4 M).2)) (x1 : Int32) (x2 : Int32) (x3 : Int32) (x4 : Int32) (xs0 : Int32) (M : Mem) (hp : P_12_flowsTo_41 pk34 x1 x2 x3 x4 xs0 M) : Rn g 13 m12_flowsTo 41 [some (.ref 0), some (.int x1), some (.int x2), some (.int x3), some (.int x4), none] [.int xs0] M (some (.int (F_12_flowsTo_41 k34 x1 x2 x3 x4 xs0 M).1)) ((F_12_flowsTo_41 k34 x1 x2 x3 x4 xs0 M).2) := by
  rw [F_12_flowsTo_41]
  rw [P_12_flowsTo_41] at hp
  refine b12_flowsTo_41  (fun h => ?_) (fun h => ?_)
  · rw [if_pos h]
    exact b12_flowsTo_57  rfl rfl
  · rw [if_neg h]
    have hp := hp.2 h
    refine b12_flowsTo_44  ?_
    exact ih34 x1 x2 x3 (x4 + 1) (wr M 0 46 ((1 : Int32) <<< (x1 &&& 31))) hp
def F_12_flowsTo_34  : Nat → Int32 → Int32 → Int32 → Int32 → Mem → Int32 × Mem
  | 0, _, _, _, _, M => (0, M)
  | n + 1, x1, x2, x3, x4, M => F_12_flowsTo_41 (F_12_flowsTo_34 n) x1 x2 x3 x4 ((G_12_isMore 12 x1 x2 x3 M).1) ((G_12_isMore 12 x1 x2 x3 M).2)
def P_12_flowsTo_34  : Nat → Int32 → Int32 → Int32 → Int32 → Mem → Prop
  | 0, _, _, _, _, _ => False
  | n + 1, x1, x2, x3, x4, M => ((H_12_isMore 12 x1 x2 x3 M) ∧ (P_12_flowsTo_41 (P_12_flowsTo_34 n) x1 x2 x3 x4 ((G_12_isMore 12 x1 x2 x3 M).1) ((G_12_isMore 12 x1 x2 x3 M).2)))
theorem T_12_flowsTo_34 {g : Gl} : ∀ (n : Nat) (x1 : Int32) (x2 : Int32) (x3 : Int32) (x4 : Int32) (M : Mem) (hp : P_12_flowsTo_34 n x1 x2 x3 x4 M), Rn g 13 m12_flowsTo 34 [some (.ref 0), some (.int x1), some (.int x2), some (.int x3), some (.int x4), none] [] M (some (.int (F_12_flowsTo_34 n x1 x2 x3 x4 M).1)) ((F_12_flowsTo_34 n x1 x2 x3 x4 M).2) := by
  intro n
  induction n with
  | zero => intro x1 x2 x3 x4 M hp; exact hp.elim
  | succ n ih =>
    intro x1 x2 x3 x4 M hp
    rw [F_12_flowsTo_34]
    rw [P_12_flowsTo_34] at hp
    obtain ⟨hc, hp⟩ := hp
    refine b12_flowsTo_34  (D_12_isMore 12 x1 x2 x3 M hc) (Nat.le_of_ble_eq_true rfl) ?_
    exact T_12_flowsTo_41 (F_12_flowsTo_34 n) (P_12_flowsTo_34 n) ih x1 x2 x3 x4 ((G_12_isMore 12 x1 x2 x3 M).1) ((G_12_isMore 12 x1 x2 x3 M).2) hp
def F_12_flowsTo_6  : Nat → Int32 → Int32 → Int32 → Int32 → Int32 → Mem → Int32 × Mem
  | 0, _, _, _, _, _, M => (0, M)
  | n + 1, x1, x2, x3, x4, x5, M => if (24 : Int32) ≤ x5 then (F_12_flowsTo_34 FU x1 x2 x3 x4 (wr M 0 46 ((1 : Int32) <<< (x1 &&& 31)))) else ((F_12_flowsTo_6 n) x1 x2 x3 x4 (x5 + 1) (wr M 27 x5.toNatClampNeg 0))
def P_12_flowsTo_6  : Nat → Int32 → Int32 → Int32 → Int32 → Int32 → Mem → Prop
  | 0, _, _, _, _, _, _ => False
  | n + 1, x1, x2, x3, x4, x5, M => (((24 : Int32) ≤ x5 → (P_12_flowsTo_34 FU x1 x2 x3 x4 (wr M 0 46 ((1 : Int32) <<< (x1 &&& 31))))) ∧ (¬ (24 : Int32) ≤ x5 → (vp_in x5 24) ∧ ((P_12_flowsTo_6 n) x1 x2 x3 x4 (x5 + 1) (wr M 27 x5.toNatClampNeg 0))))
theorem T_12_flowsTo_6 {g : Gl} : ∀ (n : Nat) (x1 : Int32) (x2 : Int32) (x3 : Int32) (x4 : Int32) (x5 : Int32) (M : Mem) (hp : P_12_flowsTo_6 n x1 x2 x3 x4 x5 M), Rn g 13 m12_flowsTo 6 [some (.ref 0), some (.int x1), some (.int x2), some (.int x3), some (.int x4), some (.int x5)] [] M (some (.int (F_12_flowsTo_6 n x1 x2 x3 x4 x5 M).1)) ((F_12_flowsTo_6 n x1 x2 x3 x4 x5 M).2) := by
  intro n
  induction n with
  | zero => intro x1 x2 x3 x4 x5 M hp; exact hp.elim
  | succ n ih =>
    intro x1 x2 x3 x4 x5 M hp
    rw [F_12_flowsTo_6]
    rw [P_12_flowsTo_6] at hp
    refine b12_flowsTo_6  (fun h => ?_) (fun h => ?_)
    · rw [if_pos h]
      have hp := hp.1 h
      refine b12_flowsTo_27  ?_
      exact T_12_flowsTo_34 FU x1 x2 x3 x4 (wr M 0 46 ((1 : Int32) <<< (x1 &&& 31))) hp
    · rw [if_neg h]
      have hp := hp.2 h
      obtain ⟨p0, hp⟩ := hp
      refine b12_flowsTo_13 p0 ?_
      exact ih x1 x2 x3 x4 (x5 + 1) (wr M 27 x5.toNatClampNeg 0) hp
def F_12_flowsTo_0 (x1 : Int32) (x2 : Int32) (x3 : Int32) (M : Mem) : Int32 × Mem := F_12_flowsTo_6 FU x1 x2 x3 0 0 M
def P_12_flowsTo_0 (x1 : Int32) (x2 : Int32) (x3 : Int32) (M : Mem) : Prop := (P_12_flowsTo_6 FU x1 x2 x3 0 0 M)
theorem T_12_flowsTo_0 {g : Gl} (x1 : Int32) (x2 : Int32) (x3 : Int32) (M : Mem) (hp : P_12_flowsTo_0 x1 x2 x3 M) : Rn g 13 m12_flowsTo 0 [some (.ref 0), some (.int x1), some (.int x2), some (.int x3), none, none] [] M (some (.int (F_12_flowsTo_0 x1 x2 x3 M).1)) ((F_12_flowsTo_0 x1 x2 x3 M).2) := by
  rw [F_12_flowsTo_0]
  rw [P_12_flowsTo_0] at hp
  refine b12_flowsTo_0  ?_
  exact T_12_flowsTo_6 FU x1 x2 x3 0 0 M hp
theorem C_12_flowsTo {g : Gl}  (x1 : Int32) (x2 : Int32) (x3 : Int32) (M : Mem) (hp : P_12_flowsTo_0 x1 x2 x3 M) : Ms g 13 m12_flowsTo [.ref 0, .int x1, .int x2, .int x3] M (some (.int (F_12_flowsTo_0 x1 x2 x3 M).1)) ((F_12_flowsTo_0 x1 x2 x3 M).2) := Ms.of okM_m12_flowsTo (Nat.le_of_ble_eq_true rfl) (R_wk (lc rfl (lc rfl (lc rfl (lc rfl (ln (ln l0)))))) (T_12_flowsTo_0 x1 x2 x3 M hp))
