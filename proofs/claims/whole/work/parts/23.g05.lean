def F_9_read_43 (xs0 : Int32) (M : Mem) : Int32 × Mem := (xs0, M)
def P_9_read_43 (xs0 : Int32) (M : Mem) : Prop := (narrow .boolean (.int xs0) = .int xs0)
theorem T_9_read_43 {g : Gl} (xs0 : Int32) (M : Mem) (hp : P_9_read_43 xs0 M) : Rn g 2 m9_read 43 [none, none, none, none] [.int xs0] M (some (.int (F_9_read_43 xs0 M).1)) ((F_9_read_43 xs0 M).2) := by
  rw [F_9_read_43]
  rw [P_9_read_43] at hp
  have p0 := hp
  exact b9_read_43  rfl rfl p0
def F_9_read_63 (k4 : Int32 → Int32 → Mem → Int32 × Mem) (x2 : Int32) (x3 : Int32) (xs0 : Int32) (M : Mem) : Int32 × Mem := if xs0 = 0 then ((0, M)) else (k4 x2 (x3 + 1) M)
def P_9_read_63 (pk4 : Int32 → Int32 → Mem → Prop) (x2 : Int32) (x3 : Int32) (xs0 : Int32) (M : Mem) : Prop := ((¬ xs0 = 0 → (pk4 x2 (x3 + 1) M)) ∧ (xs0 = 0 → True))
theorem T_9_read_63 {g : Gl} (k4 : Int32 → Int32 → Mem → Int32 × Mem) (pk4 : Int32 → Int32 → Mem → Prop) (ih4 : ∀ (x2 : Int32) (x3 : Int32) (M : Mem), pk4 x2 x3 M → Rn g 2 m9_read 4 [some (.ref 1592), some (.ref 1560), some (.int x2), some (.int x3)] [] M (some (.int (k4 x2 x3 M).1)) ((k4 x2 x3 M).2)) (x2 : Int32) (x3 : Int32) (xs0 : Int32) (M : Mem) (hp : P_9_read_63 pk4 x2 x3 xs0 M) : Rn g 2 m9_read 63 [some (.ref 1592), some (.ref 1560), some (.int x2), some (.int x3)] [.int xs0] M (some (.int (F_9_read_63 k4 x2 x3 xs0 M).1)) ((F_9_read_63 k4 x2 x3 xs0 M).2) := by
  rw [F_9_read_63]
  rw [P_9_read_63] at hp
  refine b9_read_63  (fun h => ?_) (fun h => ?_)
  · rw [if_neg h]
    have hp := hp.1 h
    refine b9_read_68  ?_
    exact ih4 x2 (x3 + 1) M hp
  · rw [if_pos h]
    exact b9_read_66  rfl rfl
def F_9_read_23 (k4 : Int32 → Int32 → Mem → Int32 × Mem) (x2 : Int32) (x3 : Int32) (xs0 : Int32) (M : Mem) : Int32 × Mem := if xs0 = 0 then ((0, M)) else (if x2 < 12 then (F_9_read_63 k4 (x2 + 1) x3 ((F_5_needs_0 59 (wr M 1594 x2.toNatClampNeg (rd M 1560 5))).1) ((F_5_needs_0 59 (wr M 1594 x2.toNatClampNeg (rd M 1560 5))).2)) else (F_9_read_43 ((F_5_fail_0 3 (rd M 1560 4) M).1) ((F_5_fail_0 3 (rd M 1560 4) M).2)))
def P_9_read_23 (pk4 : Int32 → Int32 → Mem → Prop) (x2 : Int32) (x3 : Int32) (xs0 : Int32) (M : Mem) : Prop := ((¬ xs0 = 0 → ((x2 < 12 → (vp_in x2 12) ∧ ((P_5_needs_0 59 (wr M 1594 x2.toNatClampNeg (rd M 1560 5))) ∧ (P_9_read_63 pk4 (x2 + 1) x3 ((F_5_needs_0 59 (wr M 1594 x2.toNatClampNeg (rd M 1560 5))).1) ((F_5_needs_0 59 (wr M 1594 x2.toNatClampNeg (rd M 1560 5))).2)))) ∧ (¬ x2 < 12 → ((P_9_read_43 ((F_5_fail_0 3 (rd M 1560 4) M).1) ((F_5_fail_0 3 (rd M 1560 4) M).2)))))) ∧ (xs0 = 0 → True))
theorem T_9_read_23 {g : Gl} (k4 : Int32 → Int32 → Mem → Int32 × Mem) (pk4 : Int32 → Int32 → Mem → Prop) (ih4 : ∀ (x2 : Int32) (x3 : Int32) (M : Mem), pk4 x2 x3 M → Rn g 2 m9_read 4 [some (.ref 1592), some (.ref 1560), some (.int x2), some (.int x3)] [] M (some (.int (k4 x2 x3 M).1)) ((k4 x2 x3 M).2)) (x2 : Int32) (x3 : Int32) (xs0 : Int32) (M : Mem) (hp : P_9_read_23 pk4 x2 x3 xs0 M) : Rn g 2 m9_read 23 [some (.ref 1592), some (.ref 1560), some (.int x2), some (.int x3)] [.int xs0] M (some (.int (F_9_read_23 k4 x2 x3 xs0 M).1)) ((F_9_read_23 k4 x2 x3 xs0 M).2) := by
  rw [F_9_read_23]
  rw [P_9_read_23] at hp
  refine b9_read_23  (fun h => ?_) (fun h => ?_)
  · rw [if_neg h]
    have hp := hp.1 h
    refine b9_read_28  (fun h => ?_) (fun h => ?_)
    · rw [if_pos h]
      have hp := hp.1 h
      obtain ⟨p0, hp⟩ := hp
      obtain ⟨hc, hp⟩ := hp
      refine b9_read_44 p0 (C_5_needs 59 (wr M 1594 x2.toNatClampNeg (rd M 1560 5)) hc) (Nat.le_of_ble_eq_true rfl) ?_
      exact T_9_read_63 k4 pk4 ih4 (x2 + 1) x3 ((F_5_needs_0 59 (wr M 1594 x2.toNatClampNeg (rd M 1560 5))).1) ((F_5_needs_0 59 (wr M 1594 x2.toNatClampNeg (rd M 1560 5))).2) hp
    · rw [if_neg h]
      have hp := hp.2 h
      refine b9_read_34  (C_5_fail 3 (rd M 1560 4) M) (Nat.le_of_ble_eq_true rfl) ?_
      exact T_9_read_43 ((F_5_fail_0 3 (rd M 1560 4) M).1) ((F_5_fail_0 3 (rd M 1560 4) M).2) hp
  · rw [if_pos h]
    exact b9_read_26  rfl rfl
def F_9_read_74 (x2 : Int32) (M : Mem) : Int32 × Mem := (1, wr (cpM M 1594 (0 : Int32).toNatClampNeg 1593 (0 : Int32).toNatClampNeg (12 : Int32).toNatClampNeg) 1592 7 x2)
theorem T_9_read_74 {g : Gl} (x2 : Int32) (M : Mem)  : Rn g 2 m9_read 74 [some (.ref 1592), none, some (.int x2), none] [] M (some (.int (F_9_read_74 x2 M).1)) ((F_9_read_74 x2 M).2) := by
  rw [F_9_read_74]
  refine b9_read_74 (Nat.le_of_ble_eq_true rfl) ?_
  exact b9_read_89  rfl rfl
def F_9_read_14 (k4 : Int32 → Int32 → Mem → Int32 × Mem) (x2 : Int32) (x3 : Int32) (xs0 : Int32) (M : Mem) : Int32 × Mem := if xs0 = 0 then (F_9_read_23 k4 x2 x3 ((F_5_needsNumber_0 7 M).1) ((F_5_needsNumber_0 7 M).2)) else (F_9_read_74 x2 M)
def P_9_read_14 (pk4 : Int32 → Int32 → Mem → Prop) (x2 : Int32) (x3 : Int32) (xs0 : Int32) (M : Mem) : Prop := ((¬ xs0 = 0 → True) ∧ (xs0 = 0 → ((P_5_needsNumber_0 7 M) ∧ (P_9_read_23 pk4 x2 x3 ((F_5_needsNumber_0 7 M).1) ((F_5_needsNumber_0 7 M).2)))))
theorem T_9_read_14 {g : Gl} (k4 : Int32 → Int32 → Mem → Int32 × Mem) (pk4 : Int32 → Int32 → Mem → Prop) (ih4 : ∀ (x2 : Int32) (x3 : Int32) (M : Mem), pk4 x2 x3 M → Rn g 2 m9_read 4 [some (.ref 1592), some (.ref 1560), some (.int x2), some (.int x3)] [] M (some (.int (k4 x2 x3 M).1)) ((k4 x2 x3 M).2)) (x2 : Int32) (x3 : Int32) (xs0 : Int32) (M : Mem) (hp : P_9_read_14 pk4 x2 x3 xs0 M) : Rn g 2 m9_read 14 [some (.ref 1592), some (.ref 1560), some (.int x2), some (.int x3)] [.int xs0] M (some (.int (F_9_read_14 k4 x2 x3 xs0 M).1)) ((F_9_read_14 k4 x2 x3 xs0 M).2) := by
  rw [F_9_read_14]
  rw [P_9_read_14] at hp
  refine b9_read_14  (fun h => ?_) (fun h => ?_)
  · rw [if_neg h]
    exact T_9_read_74 x2 M
  · rw [if_pos h]
    have hp := hp.2 h
    obtain ⟨hc, hp⟩ := hp
    refine b9_read_17  (C_5_needsNumber 7 M hc) (Nat.le_of_ble_eq_true rfl) ?_
    exact T_9_read_23 k4 pk4 ih4 x2 x3 ((F_5_needsNumber_0 7 M).1) ((F_5_needsNumber_0 7 M).2) hp
def F_9_read_4  : Nat → Int32 → Int32 → Mem → Int32 × Mem
  | 0, _, _, M => (0, M)
  | n + 1, x2, x3, M => if (12 : Int32) < x3 then (F_9_read_74 x2 M) else (F_9_read_14 (F_9_read_4 n) x2 x3 ((F_5_atEnd_0 M).1) ((F_5_atEnd_0 M).2))
def P_9_read_4  : Nat → Int32 → Int32 → Mem → Prop
  | 0, _, _, _ => False
  | n + 1, x2, x3, M => (((12 : Int32) < x3 → True) ∧ (¬ (12 : Int32) < x3 → ((P_5_atEnd_0 M) ∧ (P_9_read_14 (P_9_read_4 n) x2 x3 ((F_5_atEnd_0 M).1) ((F_5_atEnd_0 M).2)))))
theorem T_9_read_4 {g : Gl} : ∀ (n : Nat) (x2 : Int32) (x3 : Int32) (M : Mem) (hp : P_9_read_4 n x2 x3 M), Rn g 2 m9_read 4 [some (.ref 1592), some (.ref 1560), some (.int x2), some (.int x3)] [] M (some (.int (F_9_read_4 n x2 x3 M).1)) ((F_9_read_4 n x2 x3 M).2) := by
  intro n
  induction n with
  | zero => intro x2 x3 M hp; exact hp.elim
  | succ n ih =>
    intro x2 x3 M hp
    rw [F_9_read_4]
    rw [P_9_read_4] at hp
    refine b9_read_4  (fun h => ?_) (fun h => ?_)
    · rw [if_pos h]
      exact T_9_read_74 x2 M
    · rw [if_neg h]
      have hp := hp.2 h
      obtain ⟨hc, hp⟩ := hp
      refine b9_read_10  (C_5_atEnd  M hc) (Nat.le_of_ble_eq_true rfl) ?_
      exact T_9_read_14 (F_9_read_4 n) (P_9_read_4 n) ih x2 x3 ((F_5_atEnd_0 M).1) ((F_5_atEnd_0 M).2) hp
def F_9_read_0 (M : Mem) : Int32 × Mem := F_9_read_4 FU 0 0 M
def P_9_read_0 (M : Mem) : Prop := (P_9_read_4 FU 0 0 M)
theorem T_9_read_0 {g : Gl} (M : Mem) (hp : P_9_read_0 M) : Rn g 2 m9_read 0 [some (.ref 1592), some (.ref 1560), none, none] [] M (some (.int (F_9_read_0 M).1)) ((F_9_read_0 M).2) := by
  rw [F_9_read_0]
  rw [P_9_read_0] at hp
  refine b9_read_0  ?_
  exact T_9_read_4 FU 0 0 M hp
theorem C_9_read {g : Gl}   (M : Mem) (hp : P_9_read_0 M) : Ms g 2 m9_read [.ref 1592, .ref 1560] M (some (.int (F_9_read_0 M).1)) ((F_9_read_0 M).2) := Ms.of okM_m9_read (Nat.le_of_ble_eq_true rfl) (R_wk (lc rfl (lc rfl (ln (ln l0)))) (T_9_read_0 M hp))
def F_9_standing_41 (k17 : Int32 → Int32 → Mem → Int32 × Mem) (x2 : Int32) (xs0 : Int32) (M : Mem) : Int32 × Mem := k17 (xs0 &&& (rd M 1566 ((rd M 1593 x2.toNatClampNeg).toNatClampNeg))) (x2 + 1) M
def P_9_standing_41 (pk17 : Int32 → Int32 → Mem → Prop) (x2 : Int32) (xs0 : Int32) (M : Mem) : Prop := (vp_in x2 12) ∧ (vp_in (rd M 1593 x2.toNatClampNeg) 8) ∧ (pk17 (xs0 &&& (rd M 1566 ((rd M 1593 x2.toNatClampNeg).toNatClampNeg))) (x2 + 1) M)
theorem T_9_standing_41 {g : Gl} (k17 : Int32 → Int32 → Mem → Int32 × Mem) (pk17 : Int32 → Int32 → Mem → Prop) (ih17 : ∀ (x1 : Int32) (x2 : Int32) (M : Mem), pk17 x1 x2 M → Rn g 2 m9_standing 17 [some (.ref 1592), some (.int x1), some (.int x2), none] [] M (some (.int (k17 x1 x2 M).1)) ((k17 x1 x2 M).2)) (x2 : Int32) (xs0 : Int32) (M : Mem) (hp : P_9_standing_41 pk17 x2 xs0 M) : Rn g 2 m9_standing 41 [some (.ref 1592), none, some (.int x2), none] [.int xs0] M (some (.int (F_9_standing_41 k17 x2 xs0 M).1)) ((F_9_standing_41 k17 x2 xs0 M).2) := by
  rw [F_9_standing_41]
  rw [P_9_standing_41] at hp
  obtain ⟨p0, p1, hp⟩ := hp
  refine b9_standing_41 p0 p1 ?_
  exact ih17 (xs0 &&& (rd M 1566 ((rd M 1593 x2.toNatClampNeg).toNatClampNeg))) (x2 + 1) M hp
def F_9_standing_17  : Nat → Int32 → Int32 → Mem → Int32 × Mem
  | 0, _, _, M => (0, M)
  | n + 1, x1, x2, M => if (rd M 1592 7) ≤ x2 then ((x1, M)) else (if x2 = 0 then (F_9_standing_41 (F_9_standing_17 n) x2 x1 M) else (F_9_standing_41 (F_9_standing_17 n) x2 (F_0_oneAhead_0 M x1) M))
def P_9_standing_17  : Nat → Int32 → Int32 → Mem → Prop
  | 0, _, _, _ => False
  | n + 1, x1, x2, M => (((rd M 1592 7) ≤ x2 → True) ∧ (¬ (rd M 1592 7) ≤ x2 → ((¬ x2 = 0 → ((P_0_oneAhead_0 M x1) ∧ (P_9_standing_41 (P_9_standing_17 n) x2 (F_0_oneAhead_0 M x1) M))) ∧ (x2 = 0 → (P_9_standing_41 (P_9_standing_17 n) x2 x1 M)))))
theorem T_9_standing_17 {g : Gl} : ∀ (n : Nat) (x1 : Int32) (x2 : Int32) (M : Mem) (hp : P_9_standing_17 n x1 x2 M), Rn g 2 m9_standing 17 [some (.ref 1592), some (.int x1), some (.int x2), none] [] M (some (.int (F_9_standing_17 n x1 x2 M).1)) ((F_9_standing_17 n x1 x2 M).2) := by
  intro n
  induction n with
  | zero => intro x1 x2 M hp; exact hp.elim
  | succ n ih =>
    intro x1 x2 M hp
    rw [F_9_standing_17]
    rw [P_9_standing_17] at hp
    refine b9_standing_17  (fun h => ?_) (fun h => ?_)
    · rw [if_pos h]
      exact b9_standing_65  rfl rfl
    · rw [if_neg h]
      have hp := hp.2 h
      refine b9_standing_25  (fun h => ?_) (fun h => ?_)
      · rw [if_neg h]
        have hp := hp.1 h
        obtain ⟨hc, hp⟩ := hp
        refine b9_standing_33  (C_0_oneAhead x1 M hc) (Nat.le_of_ble_eq_true rfl) ?_
        exact T_9_standing_41 (F_9_standing_17 n) (P_9_standing_17 n) ih x2 (F_0_oneAhead_0 M x1) M hp
      · rw [if_pos h]
        have hp := hp.2 h
        refine b9_standing_29  ?_
        exact T_9_standing_41 (F_9_standing_17 n) (P_9_standing_17 n) ih x2 x1 M hp
def F_9_standing_7 (M : Mem) : Int32 × Mem := F_9_standing_17 FU (F_4_allRooms_0 M) 0 M
def P_9_standing_7 (M : Mem) : Prop := (((P_9_standing_17 FU (F_4_allRooms_0 M) 0 M)))
theorem T_9_standing_7 {g : Gl} (M : Mem) (hp : P_9_standing_7 M) : Rn g 2 m9_standing 7 [some (.ref 1592), none, none, none] [] M (some (.int (F_9_standing_7 M).1)) ((F_9_standing_7 M).2) := by
  rw [F_9_standing_7]
  rw [P_9_standing_7] at hp
  refine b9_standing_7  (C_4_allRooms  M) (Nat.le_of_ble_eq_true rfl) ?_
  refine b9_standing_14  ?_
  exact T_9_standing_17 FU (F_4_allRooms_0 M) 0 M hp
def F_9_standing_0 (M : Mem) : Int32 × Mem := F_9_standing_7 (F_0_renew_0 M)
def P_9_standing_0 (M : Mem) : Prop := ((P_0_renew_0 M) ∧ (P_9_standing_7 (F_0_renew_0 M)))
theorem T_9_standing_0 {g : Gl} (M : Mem) (hp : P_9_standing_0 M) : Rn g 2 m9_standing 0 [some (.ref 1592), none, none, none] [] M (some (.int (F_9_standing_0 M).1)) ((F_9_standing_0 M).2) := by
  rw [F_9_standing_0]
  rw [P_9_standing_0] at hp
  obtain ⟨hc, hp⟩ := hp
  refine b9_standing_0  (C_0_renew  M hc) (Nat.le_of_ble_eq_true rfl) ?_
  exact T_9_standing_7 (F_0_renew_0 M) hp
theorem C_9_standing {g : Gl}   (M : Mem) (hp : P_9_standing_0 M) : Ms g 2 m9_standing [.ref 1592] M (some (.int (F_9_standing_0 M).1)) ((F_9_standing_0 M).2) := Ms.of okM_m9_standing (Nat.le_of_ble_eq_true rfl) (R_wk (lc rfl (ln (ln (ln l0)))) (T_9_standing_0 M hp))
def F_9_allKnow_33 (k2 : Int32 → Int32 → Int32) (M : Mem) (x1 : Int32) (x2 : Int32) : Int32 := k2 x1 (x2 + 1)
def P_9_allKnow_33 (pk2 : Int32 → Int32 → Prop) (M : Mem) (x1 : Int32) (x2 : Int32) : Prop := (pk2 x1 (x2 + 1))
theorem T_9_allKnow_33 {g : Gl} (k2 : Int32 → Int32 → Int32) (pk2 : Int32 → Int32 → Prop) (M : Mem) (ih2 : ∀ (x1 : Int32) (x2 : Int32), pk2 x1 x2 → Rn g 1 m9_allKnow 2 [some (.ref 1592), some (.int x1), some (.int x2)] [] M (some (.int (k2 x1 x2))) (M)) (x1 : Int32) (x2 : Int32) (hp : P_9_allKnow_33 pk2 M x1 x2) : Rn g 1 m9_allKnow 33 [some (.ref 1592), some (.int x1), some (.int x2)] [] M (some (.int (F_9_allKnow_33 k2 M x1 x2))) (M) := by
  rw [F_9_allKnow_33]
  rw [P_9_allKnow_33] at hp
  refine b9_allKnow_33  ?_
  exact ih2 x1 (x2 + 1) hp
def F_9_allKnow_2 (M : Mem) : Nat → Int32 → Int32 → Int32
  | 0, _, _ => 0
  | n + 1, x1, x2 => if x1 < x2 then (1) else (if (1024 : Int32) ≤ x2 then (1) else (if (rd M 1596 x2.toNatClampNeg) = 0 then (F_9_allKnow_33 (F_9_allKnow_2 M n) M x1 x2) else (if (F_6_bitCount_0f7a4_0 M x2) ≤ 1 then (F_9_allKnow_33 (F_9_allKnow_2 M n) M x1 x2) else (0))))
def P_9_allKnow_2 (M : Mem) : Nat → Int32 → Int32 → Prop
  | 0, _, _ => False
  | n + 1, x1, x2 => ((x1 < x2 → True) ∧ (¬ x1 < x2 → (((1024 : Int32) ≤ x2 → True) ∧ (¬ (1024 : Int32) ≤ x2 → (vp_in x2 1024) ∧ (((rd M 1596 x2.toNatClampNeg) = 0 → P_9_allKnow_33 (P_9_allKnow_2 M n) M x1 x2) ∧ (¬ (rd M 1596 x2.toNatClampNeg) = 0 → (((((F_6_bitCount_0f7a4_0 M x2) ≤ 1 → P_9_allKnow_33 (P_9_allKnow_2 M n) M x1 x2) ∧ (¬ (F_6_bitCount_0f7a4_0 M x2) ≤ 1 → True))))))))))
theorem T_9_allKnow_2 {g : Gl} (M : Mem) : ∀ (n : Nat) (x1 : Int32) (x2 : Int32) (hp : P_9_allKnow_2 M n x1 x2), Rn g 1 m9_allKnow 2 [some (.ref 1592), some (.int x1), some (.int x2)] [] M (some (.int (F_9_allKnow_2 M n x1 x2))) (M) := by
  intro n
  induction n with
  | zero => intro x1 x2 hp; exact hp.elim
  | succ n ih =>
    intro x1 x2 hp
    rw [F_9_allKnow_2]
    rw [P_9_allKnow_2] at hp
    refine b9_allKnow_2  (fun h => ?_) (fun h => ?_)
    · rw [if_pos h]
      exact b9_allKnow_39  rfl rfl
    · rw [if_neg h]
      have hp := hp.2 h
      refine b9_allKnow_7  (fun h => ?_) (fun h => ?_)
      · rw [if_pos h]
        exact b9_allKnow_39  rfl rfl
      · rw [if_neg h]
        have hp := hp.2 h
        obtain ⟨p0, hp⟩ := hp
        refine b9_allKnow_14 p0 (fun h => ?_) (fun h => ?_)
        · rw [if_pos h]
          have hp := hp.1 h
          exact T_9_allKnow_33 (F_9_allKnow_2 M n) (P_9_allKnow_2 M n) _ ih x1 x2 hp
        · rw [if_neg h]
          have hp := hp.2 h
          refine b9_allKnow_23  (C_6_bitCount_0f7a4 x2 M) (Nat.le_of_ble_eq_true rfl) ?_
          refine b9_allKnow_27  (fun h => ?_) (fun h => ?_)
          · rw [if_pos h]
            have hp := hp.1 h
            exact T_9_allKnow_33 (F_9_allKnow_2 M n) (P_9_allKnow_2 M n) _ ih x1 x2 hp
          · rw [if_neg h]
            exact b9_allKnow_31  rfl rfl
def F_9_allKnow_0 (M : Mem) (x1 : Int32) : Int32 := F_9_allKnow_2 M FU x1 0
def P_9_allKnow_0 (M : Mem) (x1 : Int32) : Prop := (P_9_allKnow_2 M FU x1 0)
theorem T_9_allKnow_0 {g : Gl} (M : Mem) (x1 : Int32) (hp : P_9_allKnow_0 M x1) : Rn g 1 m9_allKnow 0 [some (.ref 1592), some (.int x1), none] [] M (some (.int (F_9_allKnow_0 M x1))) (M) := by
  rw [F_9_allKnow_0]
  rw [P_9_allKnow_0] at hp
  refine b9_allKnow_0  ?_
  exact T_9_allKnow_2 _ FU x1 0 hp
theorem C_9_allKnow {g : Gl}  (x1 : Int32) (M : Mem) (hp : P_9_allKnow_0 M x1) : Ms g 1 m9_allKnow [.ref 1592, .int x1] M (some (.int (F_9_allKnow_0 M x1))) (M) := Ms.of okM_m9_allKnow (Nat.le_of_ble_eq_true rfl) (R_wk (lc rfl (lc rfl (ln l0))) (T_9_allKnow_0 M x1 hp))
def F_9_lookOnce_74 (k2 : Int32 → Int32 → Mem → Mem) (x1 : Int32) (x2 : Int32) (M : Mem) : Mem := k2 x1 (x2 + 1) M
def P_9_lookOnce_74 (pk2 : Int32 → Int32 → Mem → Prop) (x1 : Int32) (x2 : Int32) (M : Mem) : Prop := (pk2 x1 (x2 + 1) M)
theorem T_9_lookOnce_74 {g : Gl} (k2 : Int32 → Int32 → Mem → Mem) (pk2 : Int32 → Int32 → Mem → Prop) (ih2 : ∀ (x1 : Int32) (x2 : Int32) (M : Mem), pk2 x1 x2 M → Rn g 2 m9_lookOnce 2 [some (.ref 1592), some (.int x1), some (.int x2), none, none] [] M (none) ((k2 x1 x2 M))) (x1 : Int32) (x2 : Int32) (M : Mem) (hp : P_9_lookOnce_74 pk2 x1 x2 M) : Rn g 2 m9_lookOnce 74 [some (.ref 1592), some (.int x1), some (.int x2), none, none] [] M (none) ((F_9_lookOnce_74 k2 x1 x2 M)) := by
  rw [F_9_lookOnce_74]
  rw [P_9_lookOnce_74] at hp
  refine b9_lookOnce_74  ?_
  exact ih2 x1 (x2 + 1) M hp
def F_9_lookOnce_39 (k2 : Int32 → Int32 → Mem → Mem) : Nat → Int32 → Int32 → Int32 → Int32 → Mem → Mem
  | 0, _, _, _, _, M => M
  | n + 1, x1, x2, x3, x4, M => if (8 : Int32) ≤ x4 then (F_9_lookOnce_74 k2 x1 x2 M) else (if x3 = 0 then (F_9_lookOnce_74 k2 x1 x2 M) else ((F_9_lookOnce_39 k2 n) x1 x2 x3 (x4 + 1) (wr M 1597 ((x3 &&& (rd M 1566 x4.toNatClampNeg)).toNatClampNeg) (vp_nar .boolean 1))))
def P_9_lookOnce_39 (pk2 : Int32 → Int32 → Mem → Prop) : Nat → Int32 → Int32 → Int32 → Int32 → Mem → Prop
  | 0, _, _, _, _, _ => False
  | n + 1, x1, x2, x3, x4, M => (((8 : Int32) ≤ x4 → P_9_lookOnce_74 pk2 x1 x2 M) ∧ (¬ (8 : Int32) ≤ x4 → ((x3 = 0 → P_9_lookOnce_74 pk2 x1 x2 M) ∧ (¬ x3 = 0 → (vp_in x4 8) ∧ (vp_in (x3 &&& (rd M 1566 x4.toNatClampNeg)) 1024) ∧ (((P_9_lookOnce_39 pk2 n) x1 x2 x3 (x4 + 1) (wr M 1597 ((x3 &&& (rd M 1566 x4.toNatClampNeg)).toNatClampNeg) (vp_nar .boolean 1))))))))
theorem T_9_lookOnce_39 {g : Gl} (k2 : Int32 → Int32 → Mem → Mem) (pk2 : Int32 → Int32 → Mem → Prop) (ih2 : ∀ (x1 : Int32) (x2 : Int32) (M : Mem), pk2 x1 x2 M → Rn g 2 m9_lookOnce 2 [some (.ref 1592), some (.int x1), some (.int x2), none, none] [] M (none) ((k2 x1 x2 M))) : ∀ (n : Nat) (x1 : Int32) (x2 : Int32) (x3 : Int32) (x4 : Int32) (M : Mem) (hp : P_9_lookOnce_39 pk2 n x1 x2 x3 x4 M), Rn g 2 m9_lookOnce 39 [some (.ref 1592), some (.int x1), some (.int x2), some (.int x3), some (.int x4)] [] M (none) ((F_9_lookOnce_39 k2 n x1 x2 x3 x4 M)) := by
  intro n
  induction n with
  | zero => intro x1 x2 x3 x4 M hp; exact hp.elim
  | succ n ih =>
    intro x1 x2 x3 x4 M hp
    rw [F_9_lookOnce_39]
    rw [P_9_lookOnce_39] at hp
    refine b9_lookOnce_39  (fun h => ?_) (fun h => ?_)
    · rw [if_pos h]
      have hp := hp.1 h
      exact T_9_lookOnce_74 k2 pk2 ih2 x1 x2 M hp
    · rw [if_neg h]
      have hp := hp.2 h
      refine b9_lookOnce_46  (fun h => ?_) (fun h => ?_)
      · rw [if_pos h]
        have hp := hp.1 h
        exact T_9_lookOnce_74 k2 pk2 ih2 x1 x2 M hp
      · rw [if_neg h]
        have hp := hp.2 h
        obtain ⟨p0, p1, hp⟩ := hp
        refine b9_lookOnce_50 p0 p1 ?_
        refine b9_lookOnce_68  ?_
        exact ih x1 x2 x3 (x4 + 1) (wr M 1597 ((x3 &&& (rd M 1566 x4.toNatClampNeg)).toNatClampNeg) (vp_nar .boolean 1)) hp
def F_9_lookOnce_35 (k2 : Int32 → Int32 → Mem → Mem) (x1 : Int32) (x2 : Int32) (xs0 : Int32) (M : Mem) : Mem := F_9_lookOnce_39 k2 FU x1 x2 xs0 0 M
def P_9_lookOnce_35 (pk2 : Int32 → Int32 → Mem → Prop) (x1 : Int32) (x2 : Int32) (xs0 : Int32) (M : Mem) : Prop := (P_9_lookOnce_39 pk2 FU x1 x2 xs0 0 M)
theorem T_9_lookOnce_35 {g : Gl} (k2 : Int32 → Int32 → Mem → Mem) (pk2 : Int32 → Int32 → Mem → Prop) (ih2 : ∀ (x1 : Int32) (x2 : Int32) (M : Mem), pk2 x1 x2 M → Rn g 2 m9_lookOnce 2 [some (.ref 1592), some (.int x1), some (.int x2), none, none] [] M (none) ((k2 x1 x2 M))) (x1 : Int32) (x2 : Int32) (xs0 : Int32) (M : Mem) (hp : P_9_lookOnce_35 pk2 x1 x2 xs0 M) : Rn g 2 m9_lookOnce 35 [some (.ref 1592), some (.int x1), some (.int x2), none, none] [.int xs0] M (none) ((F_9_lookOnce_35 k2 x1 x2 xs0 M)) := by
  rw [F_9_lookOnce_35]
  rw [P_9_lookOnce_35] at hp
  refine b9_lookOnce_35  ?_
  exact T_9_lookOnce_39 k2 pk2 ih2 FU x1 x2 xs0 0 M hp
def F_9_lookOnce_82  : Nat → Int32 → Int32 → Mem → Mem
  | 0, _, _, M => M
  | n + 1, x1, x2, M => if x1 < x2 then (M) else (if (1024 : Int32) ≤ x2 then (M) else ((F_9_lookOnce_82 n) x1 (x2 + 1) (wr (wr M 1596 x2.toNatClampNeg (vp_nar .boolean (rd M 1597 x2.toNatClampNeg))) 1597 x2.toNatClampNeg (vp_nar .boolean 0))))
def P_9_lookOnce_82  : Nat → Int32 → Int32 → Mem → Prop
  | 0, _, _, _ => False
  | n + 1, x1, x2, M => ((x1 < x2 → True) ∧ (¬ x1 < x2 → (((1024 : Int32) ≤ x2 → True) ∧ (¬ (1024 : Int32) ≤ x2 → (vp_in x2 1024) ∧ ((vp_in x2 1024) ∧ (((P_9_lookOnce_82 n) x1 (x2 + 1) (wr (wr M 1596 x2.toNatClampNeg (vp_nar .boolean (rd M 1597 x2.toNatClampNeg))) 1597 x2.toNatClampNeg (vp_nar .boolean 0)))))))))
theorem T_9_lookOnce_82 {g : Gl} : ∀ (n : Nat) (x1 : Int32) (x2 : Int32) (M : Mem) (hp : P_9_lookOnce_82 n x1 x2 M), Rn g 2 m9_lookOnce 82 [some (.ref 1592), some (.int x1), some (.int x2), none, none] [] M (none) ((F_9_lookOnce_82 n x1 x2 M)) := by
  intro n
  induction n with
  | zero => intro x1 x2 M hp; exact hp.elim
  | succ n ih =>
    intro x1 x2 M hp
    rw [F_9_lookOnce_82]
    rw [P_9_lookOnce_82] at hp
    refine b9_lookOnce_82  (fun h => ?_) (fun h => ?_)
    · rw [if_pos h]
      exact b9_lookOnce_119  rfl rfl
    · rw [if_neg h]
      have hp := hp.2 h
      refine b9_lookOnce_87  (fun h => ?_) (fun h => ?_)
      · rw [if_pos h]
        exact b9_lookOnce_119  rfl rfl
      · rw [if_neg h]
        have hp := hp.2 h
        obtain ⟨p0, hp⟩ := hp
        refine b9_lookOnce_94 p0 ?_
        obtain ⟨p1, hp⟩ := hp
        refine b9_lookOnce_106 p1 ?_
        refine b9_lookOnce_113  ?_
        exact ih x1 (x2 + 1) (wr (wr M 1596 x2.toNatClampNeg (vp_nar .boolean (rd M 1597 x2.toNatClampNeg))) 1597 x2.toNatClampNeg (vp_nar .boolean 0)) hp
def F_9_lookOnce_80 (x1 : Int32) (M : Mem) : Mem := F_9_lookOnce_82 FU x1 0 M
def P_9_lookOnce_80 (x1 : Int32) (M : Mem) : Prop := (P_9_lookOnce_82 FU x1 0 M)
theorem T_9_lookOnce_80 {g : Gl} (x1 : Int32) (M : Mem) (hp : P_9_lookOnce_80 x1 M) : Rn g 2 m9_lookOnce 80 [some (.ref 1592), some (.int x1), none, none, none] [] M (none) ((F_9_lookOnce_80 x1 M)) := by
  rw [F_9_lookOnce_80]
  rw [P_9_lookOnce_80] at hp
  refine b9_lookOnce_80  ?_
  exact T_9_lookOnce_82 FU x1 0 M hp
def F_9_lookOnce_2  : Nat → Int32 → Int32 → Mem → Mem
  | 0, _, _, M => M
  | n + 1, x1, x2, M => if x1 < x2 then (F_9_lookOnce_80 x1 M) else (if (1024 : Int32) ≤ x2 then (F_9_lookOnce_80 x1 M) else (if (rd M 1596 x2.toNatClampNeg) = 0 then (F_9_lookOnce_35 (F_9_lookOnce_2 n) x1 x2 0 M) else (F_9_lookOnce_35 (F_9_lookOnce_2 n) x1 x2 (F_0_oneAhead_0 M x2) M)))
def P_9_lookOnce_2  : Nat → Int32 → Int32 → Mem → Prop
  | 0, _, _, _ => False
  | n + 1, x1, x2, M => ((x1 < x2 → P_9_lookOnce_80 x1 M) ∧ (¬ x1 < x2 → (((1024 : Int32) ≤ x2 → P_9_lookOnce_80 x1 M) ∧ (¬ (1024 : Int32) ≤ x2 → (vp_in x2 1024) ∧ (((rd M 1596 x2.toNatClampNeg) = 0 → (P_9_lookOnce_35 (P_9_lookOnce_2 n) x1 x2 0 M)) ∧ (¬ (rd M 1596 x2.toNatClampNeg) = 0 → ((P_0_oneAhead_0 M x2) ∧ ((P_9_lookOnce_35 (P_9_lookOnce_2 n) x1 x2 (F_0_oneAhead_0 M x2) M)))))))))
theorem T_9_lookOnce_2 {g : Gl} : ∀ (n : Nat) (x1 : Int32) (x2 : Int32) (M : Mem) (hp : P_9_lookOnce_2 n x1 x2 M), Rn g 2 m9_lookOnce 2 [some (.ref 1592), some (.int x1), some (.int x2), none, none] [] M (none) ((F_9_lookOnce_2 n x1 x2 M)) := by
  intro n
  induction n with
  | zero => intro x1 x2 M hp; exact hp.elim
  | succ n ih =>
    intro x1 x2 M hp
    rw [F_9_lookOnce_2]
    rw [P_9_lookOnce_2] at hp
    refine b9_lookOnce_2  (fun h => ?_) (fun h => ?_)
    · rw [if_pos h]
      have hp := hp.1 h
      exact T_9_lookOnce_80 x1 M hp
    · rw [if_neg h]
      have hp := hp.2 h
      refine b9_lookOnce_7  (fun h => ?_) (fun h => ?_)
      · rw [if_pos h]
        have hp := hp.1 h
        exact T_9_lookOnce_80 x1 M hp
      · rw [if_neg h]
        have hp := hp.2 h
        obtain ⟨p0, hp⟩ := hp
        refine b9_lookOnce_14 p0 (fun h => ?_) (fun h => ?_)
        · rw [if_pos h]
          have hp := hp.1 h
          refine b9_lookOnce_34  ?_
          exact T_9_lookOnce_35 (F_9_lookOnce_2 n) (P_9_lookOnce_2 n) ih x1 x2 0 M hp
        · rw [if_neg h]
          have hp := hp.2 h
          obtain ⟨hc, hp⟩ := hp
          refine b9_lookOnce_23  (C_0_oneAhead x2 M hc) (Nat.le_of_ble_eq_true rfl) ?_
          refine b9_lookOnce_31  ?_
          exact T_9_lookOnce_35 (F_9_lookOnce_2 n) (P_9_lookOnce_2 n) ih x1 x2 (F_0_oneAhead_0 M x2) M hp
def F_9_lookOnce_0 (x1 : Int32) (M : Mem) : Mem := F_9_lookOnce_2 FU x1 0 M
def P_9_lookOnce_0 (x1 : Int32) (M : Mem) : Prop := (P_9_lookOnce_2 FU x1 0 M)
theorem T_9_lookOnce_0 {g : Gl} (x1 : Int32) (M : Mem) (hp : P_9_lookOnce_0 x1 M) : Rn g 2 m9_lookOnce 0 [some (.ref 1592), some (.int x1), none, none, none] [] M (none) ((F_9_lookOnce_0 x1 M)) := by
  rw [F_9_lookOnce_0]
  rw [P_9_lookOnce_0] at hp
  refine b9_lookOnce_0  ?_
  exact T_9_lookOnce_2 FU x1 0 M hp
theorem C_9_lookOnce {g : Gl}  (x1 : Int32) (M : Mem) (hp : P_9_lookOnce_0 x1 M) : Ms g 2 m9_lookOnce [.ref 1592, .int x1] M (none) ((F_9_lookOnce_0 x1 M)) := Ms.of okM_m9_lookOnce (Nat.le_of_ble_eq_true rfl) (R_wk (lc rfl (lc rfl (ln (ln (ln l0))))) (T_9_lookOnce_0 x1 M hp))
def F_9_roomsToKnow_77 (k56 : Int32 → Int32 → Mem → Int32 × Mem) (x1 : Int32) (x2 : Int32) (M : Mem) : Int32 × Mem := k56 x1 (x2 + 1) M
def P_9_roomsToKnow_77 (pk56 : Int32 → Int32 → Mem → Prop) (x1 : Int32) (x2 : Int32) (M : Mem) : Prop := (pk56 x1 (x2 + 1) M)
theorem T_9_roomsToKnow_77 {g : Gl} (k56 : Int32 → Int32 → Mem → Int32 × Mem) (pk56 : Int32 → Int32 → Mem → Prop) (ih56 : ∀ (x1 : Int32) (x2 : Int32) (M : Mem), pk56 x1 x2 M → Rn g 3 m9_roomsToKnow 56 [some (.ref 1592), some (.int x1), some (.int x2)] [] M (some (.int (k56 x1 x2 M).1)) ((k56 x1 x2 M).2)) (x1 : Int32) (x2 : Int32) (M : Mem) (hp : P_9_roomsToKnow_77 pk56 x1 x2 M) : Rn g 3 m9_roomsToKnow 77 [some (.ref 1592), some (.int x1), some (.int x2)] [] M (some (.int (F_9_roomsToKnow_77 k56 x1 x2 M).1)) ((F_9_roomsToKnow_77 k56 x1 x2 M).2) := by
  rw [F_9_roomsToKnow_77]
  rw [P_9_roomsToKnow_77] at hp
  refine b9_roomsToKnow_77  ?_
  exact ih56 x1 (x2 + 1) M hp
def F_9_roomsToKnow_56  : Nat → Int32 → Int32 → Mem → Int32 × Mem
  | 0, _, _, M => (0, M)
  | n + 1, x1, x2, M => if (6 : Int32) < x2 then (((-1), M)) else (if (F_9_allKnow_0 M x1) = 0 then (F_9_roomsToKnow_77 (F_9_roomsToKnow_56 n) x1 x2 (F_9_lookOnce_0 x1 M)) else ((x2, M)))
def P_9_roomsToKnow_56  : Nat → Int32 → Int32 → Mem → Prop
  | 0, _, _, _ => False
  | n + 1, x1, x2, M => (((6 : Int32) < x2 → True) ∧ (¬ (6 : Int32) < x2 → ((P_9_allKnow_0 M x1) ∧ ((((F_9_allKnow_0 M x1) = 0 → ((P_9_lookOnce_0 x1 M) ∧ (P_9_roomsToKnow_77 (P_9_roomsToKnow_56 n) x1 x2 (F_9_lookOnce_0 x1 M)))) ∧ (¬ (F_9_allKnow_0 M x1) = 0 → True))))))
theorem T_9_roomsToKnow_56 {g : Gl} : ∀ (n : Nat) (x1 : Int32) (x2 : Int32) (M : Mem) (hp : P_9_roomsToKnow_56 n x1 x2 M), Rn g 3 m9_roomsToKnow 56 [some (.ref 1592), some (.int x1), some (.int x2)] [] M (some (.int (F_9_roomsToKnow_56 n x1 x2 M).1)) ((F_9_roomsToKnow_56 n x1 x2 M).2) := by
  intro n
  induction n with
  | zero => intro x1 x2 M hp; exact hp.elim
  | succ n ih =>
    intro x1 x2 M hp
    rw [F_9_roomsToKnow_56]
    rw [P_9_roomsToKnow_56] at hp
    refine b9_roomsToKnow_56  (fun h => ?_) (fun h => ?_)
    · rw [if_pos h]
      exact b9_roomsToKnow_83  rfl rfl
    · rw [if_neg h]
      have hp := hp.2 h
      obtain ⟨hc, hp⟩ := hp
      refine b9_roomsToKnow_62  (C_9_allKnow x1 M hc) (Nat.le_of_ble_eq_true rfl) ?_
      refine b9_roomsToKnow_67  (fun h => ?_) (fun h => ?_)
      · rw [if_pos h]
        have hp := hp.1 h
        obtain ⟨hc, hp⟩ := hp
        refine b9_roomsToKnow_72  (C_9_lookOnce x1 M hc) (Nat.le_of_ble_eq_true rfl) ?_
        exact T_9_roomsToKnow_77 (F_9_roomsToKnow_56 n) (P_9_roomsToKnow_56 n) ih x1 x2 (F_9_lookOnce_0 x1 M) hp
      · rw [if_neg h]
        exact b9_roomsToKnow_70  rfl rfl
def F_9_roomsToKnow_50 (x1 : Int32) (xs0 : Int32) (M : Mem) : Int32 × Mem := F_9_roomsToKnow_56 FU x1 0 (wr M 1596 ((xs0 &&& x1).toNatClampNeg) (vp_nar .boolean 1))
def P_9_roomsToKnow_50 (x1 : Int32) (xs0 : Int32) (M : Mem) : Prop := (vp_in (xs0 &&& x1) 1024) ∧ ((P_9_roomsToKnow_56 FU x1 0 (wr M 1596 ((xs0 &&& x1).toNatClampNeg) (vp_nar .boolean 1))))
theorem T_9_roomsToKnow_50 {g : Gl} (x1 : Int32) (xs0 : Int32) (M : Mem) (hp : P_9_roomsToKnow_50 x1 xs0 M) : Rn g 3 m9_roomsToKnow 50 [some (.ref 1592), some (.int x1), none] [.int xs0, .ref 1596] M (some (.int (F_9_roomsToKnow_50 x1 xs0 M).1)) ((F_9_roomsToKnow_50 x1 xs0 M).2) := by
  rw [F_9_roomsToKnow_50]
  rw [P_9_roomsToKnow_50] at hp
  obtain ⟨p0, hp⟩ := hp
  refine b9_roomsToKnow_50 p0 ?_
  refine b9_roomsToKnow_54  ?_
  exact T_9_roomsToKnow_56 FU x1 0 (wr M 1596 ((xs0 &&& x1).toNatClampNeg) (vp_nar .boolean 1)) hp
def F_9_roomsToKnow_42 (x1 : Int32) (M : Mem) : Int32 × Mem := F_9_roomsToKnow_50 x1 ((F_9_standing_0 M).1) ((F_9_standing_0 M).2)
def P_9_roomsToKnow_42 (x1 : Int32) (M : Mem) : Prop := ((P_9_standing_0 M) ∧ (P_9_roomsToKnow_50 x1 ((F_9_standing_0 M).1) ((F_9_standing_0 M).2)))
theorem T_9_roomsToKnow_42 {g : Gl} (x1 : Int32) (M : Mem) (hp : P_9_roomsToKnow_42 x1 M) : Rn g 3 m9_roomsToKnow 42 [some (.ref 1592), some (.int x1), none] [] M (some (.int (F_9_roomsToKnow_42 x1 M).1)) ((F_9_roomsToKnow_42 x1 M).2) := by
  rw [F_9_roomsToKnow_42]
  rw [P_9_roomsToKnow_42] at hp
  obtain ⟨hc, hp⟩ := hp
  refine b9_roomsToKnow_42  (C_9_standing  M hc) (Nat.le_of_ble_eq_true rfl) ?_
  exact T_9_roomsToKnow_50 x1 ((F_9_standing_0 M).1) ((F_9_standing_0 M).2) hp
def F_9_roomsToKnow_10  : Nat → Int32 → Int32 → Mem → Int32 × Mem
  | 0, _, _, M => (0, M)
  | n + 1, x1, x2, M => if x1 < x2 then (F_9_roomsToKnow_42 x1 M) else (if (1024 : Int32) ≤ x2 then (F_9_roomsToKnow_42 x1 M) else ((F_9_roomsToKnow_10 n) x1 (x2 + 1) (wr (wr M 1596 x2.toNatClampNeg (vp_nar .boolean 0)) 1597 x2.toNatClampNeg (vp_nar .boolean 0))))
def P_9_roomsToKnow_10  : Nat → Int32 → Int32 → Mem → Prop
  | 0, _, _, _ => False
  | n + 1, x1, x2, M => ((x1 < x2 → P_9_roomsToKnow_42 x1 M) ∧ (¬ x1 < x2 → (((1024 : Int32) ≤ x2 → P_9_roomsToKnow_42 x1 M) ∧ (¬ (1024 : Int32) ≤ x2 → (vp_in x2 1024) ∧ ((vp_in x2 1024) ∧ (((P_9_roomsToKnow_10 n) x1 (x2 + 1) (wr (wr M 1596 x2.toNatClampNeg (vp_nar .boolean 0)) 1597 x2.toNatClampNeg (vp_nar .boolean 0)))))))))
theorem T_9_roomsToKnow_10 {g : Gl} : ∀ (n : Nat) (x1 : Int32) (x2 : Int32) (M : Mem) (hp : P_9_roomsToKnow_10 n x1 x2 M), Rn g 3 m9_roomsToKnow 10 [some (.ref 1592), some (.int x1), some (.int x2)] [] M (some (.int (F_9_roomsToKnow_10 n x1 x2 M).1)) ((F_9_roomsToKnow_10 n x1 x2 M).2) := by
  intro n
  induction n with
  | zero => intro x1 x2 M hp; exact hp.elim
  | succ n ih =>
    intro x1 x2 M hp
    rw [F_9_roomsToKnow_10]
    rw [P_9_roomsToKnow_10] at hp
    refine b9_roomsToKnow_10  (fun h => ?_) (fun h => ?_)
    · rw [if_pos h]
      have hp := hp.1 h
      exact T_9_roomsToKnow_42 x1 M hp
    · rw [if_neg h]
      have hp := hp.2 h
      refine b9_roomsToKnow_15  (fun h => ?_) (fun h => ?_)
      · rw [if_pos h]
        have hp := hp.1 h
        exact T_9_roomsToKnow_42 x1 M hp
      · rw [if_neg h]
        have hp := hp.2 h
        obtain ⟨p0, hp⟩ := hp
        refine b9_roomsToKnow_22 p0 ?_
        obtain ⟨p1, hp⟩ := hp
        refine b9_roomsToKnow_29 p1 ?_
        refine b9_roomsToKnow_36  ?_
        exact ih x1 (x2 + 1) (wr (wr M 1596 x2.toNatClampNeg (vp_nar .boolean 0)) 1597 x2.toNatClampNeg (vp_nar .boolean 0)) hp
def F_9_roomsToKnow_0 (M : Mem) : Int32 × Mem := F_9_roomsToKnow_10 FU (F_4_allRooms_0 M) 0 M
def P_9_roomsToKnow_0 (M : Mem) : Prop := (((P_9_roomsToKnow_10 FU (F_4_allRooms_0 M) 0 M)))
theorem T_9_roomsToKnow_0 {g : Gl} (M : Mem) (hp : P_9_roomsToKnow_0 M) : Rn g 3 m9_roomsToKnow 0 [some (.ref 1592), none, none] [] M (some (.int (F_9_roomsToKnow_0 M).1)) ((F_9_roomsToKnow_0 M).2) := by
  rw [F_9_roomsToKnow_0]
  rw [P_9_roomsToKnow_0] at hp
  refine b9_roomsToKnow_0  (C_4_allRooms  M) (Nat.le_of_ble_eq_true rfl) ?_
  refine b9_roomsToKnow_7  ?_
  exact T_9_roomsToKnow_10 FU (F_4_allRooms_0 M) 0 M hp
theorem C_9_roomsToKnow {g : Gl}   (M : Mem) (hp : P_9_roomsToKnow_0 M) : Ms g 3 m9_roomsToKnow [.ref 1592] M (some (.int (F_9_roomsToKnow_0 M).1)) ((F_9_roomsToKnow_0 M).2) := Ms.of okM_m9_roomsToKnow (Nat.le_of_ble_eq_true rfl) (R_wk (lc rfl (ln (ln l0))) (T_9_roomsToKnow_0 M hp))
def F_9_fewestBehind_58 (k16 : Int32 → Int32 → Int32 → Int32 → Int32) (M : Mem) (x1 : Int32) (x3 : Int32) (x4 : Int32) (x5 : Int32) : Int32 := k16 x1 x3 x4 (x5 + 1)
def P_9_fewestBehind_58 (pk16 : Int32 → Int32 → Int32 → Int32 → Prop) (M : Mem) (x1 : Int32) (x3 : Int32) (x4 : Int32) (x5 : Int32) : Prop := (pk16 x1 x3 x4 (x5 + 1))
theorem T_9_fewestBehind_58 {g : Gl} (k16 : Int32 → Int32 → Int32 → Int32 → Int32) (pk16 : Int32 → Int32 → Int32 → Int32 → Prop) (M : Mem) (ih16 : ∀ (x1 : Int32) (x3 : Int32) (x4 : Int32) (x5 : Int32), pk16 x1 x3 x4 x5 → Rn g 1 m9_fewestBehind 16 [some (.ref 1592), some (.int x1), none, some (.int x3), some (.int x4), some (.int x5)] [] M (some (.int (k16 x1 x3 x4 x5))) (M)) (x1 : Int32) (x3 : Int32) (x4 : Int32) (x5 : Int32) (hp : P_9_fewestBehind_58 pk16 M x1 x3 x4 x5) : Rn g 1 m9_fewestBehind 58 [some (.ref 1592), some (.int x1), none, some (.int x3), some (.int x4), some (.int x5)] [] M (some (.int (F_9_fewestBehind_58 k16 M x1 x3 x4 x5))) (M) := by
  rw [F_9_fewestBehind_58]
  rw [P_9_fewestBehind_58] at hp
  refine b9_fewestBehind_58  ?_
  exact ih16 x1 x3 x4 (x5 + 1) hp
def F_9_fewestBehind_16 (M : Mem) : Nat → Int32 → Int32 → Int32 → Int32 → Int32
  | 0, _, _, _, _ => 0
  | n + 1, x1, x3, x4, x5 => if (rd M 1561 0) ≤ x5 then (x4) else (if ((x3 >>> (x5 &&& 31)) &&& 1) = 0 then (F_9_fewestBehind_58 (F_9_fewestBehind_16 M n) M x1 x3 x4 x5) else (F_9_fewestBehind_58 (F_9_fewestBehind_16 M n) M x1 x3 (if (rd M 1595 ((((x1 + 1) * 10) + x5).toNatClampNeg)) < x4 then (rd M 1595 ((((x1 + 1) * 10) + x5).toNatClampNeg)) else x4) x5))
def P_9_fewestBehind_16 (M : Mem) : Nat → Int32 → Int32 → Int32 → Int32 → Prop
  | 0, _, _, _, _ => False
  | n + 1, x1, x3, x4, x5 => (((rd M 1561 0) ≤ x5 → True) ∧ (¬ (rd M 1561 0) ≤ x5 → ((((x3 >>> (x5 &&& 31)) &&& 1) = 0 → P_9_fewestBehind_58 (P_9_fewestBehind_16 M n) M x1 x3 x4 x5) ∧ (¬ ((x3 >>> (x5 &&& 31)) &&& 1) = 0 → (vp_in (((x1 + 1) * 10) + x5) 120) ∧ ((P_9_fewestBehind_58 (P_9_fewestBehind_16 M n) M x1 x3 (if (rd M 1595 ((((x1 + 1) * 10) + x5).toNatClampNeg)) < x4 then (rd M 1595 ((((x1 + 1) * 10) + x5).toNatClampNeg)) else x4) x5))))))
theorem T_9_fewestBehind_16 {g : Gl} (M : Mem) : ∀ (n : Nat) (x1 : Int32) (x3 : Int32) (x4 : Int32) (x5 : Int32) (hp : P_9_fewestBehind_16 M n x1 x3 x4 x5), Rn g 1 m9_fewestBehind 16 [some (.ref 1592), some (.int x1), none, some (.int x3), some (.int x4), some (.int x5)] [] M (some (.int (F_9_fewestBehind_16 M n x1 x3 x4 x5))) (M) := by
  intro n
  induction n with
  | zero => intro x1 x3 x4 x5 hp; exact hp.elim
  | succ n ih =>
    intro x1 x3 x4 x5 hp
    rw [F_9_fewestBehind_16]
    rw [P_9_fewestBehind_16] at hp
    refine b9_fewestBehind_16  (fun h => ?_) (fun h => ?_)
    · rw [if_pos h]
      exact b9_fewestBehind_64  rfl rfl
    · rw [if_neg h]
      have hp := hp.2 h
      refine b9_fewestBehind_28  (fun h => ?_) (fun h => ?_)
      · rw [if_pos h]
        have hp := hp.1 h
        exact T_9_fewestBehind_58 (F_9_fewestBehind_16 M n) (P_9_fewestBehind_16 M n) _ ih x1 x3 x4 x5 hp
      · rw [if_neg h]
        have hp := hp.2 h
        obtain ⟨p0, hp⟩ := hp
        refine b9_fewestBehind_37 p0 (Nat.le_of_ble_eq_true rfl) ?_
        refine b9_fewestBehind_56  ?_
        exact T_9_fewestBehind_58 (F_9_fewestBehind_16 M n) (P_9_fewestBehind_16 M n) _ ih x1 x3 (if (rd M 1595 ((((x1 + 1) * 10) + x5).toNatClampNeg)) < x4 then (rd M 1595 ((((x1 + 1) * 10) + x5).toNatClampNeg)) else x4) x5 hp
def F_9_fewestBehind_0 (M : Mem) (x1 : Int32) (x2 : Int32) : Int32 := F_9_fewestBehind_16 M FU x1 (F_0_aheadOf_0 M x2) 99 0
def P_9_fewestBehind_0 (M : Mem) (x1 : Int32) (x2 : Int32) : Prop := ((P_0_aheadOf_0 M x2) ∧ ((P_9_fewestBehind_16 M FU x1 (F_0_aheadOf_0 M x2) 99 0)))
theorem T_9_fewestBehind_0 {g : Gl} (M : Mem) (x1 : Int32) (x2 : Int32) (hp : P_9_fewestBehind_0 M x1 x2) : Rn g 1 m9_fewestBehind 0 [some (.ref 1592), some (.int x1), some (.int x2), none, none, none] [] M (some (.int (F_9_fewestBehind_0 M x1 x2))) (M) := by
  rw [F_9_fewestBehind_0]
  rw [P_9_fewestBehind_0] at hp
  obtain ⟨hc, hp⟩ := hp
  refine b9_fewestBehind_0  (C_0_aheadOf x2 M hc) (Nat.le_of_ble_eq_true rfl) ?_
  refine b9_fewestBehind_8  ?_
  exact T_9_fewestBehind_16 _ FU x1 (F_0_aheadOf_0 M x2) 99 0 hp
theorem C_9_fewestBehind {g : Gl}  (x1 : Int32) (x2 : Int32) (M : Mem) (hp : P_9_fewestBehind_0 M x1 x2) : Ms g 1 m9_fewestBehind [.ref 1592, .int x1, .int x2] M (some (.int (F_9_fewestBehind_0 M x1 x2))) (M) := Ms.of okM_m9_fewestBehind (Nat.le_of_ble_eq_true rfl) (R_wk (lc rfl (lc rfl (lc rfl (ln (ln (ln l0)))))) (T_9_fewestBehind_0 M x1 x2 hp))
def F_9_slip_0 (M : Mem) (x1 : Int32) (x2 : Int32) : Int32 := if (rd M 1562 x2.toNatClampNeg) = (rd M 1593 x1.toNatClampNeg) then (0) else (1)
def P_9_slip_0 (M : Mem) (x1 : Int32) (x2 : Int32) : Prop := (vp_in x2 10) ∧ (vp_in x1 12)
theorem T_9_slip_0 {g : Gl} (M : Mem) (x1 : Int32) (x2 : Int32) (hp : P_9_slip_0 M x1 x2) : Rn g 0 m9_slip 0 [some (.ref 1592), some (.int x1), some (.int x2)] [] M (some (.int (F_9_slip_0 M x1 x2))) (M) := by
  rw [F_9_slip_0]
  rw [P_9_slip_0] at hp
  obtain ⟨p0, p1⟩ := hp
  refine b9_slip_0 p0 p1 (fun h => ?_) (fun h => ?_)
  · rw [if_neg h]
    refine b9_slip_22  ?_
    exact b9_slip_23  rfl rfl
  · rw [if_pos h]
    refine b9_slip_18  ?_
    exact b9_slip_23  rfl rfl
theorem C_9_slip {g : Gl}  (x1 : Int32) (x2 : Int32) (M : Mem) (hp : P_9_slip_0 M x1 x2) : Ms g 0 m9_slip [.ref 1592, .int x1, .int x2] M (some (.int (F_9_slip_0 M x1 x2))) (M) := Ms.of okM_m9_slip (Nat.le_of_ble_eq_true rfl) (R_wk (lc rfl (lc rfl (lc rfl l0))) (T_9_slip_0 M x1 x2 hp))
def F_9_fewestWrong_60 (k23 : Int32 → Mem → Int32 × Mem) (k29 : Int32 → Int32 → Mem → Int32 × Mem) (x1 : Int32) (x2 : Int32) (xs0 : Int32) (M : Mem) : Int32 × Mem := k29 x1 (x2 + 1) (wr M 1595 ((x1 * 10) + x2).toNatClampNeg (if (xs0 + (F_9_slip_0 M x1 x2)) < 99 then (xs0 + (F_9_slip_0 M x1 x2)) else 99))
def P_9_fewestWrong_60 (pk23 : Int32 → Mem → Prop) (pk29 : Int32 → Int32 → Mem → Prop) (x1 : Int32) (x2 : Int32) (xs0 : Int32) (M : Mem) : Prop := ((P_9_slip_0 M x1 x2) ∧ (((vp_in ((x1 * 10) + x2) 120) ∧ (pk29 x1 (x2 + 1) (wr M 1595 ((x1 * 10) + x2).toNatClampNeg (if (xs0 + (F_9_slip_0 M x1 x2)) < 99 then (xs0 + (F_9_slip_0 M x1 x2)) else 99))))))
theorem T_9_fewestWrong_60 {g : Gl} (k23 : Int32 → Mem → Int32 × Mem) (k29 : Int32 → Int32 → Mem → Int32 × Mem) (pk23 : Int32 → Mem → Prop) (pk29 : Int32 → Int32 → Mem → Prop) (ih23 : ∀ (x1 : Int32) (M : Mem), pk23 x1 M → Rn g 2 m9_fewestWrong 23 [some (.ref 1592), some (.int x1), none, none] [] M (some (.int (k23 x1 M).1)) ((k23 x1 M).2)) (ih29 : ∀ (x1 : Int32) (x2 : Int32) (M : Mem), pk29 x1 x2 M → Rn g 2 m9_fewestWrong 29 [some (.ref 1592), some (.int x1), some (.int x2), none] [] M (some (.int (k29 x1 x2 M).1)) ((k29 x1 x2 M).2)) (x1 : Int32) (x2 : Int32) (xs0 : Int32) (M : Mem) (hp : P_9_fewestWrong_60 pk23 pk29 x1 x2 xs0 M) : Rn g 2 m9_fewestWrong 60 [some (.ref 1592), some (.int x1), some (.int x2), none] [.int xs0] M (some (.int (F_9_fewestWrong_60 k23 k29 x1 x2 xs0 M).1)) ((F_9_fewestWrong_60 k23 k29 x1 x2 xs0 M).2) := by
  rw [F_9_fewestWrong_60]
  rw [P_9_fewestWrong_60] at hp
  obtain ⟨hc, hp⟩ := hp
  refine b9_fewestWrong_60  (C_9_slip x1 x2 M hc) (Nat.le_of_ble_eq_true rfl) ?_
  refine b9_fewestWrong_80 (Nat.le_of_ble_eq_true rfl) ?_
  obtain ⟨p0, hp⟩ := hp
  refine b9_fewestWrong_84 p0 ?_
  exact ih29 x1 (x2 + 1) (wr M 1595 ((x1 * 10) + x2).toNatClampNeg (if (xs0 + (F_9_slip_0 M x1 x2)) < 99 then (xs0 + (F_9_slip_0 M x1 x2)) else 99)) hp
def F_9_fewestWrong_29 (k23 : Int32 → Mem → Int32 × Mem) : Nat → Int32 → Int32 → Mem → Int32 × Mem
  | 0, _, _, M => (0, M)
  | n + 1, x1, x2, M => if (rd M 1561 0) ≤ x2 then (k23 (x1 + (-1)) M) else (if x1 = ((rd M 1592 7) - 1) then (F_9_fewestWrong_60 k23 (F_9_fewestWrong_29 k23 n) x1 x2 0 M) else (F_9_fewestWrong_60 k23 (F_9_fewestWrong_29 k23 n) x1 x2 (F_9_fewestBehind_0 M x1 x2) M))
def P_9_fewestWrong_29 (pk23 : Int32 → Mem → Prop) : Nat → Int32 → Int32 → Mem → Prop
  | 0, _, _, _ => False
  | n + 1, x1, x2, M => (((rd M 1561 0) ≤ x2 → (pk23 (x1 + (-1)) M)) ∧ (¬ (rd M 1561 0) ≤ x2 → ((¬ x1 = ((rd M 1592 7) - 1) → ((P_9_fewestBehind_0 M x1 x2) ∧ (P_9_fewestWrong_60 pk23 (P_9_fewestWrong_29 pk23 n) x1 x2 (F_9_fewestBehind_0 M x1 x2) M))) ∧ (x1 = ((rd M 1592 7) - 1) → (P_9_fewestWrong_60 pk23 (P_9_fewestWrong_29 pk23 n) x1 x2 0 M)))))
theorem T_9_fewestWrong_29 {g : Gl} (k23 : Int32 → Mem → Int32 × Mem) (pk23 : Int32 → Mem → Prop) (ih23 : ∀ (x1 : Int32) (M : Mem), pk23 x1 M → Rn g 2 m9_fewestWrong 23 [some (.ref 1592), some (.int x1), none, none] [] M (some (.int (k23 x1 M).1)) ((k23 x1 M).2)) : ∀ (n : Nat) (x1 : Int32) (x2 : Int32) (M : Mem) (hp : P_9_fewestWrong_29 pk23 n x1 x2 M), Rn g 2 m9_fewestWrong 29 [some (.ref 1592), some (.int x1), some (.int x2), none] [] M (some (.int (F_9_fewestWrong_29 k23 n x1 x2 M).1)) ((F_9_fewestWrong_29 k23 n x1 x2 M).2) := by
  intro n
  induction n with
  | zero => intro x1 x2 M hp; exact hp.elim
  | succ n ih =>
    intro x1 x2 M hp
    rw [F_9_fewestWrong_29]
    rw [P_9_fewestWrong_29] at hp
    refine b9_fewestWrong_29  (fun h => ?_) (fun h => ?_)
    · rw [if_pos h]
      have hp := hp.1 h
      refine b9_fewestWrong_91  ?_
      exact ih23 (x1 + (-1)) M hp
    · rw [if_neg h]
      have hp := hp.2 h
      refine b9_fewestWrong_40  (fun h => ?_) (fun h => ?_)
      · rw [if_neg h]
        have hp := hp.1 h
        obtain ⟨hc, hp⟩ := hp
        refine b9_fewestWrong_54  (C_9_fewestBehind x1 x2 M hc) (Nat.le_of_ble_eq_true rfl) ?_
        exact T_9_fewestWrong_60 k23 (F_9_fewestWrong_29 k23 n) pk23 (P_9_fewestWrong_29 pk23 n) ih23 ih x1 x2 (F_9_fewestBehind_0 M x1 x2) M hp
      · rw [if_pos h]
        have hp := hp.2 h
        refine b9_fewestWrong_50  ?_
        exact T_9_fewestWrong_60 k23 (F_9_fewestWrong_29 k23 n) pk23 (P_9_fewestWrong_29 pk23 n) ih23 ih x1 x2 0 M hp
def F_9_fewestWrong_102  : Nat → Int32 → Int32 → Mem → Int32 × Mem
  | 0, _, _, M => (0, M)
  | n + 1, x1, x2, M => if (rd M 1561 0) ≤ x2 then (if x1 = 99 then (((-1), M)) else ((x1, M))) else ((F_9_fewestWrong_102 n) (if (rd M 1595 x2.toNatClampNeg) < x1 then (rd M 1595 x2.toNatClampNeg) else x1) (x2 + 1) M)
def P_9_fewestWrong_102  : Nat → Int32 → Int32 → Mem → Prop
  | 0, _, _, _ => False
  | n + 1, x1, x2, M => (((rd M 1561 0) ≤ x2 → True) ∧ (¬ (rd M 1561 0) ≤ x2 → (vp_in x2 120) ∧ (((P_9_fewestWrong_102 n) (if (rd M 1595 x2.toNatClampNeg) < x1 then (rd M 1595 x2.toNatClampNeg) else x1) (x2 + 1) M))))
theorem T_9_fewestWrong_102 {g : Gl} : ∀ (n : Nat) (x1 : Int32) (x2 : Int32) (M : Mem) (hp : P_9_fewestWrong_102 n x1 x2 M), Rn g 2 m9_fewestWrong 102 [some (.ref 1592), some (.int x1), some (.int x2), none] [] M (some (.int (F_9_fewestWrong_102 n x1 x2 M).1)) ((F_9_fewestWrong_102 n x1 x2 M).2) := by
  intro n
  induction n with
  | zero => intro x1 x2 M hp; exact hp.elim
  | succ n ih =>
    intro x1 x2 M hp
    rw [F_9_fewestWrong_102]
    rw [P_9_fewestWrong_102] at hp
    refine b9_fewestWrong_102  (fun h => ?_) (fun h => ?_)
    · rw [if_pos h]
      refine b9_fewestWrong_130  (fun h => ?_) (fun h => ?_)
      · rw [if_neg h]
        refine b9_fewestWrong_140  ?_
        exact b9_fewestWrong_141  rfl rfl
      · rw [if_pos h]
        refine b9_fewestWrong_136  ?_
        exact b9_fewestWrong_141  rfl rfl
    · rw [if_neg h]
      have hp := hp.2 h
      obtain ⟨p0, hp⟩ := hp
      refine b9_fewestWrong_113 p0 (Nat.le_of_ble_eq_true rfl) ?_
      refine b9_fewestWrong_123  ?_
      exact ih (if (rd M 1595 x2.toNatClampNeg) < x1 then (rd M 1595 x2.toNatClampNeg) else x1) (x2 + 1) M hp
def F_9_fewestWrong_23  : Nat → Int32 → Mem → Int32 × Mem
  | 0, _, M => (0, M)
  | n + 1, x1, M => if x1 < 0 then (F_9_fewestWrong_102 FU 99 0 M) else (F_9_fewestWrong_29 (F_9_fewestWrong_23 n) FU x1 0 M)
def P_9_fewestWrong_23  : Nat → Int32 → Mem → Prop
  | 0, _, _ => False
  | n + 1, x1, M => ((x1 < 0 → (P_9_fewestWrong_102 FU 99 0 M)) ∧ (¬ x1 < 0 → (P_9_fewestWrong_29 (P_9_fewestWrong_23 n) FU x1 0 M)))
theorem T_9_fewestWrong_23 {g : Gl} : ∀ (n : Nat) (x1 : Int32) (M : Mem) (hp : P_9_fewestWrong_23 n x1 M), Rn g 2 m9_fewestWrong 23 [some (.ref 1592), some (.int x1), none, none] [] M (some (.int (F_9_fewestWrong_23 n x1 M).1)) ((F_9_fewestWrong_23 n x1 M).2) := by
  intro n
  induction n with
  | zero => intro x1 M hp; exact hp.elim
  | succ n ih =>
    intro x1 M hp
    rw [F_9_fewestWrong_23]
    rw [P_9_fewestWrong_23] at hp
    refine b9_fewestWrong_23  (fun h => ?_) (fun h => ?_)
    · rw [if_pos h]
      have hp := hp.1 h
      refine b9_fewestWrong_97  ?_
      exact T_9_fewestWrong_102 FU 99 0 M hp
    · rw [if_neg h]
      have hp := hp.2 h
      refine b9_fewestWrong_27  ?_
      exact T_9_fewestWrong_29 (F_9_fewestWrong_23 n) (P_9_fewestWrong_23 n) ih FU x1 0 M hp
def F_9_fewestWrong_16 (M : Mem) : Int32 × Mem := F_9_fewestWrong_23 FU ((rd M 1592 7) - 1) M
def P_9_fewestWrong_16 (M : Mem) : Prop := (P_9_fewestWrong_23 FU ((rd M 1592 7) - 1) M)
theorem T_9_fewestWrong_16 {g : Gl} (M : Mem) (hp : P_9_fewestWrong_16 M) : Rn g 2 m9_fewestWrong 16 [some (.ref 1592), none, none, none] [] M (some (.int (F_9_fewestWrong_16 M).1)) ((F_9_fewestWrong_16 M).2) := by
  rw [F_9_fewestWrong_16]
  rw [P_9_fewestWrong_16] at hp
  refine b9_fewestWrong_16  ?_
  exact T_9_fewestWrong_23 FU ((rd M 1592 7) - 1) M hp
def F_9_fewestWrong_0 (M : Mem) : Int32 × Mem := if (rd M 1592 7) = 0 then ((0, M)) else (F_9_fewestWrong_16 (F_0_renew_0 M))
def P_9_fewestWrong_0 (M : Mem) : Prop := ((¬ (rd M 1592 7) = 0 → ((P_0_renew_0 M) ∧ (P_9_fewestWrong_16 (F_0_renew_0 M)))) ∧ ((rd M 1592 7) = 0 → True))
theorem T_9_fewestWrong_0 {g : Gl} (M : Mem) (hp : P_9_fewestWrong_0 M) : Rn g 2 m9_fewestWrong 0 [some (.ref 1592), none, none, none] [] M (some (.int (F_9_fewestWrong_0 M).1)) ((F_9_fewestWrong_0 M).2) := by
  rw [F_9_fewestWrong_0]
  rw [P_9_fewestWrong_0] at hp
  refine b9_fewestWrong_0  (fun h => ?_) (fun h => ?_)
  · rw [if_neg h]
    have hp := hp.1 h
    obtain ⟨hc, hp⟩ := hp
    refine b9_fewestWrong_9  (C_0_renew  M hc) (Nat.le_of_ble_eq_true rfl) ?_
    exact T_9_fewestWrong_16 (F_0_renew_0 M) hp
  · rw [if_pos h]
    exact b9_fewestWrong_7  rfl rfl
theorem C_9_fewestWrong {g : Gl}   (M : Mem) (hp : P_9_fewestWrong_0 M) : Ms g 2 m9_fewestWrong [.ref 1592] M (some (.int (F_9_fewestWrong_0 M).1)) ((F_9_fewestWrong_0 M).2) := Ms.of okM_m9_fewestWrong (Nat.le_of_ble_eq_true rfl) (R_wk (lc rfl (ln (ln (ln l0)))) (T_9_fewestWrong_0 M hp))
def F_9_firstWrong_112 (k13 : Int32 → Int32 → Int32 → Int32 → Int32) (k70 : Int32 → Int32 → Int32 → Int32 → Int32 → Int32 → Int32) (M : Mem) (x1 : Int32) (x2 : Int32) (x4 : Int32) (x5 : Int32) (x6 : Int32) (x7 : Int32) : Int32 := k70 x1 x2 x4 x5 x6 (x7 + 1)
def P_9_firstWrong_112 (pk13 : Int32 → Int32 → Int32 → Int32 → Prop) (pk70 : Int32 → Int32 → Int32 → Int32 → Int32 → Int32 → Prop) (M : Mem) (x1 : Int32) (x2 : Int32) (x4 : Int32) (x5 : Int32) (x6 : Int32) (x7 : Int32) : Prop := (pk70 x1 x2 x4 x5 x6 (x7 + 1))
theorem T_9_firstWrong_112 {g : Gl} (k13 : Int32 → Int32 → Int32 → Int32 → Int32) (k70 : Int32 → Int32 → Int32 → Int32 → Int32 → Int32 → Int32) (pk13 : Int32 → Int32 → Int32 → Int32 → Prop) (pk70 : Int32 → Int32 → Int32 → Int32 → Int32 → Int32 → Prop) (M : Mem) (ih13 : ∀ (x1 : Int32) (x2 : Int32) (x3 : Int32) (x4 : Int32), pk13 x1 x2 x3 x4 → Rn g 2 m9_firstWrong 13 [some (.ref 1592), some (.int x1), some (.int x2), some (.int x3), some (.int x4), none, none, none] [] M (some (.int (k13 x1 x2 x3 x4))) (M)) (ih70 : ∀ (x1 : Int32) (x2 : Int32) (x4 : Int32) (x5 : Int32) (x6 : Int32) (x7 : Int32), pk70 x1 x2 x4 x5 x6 x7 → Rn g 2 m9_firstWrong 70 [some (.ref 1592), some (.int x1), some (.int x2), none, some (.int x4), some (.int x5), some (.int x6), some (.int x7)] [] M (some (.int (k70 x1 x2 x4 x5 x6 x7))) (M)) (x1 : Int32) (x2 : Int32) (x4 : Int32) (x5 : Int32) (x6 : Int32) (x7 : Int32) (hp : P_9_firstWrong_112 pk13 pk70 M x1 x2 x4 x5 x6 x7) : Rn g 2 m9_firstWrong 112 [some (.ref 1592), some (.int x1), some (.int x2), none, some (.int x4), some (.int x5), some (.int x6), some (.int x7)] [] M (some (.int (F_9_firstWrong_112 k13 k70 M x1 x2 x4 x5 x6 x7))) (M) := by
  rw [F_9_firstWrong_112]
  rw [P_9_firstWrong_112] at hp
  refine b9_firstWrong_112  ?_
  exact ih70 x1 x2 x4 x5 x6 (x7 + 1) hp
def F_9_firstWrong_70 (k13 : Int32 → Int32 → Int32 → Int32 → Int32) (M : Mem) : Nat → Int32 → Int32 → Int32 → Int32 → Int32 → Int32 → Int32
  | 0, _, _, _, _, _, _ => 0
  | n + 1, x1, x2, x4, x5, x6, x7 => if (rd M 1561 0) ≤ x7 then (k13 x1 x2 (x5 &&& (rd M 1566 ((rd M 1593 x4.toNatClampNeg).toNatClampNeg))) (x4 + 1)) else (if ((x6 >>> (x7 &&& 31)) &&& 1) = 0 then (F_9_firstWrong_112 k13 (F_9_firstWrong_70 k13 M n) M x1 x2 x4 x5 x6 x7) else (if (rd M 1595 (((x4 * 10) + x7).toNatClampNeg)) = x1 then (F_9_firstWrong_112 k13 (F_9_firstWrong_70 k13 M n) M x1 x4 x4 x5 x6 x7) else (F_9_firstWrong_112 k13 (F_9_firstWrong_70 k13 M n) M x1 x2 x4 x5 x6 x7)))
def P_9_firstWrong_70 (pk13 : Int32 → Int32 → Int32 → Int32 → Prop) (M : Mem) : Nat → Int32 → Int32 → Int32 → Int32 → Int32 → Int32 → Prop
  | 0, _, _, _, _, _, _ => False
  | n + 1, x1, x2, x4, x5, x6, x7 => (((rd M 1561 0) ≤ x7 → (vp_in x4 12) ∧ (vp_in (rd M 1593 x4.toNatClampNeg) 8) ∧ (pk13 x1 x2 (x5 &&& (rd M 1566 ((rd M 1593 x4.toNatClampNeg).toNatClampNeg))) (x4 + 1))) ∧ (¬ (rd M 1561 0) ≤ x7 → ((((x6 >>> (x7 &&& 31)) &&& 1) = 0 → P_9_firstWrong_112 pk13 (P_9_firstWrong_70 pk13 M n) M x1 x2 x4 x5 x6 x7) ∧ (¬ ((x6 >>> (x7 &&& 31)) &&& 1) = 0 → (vp_in ((x4 * 10) + x7) 120) ∧ ((¬ (rd M 1595 (((x4 * 10) + x7).toNatClampNeg)) = x1 → P_9_firstWrong_112 pk13 (P_9_firstWrong_70 pk13 M n) M x1 x2 x4 x5 x6 x7) ∧ ((rd M 1595 (((x4 * 10) + x7).toNatClampNeg)) = x1 → (P_9_firstWrong_112 pk13 (P_9_firstWrong_70 pk13 M n) M x1 x4 x4 x5 x6 x7)))))))
theorem T_9_firstWrong_70 {g : Gl} (k13 : Int32 → Int32 → Int32 → Int32 → Int32) (pk13 : Int32 → Int32 → Int32 → Int32 → Prop) (M : Mem) (ih13 : ∀ (x1 : Int32) (x2 : Int32) (x3 : Int32) (x4 : Int32), pk13 x1 x2 x3 x4 → Rn g 2 m9_firstWrong 13 [some (.ref 1592), some (.int x1), some (.int x2), some (.int x3), some (.int x4), none, none, none] [] M (some (.int (k13 x1 x2 x3 x4))) (M)) : ∀ (n : Nat) (x1 : Int32) (x2 : Int32) (x4 : Int32) (x5 : Int32) (x6 : Int32) (x7 : Int32) (hp : P_9_firstWrong_70 pk13 M n x1 x2 x4 x5 x6 x7), Rn g 2 m9_firstWrong 70 [some (.ref 1592), some (.int x1), some (.int x2), none, some (.int x4), some (.int x5), some (.int x6), some (.int x7)] [] M (some (.int (F_9_firstWrong_70 k13 M n x1 x2 x4 x5 x6 x7))) (M) := by
  intro n
  induction n with
  | zero => intro x1 x2 x4 x5 x6 x7 hp; exact hp.elim
  | succ n ih =>
    intro x1 x2 x4 x5 x6 x7 hp
    rw [F_9_firstWrong_70]
    rw [P_9_firstWrong_70] at hp
    refine b9_firstWrong_70  (fun h => ?_) (fun h => ?_)
    · rw [if_pos h]
      have hp := hp.1 h
      obtain ⟨p0, p1, hp⟩ := hp
      refine b9_firstWrong_118 p0 p1 ?_
      exact ih13 x1 x2 (x5 &&& (rd M 1566 ((rd M 1593 x4.toNatClampNeg).toNatClampNeg))) (x4 + 1) hp
    · rw [if_neg h]
      have hp := hp.2 h
      refine b9_firstWrong_82  (fun h => ?_) (fun h => ?_)
      · rw [if_pos h]
        have hp := hp.1 h
        exact T_9_firstWrong_112 k13 (F_9_firstWrong_70 k13 M n) pk13 (P_9_firstWrong_70 pk13 M n) _ ih13 ih x1 x2 x4 x5 x6 x7 hp
      · rw [if_neg h]
        have hp := hp.2 h
        obtain ⟨p2, hp⟩ := hp
        refine b9_firstWrong_92 p2 (fun h => ?_) (fun h => ?_)
        · rw [if_neg h]
          have hp := hp.1 h
          exact T_9_firstWrong_112 k13 (F_9_firstWrong_70 k13 M n) pk13 (P_9_firstWrong_70 pk13 M n) _ ih13 ih x1 x2 x4 x5 x6 x7 hp
        · rw [if_pos h]
          have hp := hp.2 h
          refine b9_firstWrong_109  ?_
          exact T_9_firstWrong_112 k13 (F_9_firstWrong_70 k13 M n) pk13 (P_9_firstWrong_70 pk13 M n) _ ih13 ih x1 x4 x4 x5 x6 x7 hp
def F_9_firstWrong_43 (k13 : Int32 → Int32 → Int32 → Int32 → Int32) (M : Mem) (x1 : Int32) (x2 : Int32) (x4 : Int32) (xs0 : Int32) : Int32 := F_9_firstWrong_70 k13 M FU x1 x2 x4 xs0 (xs0 &&& ((rd M 1566 ((rd M 1593 x4.toNatClampNeg).toNatClampNeg)) ^^^ (-1))) 0
def P_9_firstWrong_43 (pk13 : Int32 → Int32 → Int32 → Int32 → Prop) (M : Mem) (x1 : Int32) (x2 : Int32) (x4 : Int32) (xs0 : Int32) : Prop := (vp_in x4 12) ∧ (vp_in (rd M 1593 x4.toNatClampNeg) 8) ∧ (P_9_firstWrong_70 pk13 M FU x1 x2 x4 xs0 (xs0 &&& ((rd M 1566 ((rd M 1593 x4.toNatClampNeg).toNatClampNeg)) ^^^ (-1))) 0)
theorem T_9_firstWrong_43 {g : Gl} (k13 : Int32 → Int32 → Int32 → Int32 → Int32) (pk13 : Int32 → Int32 → Int32 → Int32 → Prop) (M : Mem) (ih13 : ∀ (x1 : Int32) (x2 : Int32) (x3 : Int32) (x4 : Int32), pk13 x1 x2 x3 x4 → Rn g 2 m9_firstWrong 13 [some (.ref 1592), some (.int x1), some (.int x2), some (.int x3), some (.int x4), none, none, none] [] M (some (.int (k13 x1 x2 x3 x4))) (M)) (x1 : Int32) (x2 : Int32) (x4 : Int32) (xs0 : Int32) (hp : P_9_firstWrong_43 pk13 M x1 x2 x4 xs0) : Rn g 2 m9_firstWrong 43 [some (.ref 1592), some (.int x1), some (.int x2), none, some (.int x4), none, none, none] [.int xs0] M (some (.int (F_9_firstWrong_43 k13 M x1 x2 x4 xs0))) (M) := by
  rw [F_9_firstWrong_43]
  rw [P_9_firstWrong_43] at hp
  obtain ⟨p0, p1, hp⟩ := hp
  refine b9_firstWrong_43 p0 p1 ?_
  exact T_9_firstWrong_70 k13 pk13 _ ih13 FU x1 x2 x4 xs0 (xs0 &&& ((rd M 1566 ((rd M 1593 x4.toNatClampNeg).toNatClampNeg)) ^^^ (-1))) 0 hp
def F_9_firstWrong_13 (M : Mem) : Nat → Int32 → Int32 → Int32 → Int32 → Int32
  | 0, _, _, _, _ => 0
  | n + 1, x1, x2, x3, x4 => if (rd M 1592 7) ≤ x4 then (x2) else (if x1 ≤ 0 then (x2) else (if x4 = 0 then (F_9_firstWrong_43 (F_9_firstWrong_13 M n) M x1 x2 x4 x3) else (F_9_firstWrong_43 (F_9_firstWrong_13 M n) M x1 x2 x4 (F_0_oneAhead_0 M x3))))
def P_9_firstWrong_13 (M : Mem) : Nat → Int32 → Int32 → Int32 → Int32 → Prop
  | 0, _, _, _, _ => False
  | n + 1, x1, x2, x3, x4 => (((rd M 1592 7) ≤ x4 → True) ∧ (¬ (rd M 1592 7) ≤ x4 → ((x1 ≤ 0 → True) ∧ (¬ x1 ≤ 0 → ((¬ x4 = 0 → ((P_0_oneAhead_0 M x3) ∧ (P_9_firstWrong_43 (P_9_firstWrong_13 M n) M x1 x2 x4 (F_0_oneAhead_0 M x3)))) ∧ (x4 = 0 → (P_9_firstWrong_43 (P_9_firstWrong_13 M n) M x1 x2 x4 x3)))))))
theorem T_9_firstWrong_13 {g : Gl} (M : Mem) : ∀ (n : Nat) (x1 : Int32) (x2 : Int32) (x3 : Int32) (x4 : Int32) (hp : P_9_firstWrong_13 M n x1 x2 x3 x4), Rn g 2 m9_firstWrong 13 [some (.ref 1592), some (.int x1), some (.int x2), some (.int x3), some (.int x4), none, none, none] [] M (some (.int (F_9_firstWrong_13 M n x1 x2 x3 x4))) (M) := by
  intro n
  induction n with
  | zero => intro x1 x2 x3 x4 hp; exact hp.elim
  | succ n ih =>
    intro x1 x2 x3 x4 hp
    rw [F_9_firstWrong_13]
    rw [P_9_firstWrong_13] at hp
    refine b9_firstWrong_13  (fun h => ?_) (fun h => ?_)
    · rw [if_pos h]
      exact b9_firstWrong_143  rfl rfl
    · rw [if_neg h]
      have hp := hp.2 h
      refine b9_firstWrong_22  (fun h => ?_) (fun h => ?_)
      · rw [if_pos h]
        exact b9_firstWrong_143  rfl rfl
      · rw [if_neg h]
        have hp := hp.2 h
        refine b9_firstWrong_26  (fun h => ?_) (fun h => ?_)
        · rw [if_neg h]
          have hp := hp.1 h
          obtain ⟨hc, hp⟩ := hp
          refine b9_firstWrong_35  (C_0_oneAhead x3 M hc) (Nat.le_of_ble_eq_true rfl) ?_
          exact T_9_firstWrong_43 (F_9_firstWrong_13 M n) (P_9_firstWrong_13 M n) _ ih x1 x2 x4 (F_0_oneAhead_0 M x3) hp
        · rw [if_pos h]
          have hp := hp.2 h
          refine b9_firstWrong_31  ?_
          exact T_9_firstWrong_43 (F_9_firstWrong_13 M n) (P_9_firstWrong_13 M n) _ ih x1 x2 x4 x3 hp
def F_9_firstWrong_0 (M : Mem) (x1 : Int32) : Int32 := F_9_firstWrong_13 M FU x1 (-1) (F_4_allRooms_0 M) 0
def P_9_firstWrong_0 (M : Mem) (x1 : Int32) : Prop := (((P_9_firstWrong_13 M FU x1 (-1) (F_4_allRooms_0 M) 0)))
theorem T_9_firstWrong_0 {g : Gl} (M : Mem) (x1 : Int32) (hp : P_9_firstWrong_0 M x1) : Rn g 2 m9_firstWrong 0 [some (.ref 1592), some (.int x1), none, none, none, none, none, none] [] M (some (.int (F_9_firstWrong_0 M x1))) (M) := by
  rw [F_9_firstWrong_0]
  rw [P_9_firstWrong_0] at hp
  refine b9_firstWrong_0  (C_4_allRooms  M) (Nat.le_of_ble_eq_true rfl) ?_
  refine b9_firstWrong_9  ?_
  exact T_9_firstWrong_13 _ FU x1 (-1) (F_4_allRooms_0 M) 0 hp
theorem C_9_firstWrong {g : Gl}  (x1 : Int32) (M : Mem) (hp : P_9_firstWrong_0 M x1) : Ms g 2 m9_firstWrong [.ref 1592, .int x1] M (some (.int (F_9_firstWrong_0 M x1))) (M) := Ms.of okM_m9_firstWrong (Nat.le_of_ble_eq_true rfl) (R_wk (lc rfl (lc rfl (ln (ln (ln (ln (ln (ln l0)))))))) (T_9_firstWrong_0 M x1 hp))
def F_10_put_0 (x1 : Int32) (x2 : Int32) (x3 : Int32) (M : Mem) : Mem := if (150 : Int32) ≤ (rd M 1587 4) then (M) else ((wr (wr (wr (wr M 1588 ((rd M 1587 4).toNatClampNeg) x1) 1589 ((rd (wr M 1588 ((rd M 1587 4).toNatClampNeg) x1) 1587 4).toNatClampNeg) x2) 1590 ((rd (wr (wr M 1588 ((rd M 1587 4).toNatClampNeg) x1) 1589 ((rd (wr M 1588 ((rd M 1587 4).toNatClampNeg) x1) 1587 4).toNatClampNeg) x2) 1587 4).toNatClampNeg) x3) 1587 4 ((rd (wr (wr (wr M 1588 ((rd M 1587 4).toNatClampNeg) x1) 1589 ((rd (wr M 1588 ((rd M 1587 4).toNatClampNeg) x1) 1587 4).toNatClampNeg) x2) 1590 ((rd (wr (wr M 1588 ((rd M 1587 4).toNatClampNeg) x1) 1589 ((rd (wr M 1588 ((rd M 1587 4).toNatClampNeg) x1) 1587 4).toNatClampNeg) x2) 1587 4).toNatClampNeg) x3) 1587 4) + 1)))
def P_10_put_0 (x1 : Int32) (x2 : Int32) (x3 : Int32) (M : Mem) : Prop := (((150 : Int32) ≤ (rd M 1587 4) → True) ∧ (¬ (150 : Int32) ≤ (rd M 1587 4) → (vp_in (rd M 1587 4) 150) ∧ (vp_in (rd (wr M 1588 ((rd M 1587 4).toNatClampNeg) x1) 1587 4) 150) ∧ (vp_in (rd (wr (wr M 1588 ((rd M 1587 4).toNatClampNeg) x1) 1589 ((rd (wr M 1588 ((rd M 1587 4).toNatClampNeg) x1) 1587 4).toNatClampNeg) x2) 1587 4) 150)))
theorem T_10_put_0 {g : Gl} (x1 : Int32) (x2 : Int32) (x3 : Int32) (M : Mem) (hp : P_10_put_0 x1 x2 x3 M) : Rn g 0 m10_put 0 [some (.ref 1587), some (.int x1), some (.int x2), some (.int x3)] [] M (none) ((F_10_put_0 x1 x2 x3 M)) := by
  rw [F_10_put_0]
  rw [P_10_put_0] at hp
  refine b10_put_0  (fun h => ?_) (fun h => ?_)
  · rw [if_pos h]
    exact b10_put_50  rfl rfl
  · rw [if_neg h]
    have hp := hp.2 h
    obtain ⟨p0, p1, p2⟩ := hp
    refine b10_put_10 p0 p1 p2 ?_
    exact b10_put_50  rfl rfl
theorem C_10_put {g : Gl}  (x1 : Int32) (x2 : Int32) (x3 : Int32) (M : Mem) (hp : P_10_put_0 x1 x2 x3 M) : Ms g 0 m10_put [.ref 1587, .int x1, .int x2, .int x3] M (none) ((F_10_put_0 x1 x2 x3 M)) := Ms.of okM_m10_put (Nat.le_of_ble_eq_true rfl) (R_wk (lc rfl (lc rfl (lc rfl (lc rfl l0)))) (T_10_put_0 x1 x2 x3 M hp))
def F_10_readGo_45 (M : Mem) : Int32 × Mem := (1, M)
theorem T_10_readGo_45 {g : Gl} (M : Mem)  : Rn g 2 m10_readGo 45 [none, none, none, none] [] M (some (.int (F_10_readGo_45 M).1)) ((F_10_readGo_45 M).2) := by
  rw [F_10_readGo_45]
  exact b10_readGo_45  rfl rfl
def F_10_readGo_30 (x3 : Int32) (xs0 : Int32) (M : Mem) : Int32 × Mem := if xs0 = 0 then ((0, M)) else (F_10_readGo_45 (F_10_put_0 1 x3 (rd M 1560 5) M))
def P_10_readGo_30 (x3 : Int32) (xs0 : Int32) (M : Mem) : Prop := ((¬ xs0 = 0 → ((P_10_put_0 1 x3 (rd M 1560 5) M))) ∧ (xs0 = 0 → True))
theorem T_10_readGo_30 {g : Gl} (x3 : Int32) (xs0 : Int32) (M : Mem) (hp : P_10_readGo_30 x3 xs0 M) : Rn g 2 m10_readGo 30 [some (.ref 1587), some (.ref 1560), none, some (.int x3)] [.int xs0] M (some (.int (F_10_readGo_30 x3 xs0 M).1)) ((F_10_readGo_30 x3 xs0 M).2) := by
  rw [F_10_readGo_30]
  rw [P_10_readGo_30] at hp
  refine b10_readGo_30  (fun h => ?_) (fun h => ?_)
  · rw [if_neg h]
    have hp := hp.1 h
    have hc := hp
    refine b10_readGo_35  (C_10_put 1 x3 (rd M 1560 5) M hc) (Nat.le_of_ble_eq_true rfl) ?_
    exact T_10_readGo_45 (F_10_put_0 1 x3 (rd M 1560 5) M)
  · rw [if_pos h]
    exact b10_readGo_33  rfl rfl
def F_10_readGo_10 (xs0 : Int32) (M : Mem) : Int32 × Mem := if xs0 = 0 then ((0, M)) else (F_10_readGo_30 (rd M 1560 5) ((F_5_needsNumber_0 ((rd M 1561 1) - 1) M).1) ((F_5_needsNumber_0 ((rd M 1561 1) - 1) M).2))
def P_10_readGo_10 (xs0 : Int32) (M : Mem) : Prop := ((¬ xs0 = 0 → ((P_5_needsNumber_0 ((rd M 1561 1) - 1) M) ∧ (P_10_readGo_30 (rd M 1560 5) ((F_5_needsNumber_0 ((rd M 1561 1) - 1) M).1) ((F_5_needsNumber_0 ((rd M 1561 1) - 1) M).2)))) ∧ (xs0 = 0 → True))
theorem T_10_readGo_10 {g : Gl} (xs0 : Int32) (M : Mem) (hp : P_10_readGo_10 xs0 M) : Rn g 2 m10_readGo 10 [some (.ref 1587), some (.ref 1560), some (.ref 1561), none] [.int xs0] M (some (.int (F_10_readGo_10 xs0 M).1)) ((F_10_readGo_10 xs0 M).2) := by
  rw [F_10_readGo_10]
  rw [P_10_readGo_10] at hp
  refine b10_readGo_10  (fun h => ?_) (fun h => ?_)
  · rw [if_neg h]
    have hp := hp.1 h
    obtain ⟨hc, hp⟩ := hp
    refine b10_readGo_15  (C_5_needsNumber ((rd M 1561 1) - 1) M hc) (Nat.le_of_ble_eq_true rfl) ?_
    exact T_10_readGo_30 (rd M 1560 5) ((F_5_needsNumber_0 ((rd M 1561 1) - 1) M).1) ((F_5_needsNumber_0 ((rd M 1561 1) - 1) M).2) hp
  · rw [if_pos h]
    exact b10_readGo_13  rfl rfl
def F_10_readGo_0 (M : Mem) : Int32 × Mem := F_10_readGo_10 ((F_5_needsNumber_0 ((rd M 1561 2) - 1) M).1) ((F_5_needsNumber_0 ((rd M 1561 2) - 1) M).2)
def P_10_readGo_0 (M : Mem) : Prop := ((P_5_needsNumber_0 ((rd M 1561 2) - 1) M) ∧ (P_10_readGo_10 ((F_5_needsNumber_0 ((rd M 1561 2) - 1) M).1) ((F_5_needsNumber_0 ((rd M 1561 2) - 1) M).2)))
theorem T_10_readGo_0 {g : Gl} (M : Mem) (hp : P_10_readGo_0 M) : Rn g 2 m10_readGo 0 [some (.ref 1587), some (.ref 1560), some (.ref 1561), none] [] M (some (.int (F_10_readGo_0 M).1)) ((F_10_readGo_0 M).2) := by
  rw [F_10_readGo_0]
  rw [P_10_readGo_0] at hp
  obtain ⟨hc, hp⟩ := hp
  refine b10_readGo_0  (C_5_needsNumber ((rd M 1561 2) - 1) M hc) (Nat.le_of_ble_eq_true rfl) ?_
  exact T_10_readGo_10 ((F_5_needsNumber_0 ((rd M 1561 2) - 1) M).1) ((F_5_needsNumber_0 ((rd M 1561 2) - 1) M).2) hp
theorem C_10_readGo {g : Gl}   (M : Mem) (hp : P_10_readGo_0 M) : Ms g 2 m10_readGo [.ref 1587, .ref 1560, .ref 1561] M (some (.int (F_10_readGo_0 M).1)) ((F_10_readGo_0 M).2) := Ms.of okM_m10_readGo (Nat.le_of_ble_eq_true rfl) (R_wk (lc rfl (lc rfl (lc rfl (ln l0)))) (T_10_readGo_0 M hp))
def F_10_readDoorStep_25 (M : Mem) : Int32 × Mem := (1, M)
theorem T_10_readDoorStep_25 {g : Gl} (M : Mem)  : Rn g 2 m10_readDoorStep 25 [none, none, none, none] [] M (some (.int (F_10_readDoorStep_25 M).1)) ((F_10_readDoorStep_25 M).2) := by
  rw [F_10_readDoorStep_25]
  exact b10_readDoorStep_25  rfl rfl
def F_10_readDoorStep_10 (x3 : Int32) (xs0 : Int32) (M : Mem) : Int32 × Mem := if xs0 = 0 then ((0, M)) else (F_10_readDoorStep_25 (F_10_put_0 x3 (rd M 1560 5) 0 M))
def P_10_readDoorStep_10 (x3 : Int32) (xs0 : Int32) (M : Mem) : Prop := ((¬ xs0 = 0 → ((P_10_put_0 x3 (rd M 1560 5) 0 M))) ∧ (xs0 = 0 → True))
theorem T_10_readDoorStep_10 {g : Gl} (x3 : Int32) (xs0 : Int32) (M : Mem) (hp : P_10_readDoorStep_10 x3 xs0 M) : Rn g 2 m10_readDoorStep 10 [some (.ref 1587), some (.ref 1560), none, some (.int x3)] [.int xs0] M (some (.int (F_10_readDoorStep_10 x3 xs0 M).1)) ((F_10_readDoorStep_10 x3 xs0 M).2) := by
  rw [F_10_readDoorStep_10]
  rw [P_10_readDoorStep_10] at hp
  refine b10_readDoorStep_10  (fun h => ?_) (fun h => ?_)
  · rw [if_neg h]
    have hp := hp.1 h
    have hc := hp
    refine b10_readDoorStep_15  (C_10_put x3 (rd M 1560 5) 0 M hc) (Nat.le_of_ble_eq_true rfl) ?_
    exact T_10_readDoorStep_25 (F_10_put_0 x3 (rd M 1560 5) 0 M)
  · rw [if_pos h]
    exact b10_readDoorStep_13  rfl rfl
def F_10_readDoorStep_0 (x3 : Int32) (M : Mem) : Int32 × Mem := F_10_readDoorStep_10 x3 ((F_5_needsNumber_0 ((rd M 1561 1) - 1) M).1) ((F_5_needsNumber_0 ((rd M 1561 1) - 1) M).2)
def P_10_readDoorStep_0 (x3 : Int32) (M : Mem) : Prop := ((P_5_needsNumber_0 ((rd M 1561 1) - 1) M) ∧ (P_10_readDoorStep_10 x3 ((F_5_needsNumber_0 ((rd M 1561 1) - 1) M).1) ((F_5_needsNumber_0 ((rd M 1561 1) - 1) M).2)))
theorem T_10_readDoorStep_0 {g : Gl} (x3 : Int32) (M : Mem) (hp : P_10_readDoorStep_0 x3 M) : Rn g 2 m10_readDoorStep 0 [some (.ref 1587), some (.ref 1560), some (.ref 1561), some (.int x3)] [] M (some (.int (F_10_readDoorStep_0 x3 M).1)) ((F_10_readDoorStep_0 x3 M).2) := by
  rw [F_10_readDoorStep_0]
  rw [P_10_readDoorStep_0] at hp
  obtain ⟨hc, hp⟩ := hp
  refine b10_readDoorStep_0  (C_5_needsNumber ((rd M 1561 1) - 1) M hc) (Nat.le_of_ble_eq_true rfl) ?_
  exact T_10_readDoorStep_10 x3 ((F_5_needsNumber_0 ((rd M 1561 1) - 1) M).1) ((F_5_needsNumber_0 ((rd M 1561 1) - 1) M).2) hp
theorem C_10_readDoorStep {g : Gl}  (x3 : Int32) (M : Mem) (hp : P_10_readDoorStep_0 x3 M) : Ms g 2 m10_readDoorStep [.ref 1587, .ref 1560, .ref 1561, .int x3] M (some (.int (F_10_readDoorStep_0 x3 M).1)) ((F_10_readDoorStep_0 x3 M).2) := Ms.of okM_m10_readDoorStep (Nat.le_of_ble_eq_true rfl) (R_wk (lc rfl (lc rfl (lc rfl (lc rfl l0)))) (T_10_readDoorStep_0 x3 M hp))
def F_10_readAgain_69 (rF : Int32 → Mem → Int32 × Mem) (x4 : Int32) (M : Mem) : Int32 × Mem := (1, wr M 1590 x4.toNatClampNeg (rd M 1587 4))
def P_10_readAgain_69 (rF : Int32 → Mem → Int32 × Mem) (rP : Int32 → Mem → Prop) (x4 : Int32) (M : Mem) : Prop := (vp_in x4 150)
theorem T_10_readAgain_69 {g : Gl} (rF : Int32 → Mem → Int32 × Mem) (rP : Int32 → Mem → Prop) {dr : Nat} (rT : ∀ (a0 : Int32) (M : Mem), rP a0 M → Ms g dr m10_readSteps [.ref 1587, .ref 1560, .ref 1561, .int a0] M (some (.int (rF a0 M).1)) ((rF a0 M).2)) (x4 : Int32) (M : Mem) (hp : P_10_readAgain_69 rF rP x4 M) : Rn g (dr + 2) m10_readAgain 69 [some (.ref 1587), none, none, none, some (.int x4)] [] M (some (.int (F_10_readAgain_69 rF x4 M).1)) ((F_10_readAgain_69 rF x4 M).2) := by
  rw [F_10_readAgain_69]
  rw [P_10_readAgain_69] at hp
  have p0 := hp
  exact b10_readAgain_69 p0 rfl rfl
def F_10_readAgain_55 (rF : Int32 → Mem → Int32 × Mem) (x4 : Int32) (xs0 : Int32) (M : Mem) : Int32 × Mem := if xs0 = 0 then ((0, M)) else (F_10_readAgain_69 rF x4 (F_10_put_0 6 x4 0 M))
def P_10_readAgain_55 (rF : Int32 → Mem → Int32 × Mem) (rP : Int32 → Mem → Prop) (x4 : Int32) (xs0 : Int32) (M : Mem) : Prop := ((¬ xs0 = 0 → ((P_10_put_0 6 x4 0 M) ∧ (P_10_readAgain_69 rF rP x4 (F_10_put_0 6 x4 0 M)))) ∧ (xs0 = 0 → True))
theorem T_10_readAgain_55 {g : Gl} (rF : Int32 → Mem → Int32 × Mem) (rP : Int32 → Mem → Prop) {dr : Nat} (rT : ∀ (a0 : Int32) (M : Mem), rP a0 M → Ms g dr m10_readSteps [.ref 1587, .ref 1560, .ref 1561, .int a0] M (some (.int (rF a0 M).1)) ((rF a0 M).2)) (x4 : Int32) (xs0 : Int32) (M : Mem) (hp : P_10_readAgain_55 rF rP x4 xs0 M) : Rn g (dr + 2) m10_readAgain 55 [some (.ref 1587), none, none, none, some (.int x4)] [.int xs0] M (some (.int (F_10_readAgain_55 rF x4 xs0 M).1)) ((F_10_readAgain_55 rF x4 xs0 M).2) := by
  rw [F_10_readAgain_55]
  rw [P_10_readAgain_55] at hp
  refine b10_readAgain_55  (fun h => ?_) (fun h => ?_)
  · rw [if_neg h]
    have hp := hp.1 h
    obtain ⟨hc, hp⟩ := hp
    refine b10_readAgain_60  (C_10_put 6 x4 0 M hc) (by omega) ?_
    exact T_10_readAgain_69 rF rP rT x4 (F_10_put_0 6 x4 0 M) hp
  · rw [if_pos h]
    exact b10_readAgain_58  rfl rfl
def F_10_readAgain_43 (rF : Int32 → Mem → Int32 × Mem) (x3 : Int32) (x4 : Int32) (xs0 : Int32) (M : Mem) : Int32 × Mem := if xs0 = 0 then ((0, M)) else (F_10_readAgain_55 rF x4 ((rF (x3 + 1) M).1) ((rF (x3 + 1) M).2))
def P_10_readAgain_43 (rF : Int32 → Mem → Int32 × Mem) (rP : Int32 → Mem → Prop) (x3 : Int32) (x4 : Int32) (xs0 : Int32) (M : Mem) : Prop := ((xs0 = 0 → True) ∧ (¬ xs0 = 0 → ((rP (x3 + 1) M) ∧ (P_10_readAgain_55 rF rP x4 ((rF (x3 + 1) M).1) ((rF (x3 + 1) M).2)))))
theorem T_10_readAgain_43 {g : Gl} (rF : Int32 → Mem → Int32 × Mem) (rP : Int32 → Mem → Prop) {dr : Nat} (rT : ∀ (a0 : Int32) (M : Mem), rP a0 M → Ms g dr m10_readSteps [.ref 1587, .ref 1560, .ref 1561, .int a0] M (some (.int (rF a0 M).1)) ((rF a0 M).2)) (x3 : Int32) (x4 : Int32) (xs0 : Int32) (M : Mem) (hp : P_10_readAgain_43 rF rP x3 x4 xs0 M) : Rn g (dr + 2) m10_readAgain 43 [some (.ref 1587), some (.ref 1560), some (.ref 1561), some (.int x3), some (.int x4)] [.int xs0] M (some (.int (F_10_readAgain_43 rF x3 x4 xs0 M).1)) ((F_10_readAgain_43 rF x3 x4 xs0 M).2) := by
  rw [F_10_readAgain_43]
  rw [P_10_readAgain_43] at hp
  refine b10_readAgain_43  (fun h => ?_) (fun h => ?_)
  · rw [if_pos h]
    exact b10_readAgain_58  rfl rfl
  · rw [if_neg h]
    have hp := hp.2 h
    obtain ⟨hc, hp⟩ := hp
    refine b10_readAgain_46  (rT (x3 + 1) M hc) (by omega) ?_
    exact T_10_readAgain_55 rF rP rT x4 ((rF (x3 + 1) M).1) ((rF (x3 + 1) M).2) hp
def F_10_readAgain_37 (rF : Int32 → Mem → Int32 × Mem) (x3 : Int32) (x4 : Int32) (M : Mem) : Int32 × Mem := F_10_readAgain_43 rF x3 x4 ((F_5_needs_0 91 M).1) ((F_5_needs_0 91 M).2)
def P_10_readAgain_37 (rF : Int32 → Mem → Int32 × Mem) (rP : Int32 → Mem → Prop) (x3 : Int32) (x4 : Int32) (M : Mem) : Prop := ((P_5_needs_0 91 M) ∧ (P_10_readAgain_43 rF rP x3 x4 ((F_5_needs_0 91 M).1) ((F_5_needs_0 91 M).2)))
theorem T_10_readAgain_37 {g : Gl} (rF : Int32 → Mem → Int32 × Mem) (rP : Int32 → Mem → Prop) {dr : Nat} (rT : ∀ (a0 : Int32) (M : Mem), rP a0 M → Ms g dr m10_readSteps [.ref 1587, .ref 1560, .ref 1561, .int a0] M (some (.int (rF a0 M).1)) ((rF a0 M).2)) (x3 : Int32) (x4 : Int32) (M : Mem) (hp : P_10_readAgain_37 rF rP x3 x4 M) : Rn g (dr + 2) m10_readAgain 37 [some (.ref 1587), some (.ref 1560), some (.ref 1561), some (.int x3), some (.int x4)] [] M (some (.int (F_10_readAgain_37 rF x3 x4 M).1)) ((F_10_readAgain_37 rF x3 x4 M).2) := by
  rw [F_10_readAgain_37]
  rw [P_10_readAgain_37] at hp
  obtain ⟨hc, hp⟩ := hp
  refine b10_readAgain_37  (C_5_needs 91 M hc) (by omega) ?_
  exact T_10_readAgain_43 rF rP rT x3 x4 ((F_5_needs_0 91 M).1) ((F_5_needs_0 91 M).2) hp
def F_10_readAgain_6 (rF : Int32 → Mem → Int32 × Mem) (x3 : Int32) (xs0 : Int32) (M : Mem) : Int32 × Mem := if xs0 = 0 then ((0, M)) else (if (rd M 1587 4) < 150 then (F_10_readAgain_37 rF x3 (rd M 1587 4) (F_10_put_0 5 (rd M 1560 5) 0 M)) else ((0, M)))
def P_10_readAgain_6 (rF : Int32 → Mem → Int32 × Mem) (rP : Int32 → Mem → Prop) (x3 : Int32) (xs0 : Int32) (M : Mem) : Prop := ((xs0 = 0 → True) ∧ (¬ xs0 = 0 → (((rd M 1587 4) < 150 → ((P_10_put_0 5 (rd M 1560 5) 0 M) ∧ (P_10_readAgain_37 rF rP x3 (rd M 1587 4) (F_10_put_0 5 (rd M 1560 5) 0 M)))) ∧ (¬ (rd M 1587 4) < 150 → True))))
theorem T_10_readAgain_6 {g : Gl} (rF : Int32 → Mem → Int32 × Mem) (rP : Int32 → Mem → Prop) {dr : Nat} (rT : ∀ (a0 : Int32) (M : Mem), rP a0 M → Ms g dr m10_readSteps [.ref 1587, .ref 1560, .ref 1561, .int a0] M (some (.int (rF a0 M).1)) ((rF a0 M).2)) (x3 : Int32) (xs0 : Int32) (M : Mem) (hp : P_10_readAgain_6 rF rP x3 xs0 M) : Rn g (dr + 2) m10_readAgain 6 [some (.ref 1587), some (.ref 1560), some (.ref 1561), some (.int x3), none] [.int xs0] M (some (.int (F_10_readAgain_6 rF x3 xs0 M).1)) ((F_10_readAgain_6 rF x3 xs0 M).2) := by
  rw [F_10_readAgain_6]
  rw [P_10_readAgain_6] at hp
  refine b10_readAgain_6  (fun h => ?_) (fun h => ?_)
  · rw [if_pos h]
    exact b10_readAgain_19  rfl rfl
  · rw [if_neg h]
    have hp := hp.2 h
    refine b10_readAgain_9  (fun h => ?_) (fun h => ?_)
    · rw [if_pos h]
      have hp := hp.1 h
      obtain ⟨hc, hp⟩ := hp
      refine b10_readAgain_21  (C_10_put 5 (rd M 1560 5) 0 M hc) (by omega) ?_
      exact T_10_readAgain_37 rF rP rT x3 (rd M 1587 4) (F_10_put_0 5 (rd M 1560 5) 0 M) hp
    · rw [if_neg h]
      exact b10_readAgain_19  rfl rfl
def F_10_readAgain_0 (rF : Int32 → Mem → Int32 × Mem) (x3 : Int32) (M : Mem) : Int32 × Mem := F_10_readAgain_6 rF x3 ((F_5_needsNumber_0 30 M).1) ((F_5_needsNumber_0 30 M).2)
def P_10_readAgain_0 (rF : Int32 → Mem → Int32 × Mem) (rP : Int32 → Mem → Prop) (x3 : Int32) (M : Mem) : Prop := ((P_5_needsNumber_0 30 M) ∧ (P_10_readAgain_6 rF rP x3 ((F_5_needsNumber_0 30 M).1) ((F_5_needsNumber_0 30 M).2)))
theorem T_10_readAgain_0 {g : Gl} (rF : Int32 → Mem → Int32 × Mem) (rP : Int32 → Mem → Prop) {dr : Nat} (rT : ∀ (a0 : Int32) (M : Mem), rP a0 M → Ms g dr m10_readSteps [.ref 1587, .ref 1560, .ref 1561, .int a0] M (some (.int (rF a0 M).1)) ((rF a0 M).2)) (x3 : Int32) (M : Mem) (hp : P_10_readAgain_0 rF rP x3 M) : Rn g (dr + 2) m10_readAgain 0 [some (.ref 1587), some (.ref 1560), some (.ref 1561), some (.int x3), none] [] M (some (.int (F_10_readAgain_0 rF x3 M).1)) ((F_10_readAgain_0 rF x3 M).2) := by
  rw [F_10_readAgain_0]
  rw [P_10_readAgain_0] at hp
  obtain ⟨hc, hp⟩ := hp
  refine b10_readAgain_0  (C_5_needsNumber 30 M hc) (by omega) ?_
  exact T_10_readAgain_6 rF rP rT x3 ((F_5_needsNumber_0 30 M).1) ((F_5_needsNumber_0 30 M).2) hp
theorem C_10_readAgain {g : Gl} (rF : Int32 → Mem → Int32 × Mem) (rP : Int32 → Mem → Prop) {dr : Nat} (rT : ∀ (a0 : Int32) (M : Mem), rP a0 M → Ms g dr m10_readSteps [.ref 1587, .ref 1560, .ref 1561, .int a0] M (some (.int (rF a0 M).1)) ((rF a0 M).2)) (x3 : Int32) (M : Mem) (hp : P_10_readAgain_0 rF rP x3 M) : Ms g (dr + 2) m10_readAgain [.ref 1587, .ref 1560, .ref 1561, .int x3] M (some (.int (F_10_readAgain_0 rF x3 M).1)) ((F_10_readAgain_0 rF x3 M).2) := Ms.of okM_m10_readAgain (Nat.le_of_ble_eq_true rfl) (R_wk (lc rfl (lc rfl (lc rfl (lc rfl (ln l0))))) (T_10_readAgain_0 rF rP rT x3 M hp))
def F_10_readStep_24 (rF : Int32 → Mem → Int32 × Mem) (xs0 : Int32) (M : Mem) : Int32 × Mem := (xs0, M)
def P_10_readStep_24 (rF : Int32 → Mem → Int32 × Mem) (rP : Int32 → Mem → Prop) (xs0 : Int32) (M : Mem) : Prop := (narrow .boolean (.int xs0) = .int xs0)
theorem T_10_readStep_24 {g : Gl} (rF : Int32 → Mem → Int32 × Mem) (rP : Int32 → Mem → Prop) {dr : Nat} (rT : ∀ (a0 : Int32) (M : Mem), rP a0 M → Ms g dr m10_readSteps [.ref 1587, .ref 1560, .ref 1561, .int a0] M (some (.int (rF a0 M).1)) ((rF a0 M).2)) (xs0 : Int32) (M : Mem) (hp : P_10_readStep_24 rF rP xs0 M) : Rn g (dr + 5) m10_readStep 24 [none, none, none, none] [.int xs0] M (some (.int (F_10_readStep_24 rF xs0 M).1)) ((F_10_readStep_24 rF xs0 M).2) := by
  rw [F_10_readStep_24]
  rw [P_10_readStep_24] at hp
  have p0 := hp
  exact b10_readStep_24  rfl rfl p0
def F_10_readStep_41 (rF : Int32 → Mem → Int32 × Mem) (xs0 : Int32) (M : Mem) : Int32 × Mem := (xs0, M)
def P_10_readStep_41 (rF : Int32 → Mem → Int32 × Mem) (rP : Int32 → Mem → Prop) (xs0 : Int32) (M : Mem) : Prop := (narrow .boolean (.int xs0) = .int xs0)
theorem T_10_readStep_41 {g : Gl} (rF : Int32 → Mem → Int32 × Mem) (rP : Int32 → Mem → Prop) {dr : Nat} (rT : ∀ (a0 : Int32) (M : Mem), rP a0 M → Ms g dr m10_readSteps [.ref 1587, .ref 1560, .ref 1561, .int a0] M (some (.int (rF a0 M).1)) ((rF a0 M).2)) (xs0 : Int32) (M : Mem) (hp : P_10_readStep_41 rF rP xs0 M) : Rn g (dr + 5) m10_readStep 41 [none, none, none, none] [.int xs0] M (some (.int (F_10_readStep_41 rF xs0 M).1)) ((F_10_readStep_41 rF xs0 M).2) := by
  rw [F_10_readStep_41]
  rw [P_10_readStep_41] at hp
  have p0 := hp
  exact b10_readStep_41  rfl rfl p0
def F_10_readStep_58 (rF : Int32 → Mem → Int32 × Mem) (xs0 : Int32) (M : Mem) : Int32 × Mem := (xs0, M)
def P_10_readStep_58 (rF : Int32 → Mem → Int32 × Mem) (rP : Int32 → Mem → Prop) (xs0 : Int32) (M : Mem) : Prop := (narrow .boolean (.int xs0) = .int xs0)
theorem T_10_readStep_58 {g : Gl} (rF : Int32 → Mem → Int32 × Mem) (rP : Int32 → Mem → Prop) {dr : Nat} (rT : ∀ (a0 : Int32) (M : Mem), rP a0 M → Ms g dr m10_readSteps [.ref 1587, .ref 1560, .ref 1561, .int a0] M (some (.int (rF a0 M).1)) ((rF a0 M).2)) (xs0 : Int32) (M : Mem) (hp : P_10_readStep_58 rF rP xs0 M) : Rn g (dr + 5) m10_readStep 58 [none, none, none, none] [.int xs0] M (some (.int (F_10_readStep_58 rF xs0 M).1)) ((F_10_readStep_58 rF xs0 M).2) := by
  rw [F_10_readStep_58]
  rw [P_10_readStep_58] at hp
  have p0 := hp
  exact b10_readStep_58  rfl rfl p0
def F_10_readStep_75 (rF : Int32 → Mem → Int32 × Mem) (M : Mem) : Int32 × Mem := (1, M)
theorem T_10_readStep_75 {g : Gl} (rF : Int32 → Mem → Int32 × Mem) (rP : Int32 → Mem → Prop) {dr : Nat} (rT : ∀ (a0 : Int32) (M : Mem), rP a0 M → Ms g dr m10_readSteps [.ref 1587, .ref 1560, .ref 1561, .int a0] M (some (.int (rF a0 M).1)) ((rF a0 M).2)) (M : Mem)  : Rn g (dr + 5) m10_readStep 75 [none, none, none, none] [] M (some (.int (F_10_readStep_75 rF M).1)) ((F_10_readStep_75 rF M).2) := by
  rw [F_10_readStep_75]
  exact b10_readStep_75  rfl rfl
def F_10_readStep_111 (rF : Int32 → Mem → Int32 × Mem) (xs0 : Int32) (M : Mem) : Int32 × Mem := (xs0, M)
def P_10_readStep_111 (rF : Int32 → Mem → Int32 × Mem) (rP : Int32 → Mem → Prop) (xs0 : Int32) (M : Mem) : Prop := (narrow .boolean (.int xs0) = .int xs0)
theorem T_10_readStep_111 {g : Gl} (rF : Int32 → Mem → Int32 × Mem) (rP : Int32 → Mem → Prop) {dr : Nat} (rT : ∀ (a0 : Int32) (M : Mem), rP a0 M → Ms g dr m10_readSteps [.ref 1587, .ref 1560, .ref 1561, .int a0] M (some (.int (rF a0 M).1)) ((rF a0 M).2)) (xs0 : Int32) (M : Mem) (hp : P_10_readStep_111 rF rP xs0 M) : Rn g (dr + 5) m10_readStep 111 [none, none, none, none] [.int xs0] M (some (.int (F_10_readStep_111 rF xs0 M).1)) ((F_10_readStep_111 rF xs0 M).2) := by
  rw [F_10_readStep_111]
  rw [P_10_readStep_111] at hp
  have p0 := hp
  exact b10_readStep_111  rfl rfl p0
def F_10_readStep_101 (rF : Int32 → Mem → Int32 × Mem) (xs0 : Int32) (M : Mem) : Int32 × Mem := F_10_readStep_111 rF xs0 M
def P_10_readStep_101 (rF : Int32 → Mem → Int32 × Mem) (rP : Int32 → Mem → Prop) (xs0 : Int32) (M : Mem) : Prop := (P_10_readStep_111 rF rP xs0 M)
theorem T_10_readStep_101 {g : Gl} (rF : Int32 → Mem → Int32 × Mem) (rP : Int32 → Mem → Prop) {dr : Nat} (rT : ∀ (a0 : Int32) (M : Mem), rP a0 M → Ms g dr m10_readSteps [.ref 1587, .ref 1560, .ref 1561, .int a0] M (some (.int (rF a0 M).1)) ((rF a0 M).2)) (xs0 : Int32) (M : Mem) (hp : P_10_readStep_101 rF rP xs0 M) : Rn g (dr + 5) m10_readStep 101 [none, none, none, none] [.int xs0] M (some (.int (F_10_readStep_101 rF xs0 M).1)) ((F_10_readStep_101 rF xs0 M).2) := by
  rw [F_10_readStep_101]
  rw [P_10_readStep_101] at hp
  refine b10_readStep_101  ?_
  exact T_10_readStep_111 rF rP rT xs0 M hp
def F_10_readStep_121 (rF : Int32 → Mem → Int32 × Mem) (xs0 : Int32) (M : Mem) : Int32 × Mem := (xs0, M)
def P_10_readStep_121 (rF : Int32 → Mem → Int32 × Mem) (rP : Int32 → Mem → Prop) (xs0 : Int32) (M : Mem) : Prop := (narrow .boolean (.int xs0) = .int xs0)
theorem T_10_readStep_121 {g : Gl} (rF : Int32 → Mem → Int32 × Mem) (rP : Int32 → Mem → Prop) {dr : Nat} (rT : ∀ (a0 : Int32) (M : Mem), rP a0 M → Ms g dr m10_readSteps [.ref 1587, .ref 1560, .ref 1561, .int a0] M (some (.int (rF a0 M).1)) ((rF a0 M).2)) (xs0 : Int32) (M : Mem) (hp : P_10_readStep_121 rF rP xs0 M) : Rn g (dr + 5) m10_readStep 121 [none, none, none, none] [.int xs0] M (some (.int (F_10_readStep_121 rF xs0 M).1)) ((F_10_readStep_121 rF xs0 M).2) := by
  rw [F_10_readStep_121]
  rw [P_10_readStep_121] at hp
  have p0 := hp
  exact b10_readStep_121  rfl rfl p0
def F_10_readStep_4 (rF : Int32 → Mem → Int32 × Mem) (x3 : Int32) (xs0 : Int32) (M : Mem) : Int32 × Mem := if xs0 = 0 then ((0, M)) else (if (F_5_isWord_0 M 15) = 0 then (if (F_5_isWord_0 M 16) = 0 then (if (F_5_isWord_0 M 17) = 0 then (if (F_5_isWord_0 M 7) = 0 then (if (F_5_isWord_0 M 18) = 0 then (F_10_readStep_121 rF ((F_5_fail_0 1 (rd M 1560 4) M).1) ((F_5_fail_0 1 (rd M 1560 4) M).2)) else (if x3 < 6 then (F_10_readStep_111 rF ((F_10_readAgain_0 rF x3 M).1) ((F_10_readAgain_0 rF x3 M).2)) else (F_10_readStep_101 rF ((F_5_fail_0 3 (rd M 1560 4) M).1) ((F_5_fail_0 3 (rd M 1560 4) M).2)))) else (F_10_readStep_75 rF (F_10_put_0 4 0 0 M))) else (F_10_readStep_58 rF ((F_10_readDoorStep_0 3 M).1) ((F_10_readDoorStep_0 3 M).2))) else (F_10_readStep_41 rF ((F_10_readDoorStep_0 2 M).1) ((F_10_readDoorStep_0 2 M).2))) else (F_10_readStep_24 rF ((F_10_readGo_0 M).1) ((F_10_readGo_0 M).2)))
def P_10_readStep_4 (rF : Int32 → Mem → Int32 × Mem) (rP : Int32 → Mem → Prop) (x3 : Int32) (xs0 : Int32) (M : Mem) : Prop := ((¬ xs0 = 0 → (((P_5_isWord_0 M 15) ∧ ((((F_5_isWord_0 M 15) = 0 → (((P_5_isWord_0 M 16) ∧ ((((F_5_isWord_0 M 16) = 0 → (((P_5_isWord_0 M 17) ∧ ((((F_5_isWord_0 M 17) = 0 → (((P_5_isWord_0 M 7) ∧ ((((F_5_isWord_0 M 7) = 0 → (((P_5_isWord_0 M 18) ∧ ((((F_5_isWord_0 M 18) = 0 → ((P_10_readStep_121 rF rP ((F_5_fail_0 1 (rd M 1560 4) M).1) ((F_5_fail_0 1 (rd M 1560 4) M).2)))) ∧ (¬ (F_5_isWord_0 M 18) = 0 → ((x3 < 6 → ((P_10_readAgain_0 rF rP x3 M) ∧ (P_10_readStep_111 rF rP ((F_10_readAgain_0 rF x3 M).1) ((F_10_readAgain_0 rF x3 M).2)))) ∧ (¬ x3 < 6 → ((P_10_readStep_101 rF rP ((F_5_fail_0 3 (rd M 1560 4) M).1) ((F_5_fail_0 3 (rd M 1560 4) M).2))))))))))) ∧ (¬ (F_5_isWord_0 M 7) = 0 → ((P_10_put_0 4 0 0 M)))))))) ∧ (¬ (F_5_isWord_0 M 17) = 0 → ((P_10_readDoorStep_0 3 M) ∧ (P_10_readStep_58 rF rP ((F_10_readDoorStep_0 3 M).1) ((F_10_readDoorStep_0 3 M).2))))))))) ∧ (¬ (F_5_isWord_0 M 16) = 0 → ((P_10_readDoorStep_0 2 M) ∧ (P_10_readStep_41 rF rP ((F_10_readDoorStep_0 2 M).1) ((F_10_readDoorStep_0 2 M).2))))))))) ∧ (¬ (F_5_isWord_0 M 15) = 0 → ((P_10_readGo_0 M) ∧ (P_10_readStep_24 rF rP ((F_10_readGo_0 M).1) ((F_10_readGo_0 M).2))))))))) ∧ (xs0 = 0 → True))
theorem T_10_readStep_4 {g : Gl} (rF : Int32 → Mem → Int32 × Mem) (rP : Int32 → Mem → Prop) {dr : Nat} (rT : ∀ (a0 : Int32) (M : Mem), rP a0 M → Ms g dr m10_readSteps [.ref 1587, .ref 1560, .ref 1561, .int a0] M (some (.int (rF a0 M).1)) ((rF a0 M).2)) (x3 : Int32) (xs0 : Int32) (M : Mem) (hp : P_10_readStep_4 rF rP x3 xs0 M) : Rn g (dr + 5) m10_readStep 4 [some (.ref 1587), some (.ref 1560), some (.ref 1561), some (.int x3)] [.int xs0] M (some (.int (F_10_readStep_4 rF x3 xs0 M).1)) ((F_10_readStep_4 rF x3 xs0 M).2) := by
  rw [F_10_readStep_4]
  rw [P_10_readStep_4] at hp
  refine b10_readStep_4  (fun h => ?_) (fun h => ?_)
  · rw [if_neg h]
    have hp := hp.1 h
    refine b10_readStep_9  ?_
    obtain ⟨hc, hp⟩ := hp
    refine b10_readStep_12  (C_5_isWord 15 M hc) (by omega) ?_
    refine b10_readStep_15  (fun h => ?_) (fun h => ?_)
    · rw [if_pos h]
      have hp := hp.1 h
      refine b10_readStep_25  ?_
      obtain ⟨hc, hp⟩ := hp
      refine b10_readStep_28  (C_5_isWord 16 M hc) (by omega) ?_
      refine b10_readStep_31  (fun h => ?_) (fun h => ?_)
      · rw [if_pos h]
        have hp := hp.1 h
        refine b10_readStep_42  ?_
        obtain ⟨hc, hp⟩ := hp
        refine b10_readStep_45  (C_5_isWord 17 M hc) (by omega) ?_
        refine b10_readStep_48  (fun h => ?_) (fun h => ?_)
        · rw [if_pos h]
          have hp := hp.1 h
          refine b10_readStep_59  ?_
          obtain ⟨hc, hp⟩ := hp
          refine b10_readStep_62  (C_5_isWord 7 M hc) (by omega) ?_
          refine b10_readStep_65  (fun h => ?_) (fun h => ?_)
          · rw [if_pos h]
            have hp := hp.1 h
            refine b10_readStep_77  ?_
            obtain ⟨hc, hp⟩ := hp
            refine b10_readStep_80  (C_5_isWord 18 M hc) (by omega) ?_
            refine b10_readStep_83  (fun h => ?_) (fun h => ?_)
            · rw [if_pos h]
              have hp := hp.1 h
              refine b10_readStep_112  (C_5_fail 1 (rd M 1560 4) M) (by omega) ?_
              exact T_10_readStep_121 rF rP rT ((F_5_fail_0 1 (rd M 1560 4) M).1) ((F_5_fail_0 1 (rd M 1560 4) M).2) hp
            · rw [if_neg h]
              have hp := hp.2 h
              refine b10_readStep_86  (fun h => ?_) (fun h => ?_)
              · rw [if_pos h]
                have hp := hp.1 h
                obtain ⟨hc, hp⟩ := hp
                refine b10_readStep_104  (C_10_readAgain rF rP rT x3 M hc) (by omega) ?_
                exact T_10_readStep_111 rF rP rT ((F_10_readAgain_0 rF x3 M).1) ((F_10_readAgain_0 rF x3 M).2) hp
              · rw [if_neg h]
                have hp := hp.2 h
                refine b10_readStep_92  (C_5_fail 3 (rd M 1560 4) M) (by omega) ?_
                exact T_10_readStep_101 rF rP rT ((F_5_fail_0 3 (rd M 1560 4) M).1) ((F_5_fail_0 3 (rd M 1560 4) M).2) hp
          · rw [if_neg h]
            have hp := hp.2 h
            have hc := hp
            refine b10_readStep_68  (C_10_put 4 0 0 M hc) (by omega) ?_
            exact T_10_readStep_75 rF rP rT (F_10_put_0 4 0 0 M)
        · rw [if_neg h]
          have hp := hp.2 h
          obtain ⟨hc, hp⟩ := hp
          refine b10_readStep_51  (C_10_readDoorStep 3 M hc) (by omega) ?_
          exact T_10_readStep_58 rF rP rT ((F_10_readDoorStep_0 3 M).1) ((F_10_readDoorStep_0 3 M).2) hp
      · rw [if_neg h]
        have hp := hp.2 h
        obtain ⟨hc, hp⟩ := hp
        refine b10_readStep_34  (C_10_readDoorStep 2 M hc) (by omega) ?_
        exact T_10_readStep_41 rF rP rT ((F_10_readDoorStep_0 2 M).1) ((F_10_readDoorStep_0 2 M).2) hp
    · rw [if_neg h]
      have hp := hp.2 h
      obtain ⟨hc, hp⟩ := hp
      refine b10_readStep_18  (C_10_readGo  M hc) (by omega) ?_
      exact T_10_readStep_24 rF rP rT ((F_10_readGo_0 M).1) ((F_10_readGo_0 M).2) hp
  · rw [if_pos h]
    exact b10_readStep_7  rfl rfl
def F_10_readStep_0 (rF : Int32 → Mem → Int32 × Mem) (x3 : Int32) (M : Mem) : Int32 × Mem := F_10_readStep_4 rF x3 ((F_5_needsWord_0 M).1) ((F_5_needsWord_0 M).2)
def P_10_readStep_0 (rF : Int32 → Mem → Int32 × Mem) (rP : Int32 → Mem → Prop) (x3 : Int32) (M : Mem) : Prop := ((P_5_needsWord_0 M) ∧ (P_10_readStep_4 rF rP x3 ((F_5_needsWord_0 M).1) ((F_5_needsWord_0 M).2)))
theorem T_10_readStep_0 {g : Gl} (rF : Int32 → Mem → Int32 × Mem) (rP : Int32 → Mem → Prop) {dr : Nat} (rT : ∀ (a0 : Int32) (M : Mem), rP a0 M → Ms g dr m10_readSteps [.ref 1587, .ref 1560, .ref 1561, .int a0] M (some (.int (rF a0 M).1)) ((rF a0 M).2)) (x3 : Int32) (M : Mem) (hp : P_10_readStep_0 rF rP x3 M) : Rn g (dr + 5) m10_readStep 0 [some (.ref 1587), some (.ref 1560), some (.ref 1561), some (.int x3)] [] M (some (.int (F_10_readStep_0 rF x3 M).1)) ((F_10_readStep_0 rF x3 M).2) := by
  rw [F_10_readStep_0]
  rw [P_10_readStep_0] at hp
  obtain ⟨hc, hp⟩ := hp
  refine b10_readStep_0  (C_5_needsWord  M hc) (by omega) ?_
  exact T_10_readStep_4 rF rP rT x3 ((F_5_needsWord_0 M).1) ((F_5_needsWord_0 M).2) hp
theorem C_10_readStep {g : Gl} (rF : Int32 → Mem → Int32 × Mem) (rP : Int32 → Mem → Prop) {dr : Nat} (rT : ∀ (a0 : Int32) (M : Mem), rP a0 M → Ms g dr m10_readSteps [.ref 1587, .ref 1560, .ref 1561, .int a0] M (some (.int (rF a0 M).1)) ((rF a0 M).2)) (x3 : Int32) (M : Mem) (hp : P_10_readStep_0 rF rP x3 M) : Ms g (dr + 5) m10_readStep [.ref 1587, .ref 1560, .ref 1561, .int x3] M (some (.int (F_10_readStep_0 rF x3 M).1)) ((F_10_readStep_0 rF x3 M).2) := Ms.of okM_m10_readStep (Nat.le_of_ble_eq_true rfl) (R_wk (lc rfl (lc rfl (lc rfl (lc rfl l0)))) (T_10_readStep_0 rF rP rT x3 M hp))
