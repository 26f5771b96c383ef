def F_11_fault_0 (M : Mem) : Int32 := (rd M 1558 2)
theorem T_11_fault_0 {g : Gl} (M : Mem)  : Rn g 0 m11_fault 0 [some (.ref 1558)] [] M (some (.int (F_11_fault_0 M))) (M) := by
  rw [F_11_fault_0]
  exact b11_fault_0  rfl rfl
theorem C_11_fault {g : Gl}   (M : Mem)  : Ms g 0 m11_fault [.ref 1558] M (some (.int (F_11_fault_0 M))) (M) := Ms.of okM_m11_fault (Nat.le_of_ble_eq_true rfl) (R_wk (lc rfl l0) (T_11_fault_0 M))
def F_11_undo_19 (M : Mem) : Int32 × Mem := (rd (wr M 1558 5 0) 1614 2, wr M 1558 5 0)
theorem T_11_undo_19 {g : Gl} (M : Mem)  : Rn g 3 m11_undo 19 [some (.ref 1558)] [] M (some (.int (F_11_undo_19 M).1)) ((F_11_undo_19 M).2) := by
  rw [F_11_undo_19]
  exact b11_undo_19  rfl rfl
def F_11_undo_0 (M : Mem) : Int32 × Mem := if 0 < (rd M 1614 2) then (F_11_undo_19 (F_8_takeBack_0 M)) else (((-1), M))
def P_11_undo_0 (M : Mem) : Prop := ((0 < (rd M 1614 2) → ((P_8_takeBack_0 M))) ∧ (¬ 0 < (rd M 1614 2) → True))
theorem T_11_undo_0 {g : Gl} (M : Mem) (hp : P_11_undo_0 M) : Rn g 3 m11_undo 0 [some (.ref 1558)] [] M (some (.int (F_11_undo_0 M).1)) ((F_11_undo_0 M).2) := by
  rw [F_11_undo_0]
  rw [P_11_undo_0] at hp
  refine b11_undo_0  (fun h => ?_) (fun h => ?_)
  · rw [if_pos h]
    have hp := hp.1 h
    have hc := hp
    refine b11_undo_12  (C_8_takeBack  M hc) (Nat.le_of_ble_eq_true rfl) ?_
    exact T_11_undo_19 (F_8_takeBack_0 M)
  · rw [if_neg h]
    exact b11_undo_10  rfl rfl
theorem C_11_undo {g : Gl}   (M : Mem) (hp : P_11_undo_0 M) : Ms g 3 m11_undo [.ref 1558] M (some (.int (F_11_undo_0 M).1)) ((F_11_undo_0 M).2) := Ms.of okM_m11_undo (Nat.le_of_ble_eq_true rfl) (R_wk (lc rfl l0) (T_11_undo_0 M hp))
def F_11_told_106 (xs0 : Int32) (M : Mem) : Oc := .inl (some (.int (F_6_bitCount_0f7a4_0 M xs0)), M)
theorem T_11_told_106 {g : Gl} (xs0 : Int32) (M : Mem)  : Rc g 7 0 m11_told 106 [none, none] [.int xs0] M ((F_11_told_106 xs0 M)) := by
  rw [F_11_told_106]
  refine b11_told_106  (C_6_bitCount_0f7a4 xs0 M) (Nat.le_of_ble_eq_true rfl) ?_
  exact b11_told_109  rfl
def F_11_told_0 (x1 : Int32) (M : Mem) : Oc := if 0 ≤ x1 ∧ x1 ≤ 9 then ((if x1 = 0 then (.inl (some (.int (rd M 1561 0)), M)) else (if x1 = 1 then (.inl (some (.int (rd M 1561 1)), M)) else (if x1 = 2 then (.inl (some (.int (rd M 1561 2)), M)) else (if x1 = 3 then (.inl (some (.int (rd M 1622 0)), M)) else (if x1 = 4 then (F_11_told_106 ((F_1_openDoors_0 (rd M 1622 0) M).1) ((F_1_openDoors_0 (rd M 1622 0) M).2)) else (if x1 = 5 then (.inl (some (.int (F_6_bitCount_0f7a4_0 M (rd M 1622 2))), M)) else (if x1 = 6 then (.inl (some (.int (F_7_usedInAll_0 M)), M)) else (if x1 = 7 then (.inl (some (.int (rd M 1622 1)), M)) else (if x1 = 8 then (.inl (some (.int (rd M 1592 7)), M)) else (.inl (some (.int (rd M 1558 5)), M)))))))))))) else (.inr ("java/lang/IllegalArgumentException", wr M 1558 4 (rd M 1558 4 + 1)))
def P_11_told_0 (x1 : Int32) (M : Mem) : Prop := ((0 ≤ x1 ∧ x1 ≤ 9 → ((x1 = 0 → True) ∧ (x1 = 1 → True) ∧ (x1 = 2 → True) ∧ (x1 = 3 → True) ∧ (x1 = 4 → ((P_1_openDoors_0 (rd M 1622 0) M))) ∧ (x1 = 5 → True) ∧ (x1 = 6 → ((P_7_usedInAll_0 M))) ∧ (x1 = 7 → True) ∧ (x1 = 8 → True) ∧ (¬ x1 = 0 ∧ ¬ x1 = 1 ∧ ¬ x1 = 2 ∧ ¬ x1 = 3 ∧ ¬ x1 = 4 ∧ ¬ x1 = 5 ∧ ¬ x1 = 6 ∧ ¬ x1 = 7 ∧ ¬ x1 = 8 → True))))
theorem T_11_told_0 {g : Gl} (x1 : Int32) (M : Mem) (hp : P_11_told_0 x1 M) : Rc g 7 1 m11_told 0 [some (.ref 1558), some (.int x1)] [] M ((F_11_told_0 x1 M)) := by
  rw [F_11_told_0]
  rw [P_11_told_0] at hp
  refine b11_told_0  (C_needWithin x1 0 9 M) (Nat.le_of_ble_eq_true rfl) (fun h => ?_) (fun h => ?_)
  · rw [if_pos h]
    have hp := hp h
    by_cases h0 : x1 = 0
    · rw [if_pos h0]
      refine b11_told_8_c0  h0 ?_
      exact b11_told_60  rfl
    rw [if_neg h0]
    by_cases h1 : x1 = 1
    · rw [if_pos h1]
      refine b11_told_8_c1  h1 ?_
      exact b11_told_68  rfl
    rw [if_neg h1]
    by_cases h2 : x1 = 2
    · rw [if_pos h2]
      refine b11_told_8_c2  h2 ?_
      exact b11_told_76  rfl
    rw [if_neg h2]
    by_cases h3 : x1 = 3
    · rw [if_pos h3]
      refine b11_told_8_c3  h3 ?_
      exact b11_told_84  rfl
    rw [if_neg h3]
    by_cases h4 : x1 = 4
    · rw [if_pos h4]
      have hp := hp.2.2.2.2.1 h4
      refine b11_told_8_c4  h4 ?_
      have hc := hp
      refine b11_told_92  (C_1_openDoors (rd M 1622 0) M hc) (Nat.le_of_ble_eq_true rfl) ?_
      exact R_cw (Nat.le_of_ble_eq_true rfl) (T_11_told_106 ((F_1_openDoors_0 (rd M 1622 0) M).1) ((F_1_openDoors_0 (rd M 1622 0) M).2))
    rw [if_neg h4]
    by_cases h5 : x1 = 5
    · rw [if_pos h5]
      refine b11_told_8_c5  h5 ?_
      refine b11_told_110  (C_6_bitCount_0f7a4 (rd M 1622 2) M) (Nat.le_of_ble_eq_true rfl) ?_
      exact b11_told_120  rfl
    rw [if_neg h5]
    by_cases h6 : x1 = 6
    · rw [if_pos h6]
      have hp := hp.2.2.2.2.2.2.1 h6
      refine b11_told_8_c6  h6 ?_
      have hc := hp
      refine b11_told_121  (C_7_usedInAll  M hc) (Nat.le_of_ble_eq_true rfl) ?_
      exact b11_told_128  rfl
    rw [if_neg h6]
    by_cases h7 : x1 = 7
    · rw [if_pos h7]
      refine b11_told_8_c7  h7 ?_
      exact b11_told_129  rfl
    rw [if_neg h7]
    by_cases h8 : x1 = 8
    · rw [if_pos h8]
      refine b11_told_8_c8  h8 ?_
      exact b11_told_137  rfl
    rw [if_neg h8]
    refine b11_told_8_d  (sw_out (x := x1) (lo := 0) (hi := 8) (by intro z ha hb e; rcases (show z = 0 ∨ z = 1 ∨ z = 2 ∨ z = 3 ∨ z = 4 ∨ z = 5 ∨ z = 6 ∨ z = 7 ∨ z = 8 by omega) with r | r | r | r | r | r | r | r | r <;> subst r <;> first | exact h0 (Int32.toInt_inj.mp (e.trans (by decide))) | exact h1 (Int32.toInt_inj.mp (e.trans (by decide))) | exact h2 (Int32.toInt_inj.mp (e.trans (by decide))) | exact h3 (Int32.toInt_inj.mp (e.trans (by decide))) | exact h4 (Int32.toInt_inj.mp (e.trans (by decide))) | exact h5 (Int32.toInt_inj.mp (e.trans (by decide))) | exact h6 (Int32.toInt_inj.mp (e.trans (by decide))) | exact h7 (Int32.toInt_inj.mp (e.trans (by decide))) | exact h8 (Int32.toInt_inj.mp (e.trans (by decide))))) ?_
    exact b11_told_145  rfl
  · rw [if_neg h]
theorem C_11_told {g : Gl} (x1 : Int32) (M : Mem) (hp : P_11_told_0 x1 M) : MsX g 7 1 m11_told [.ref 1558, .int x1] M (F_11_told_0 x1 M) := MsX.of okM_m11_told (Nat.le_of_ble_eq_true rfl) (R_wk (lc rfl (lc rfl l0)) (T_11_told_0 x1 M hp))
def F_11_room_110 (x1 : Int32) (xs0 : Int32) (M : Mem) : Oc := .inl (some (.int (F_6_bitCount_0f7a4_0 M (xs0 &&& (rd M 1564 x1.toNatClampNeg)))), M)
def P_11_room_110 (x1 : Int32) (xs0 : Int32) (M : Mem) : Prop := (vp_in x1 10)
theorem T_11_room_110 {g : Gl} (x1 : Int32) (xs0 : Int32) (M : Mem) (hp : P_11_room_110 x1 xs0 M) : Rc g 7 0 m11_room 110 [some (.ref 1558), some (.int x1), none] [.int xs0] M ((F_11_room_110 x1 xs0 M)) := by
  rw [F_11_room_110]
  rw [P_11_room_110] at hp
  have p0 := hp
  refine b11_room_110 p0 (C_6_bitCount_0f7a4 (xs0 &&& (rd M 1564 x1.toNatClampNeg)) M) (Nat.le_of_ble_eq_true rfl) ?_
  exact b11_room_123  rfl
def F_11_room_138 (x1 : Int32) (xs0 : Int32) (M : Mem) : Oc := .inl (some (.int (F_6_bitCount_0f7a4_0 M (xs0 &&& (rd M 1565 x1.toNatClampNeg)))), M)
def P_11_room_138 (x1 : Int32) (xs0 : Int32) (M : Mem) : Prop := (vp_in x1 10)
theorem T_11_room_138 {g : Gl} (x1 : Int32) (xs0 : Int32) (M : Mem) (hp : P_11_room_138 x1 xs0 M) : Rc g 7 0 m11_room 138 [some (.ref 1558), some (.int x1), none] [.int xs0] M ((F_11_room_138 x1 xs0 M)) := by
  rw [F_11_room_138]
  rw [P_11_room_138] at hp
  have p0 := hp
  refine b11_room_138 p0 (C_6_bitCount_0f7a4 (xs0 &&& (rd M 1565 x1.toNatClampNeg)) M) (Nat.le_of_ble_eq_true rfl) ?_
  exact b11_room_151  rfl
def F_11_room_0 (x1 : Int32) (x2 : Int32) (M : Mem) : Oc := if 0 ≤ x1 ∧ x1 < rd M 1561 0 then (if 0 ≤ x2 ∧ x2 ≤ 5 then ((if x2 = 0 then (.inl (some (.int (rd M 1562 x1.toNatClampNeg)), M)) else (if x2 = 1 then (.inl (some (.int (((rd M 1561 3) >>> (x1 &&& 31)) &&& 1)), M)) else (if x2 = 2 then (.inl (some (.int (rd M 1563 x1.toNatClampNeg)), M)) else (if x2 = 3 then (.inl (some (.int (F_7_toursIn_0 M x1 (rd M 1561 2))), M)) else (if x2 = 4 then (F_11_room_110 x1 ((F_1_openDoors_0 (rd M 1622 0) M).1) ((F_1_openDoors_0 (rd M 1622 0) M).2)) else (F_11_room_138 x1 ((F_1_openDoors_0 (rd M 1622 0) M).1) ((F_1_openDoors_0 (rd M 1622 0) M).2)))))))) else (.inr ("java/lang/IllegalArgumentException", wr M 1558 4 (rd M 1558 4 + 1)))) else (.inr ("java/util/NoSuchElementException", wr M 1558 3 (rd M 1558 3 + 1)))
def P_11_room_0 (x1 : Int32) (x2 : Int32) (M : Mem) : Prop := ((0 ≤ x1 ∧ x1 < rd M 1561 0 → ((0 ≤ x2 ∧ x2 ≤ 5 → ((x2 = 0 → (vp_in x1 10)) ∧ (x2 = 1 → True) ∧ (x2 = 2 → (vp_in x1 10)) ∧ (x2 = 3 → ((P_7_toursIn_0 M x1 (rd M 1561 2)))) ∧ (x2 = 4 → ((P_1_openDoors_0 (rd M 1622 0) M) ∧ (P_11_room_110 x1 ((F_1_openDoors_0 (rd M 1622 0) M).1) ((F_1_openDoors_0 (rd M 1622 0) M).2)))) ∧ (¬ x2 = 0 ∧ ¬ x2 = 1 ∧ ¬ x2 = 2 ∧ ¬ x2 = 3 ∧ ¬ x2 = 4 → ((P_1_openDoors_0 (rd M 1622 0) M) ∧ (P_11_room_138 x1 ((F_1_openDoors_0 (rd M 1622 0) M).1) ((F_1_openDoors_0 (rd M 1622 0) M).2)))))))))
theorem T_11_room_0 {g : Gl} (x1 : Int32) (x2 : Int32) (M : Mem) (hp : P_11_room_0 x1 x2 M) : Rc g 7 2 m11_room 0 [some (.ref 1558), some (.int x1), some (.int x2)] [] M ((F_11_room_0 x1 x2 M)) := by
  rw [F_11_room_0]
  rw [P_11_room_0] at hp
  refine b11_room_0  (C_needRoom x1 M) (Nat.le_of_ble_eq_true rfl) (fun h => ?_) (fun h => ?_)
  · rw [if_pos h]
    have hp := hp h
    refine b11_room_5  (C_needWithin x2 0 5 M) (Nat.le_of_ble_eq_true rfl) (fun h => ?_) (fun h => ?_)
    · rw [if_pos h]
      have hp := hp h
      by_cases h0 : x2 = 0
      · rw [if_pos h0]
        have hp := hp.1 h0
        refine b11_room_12_c0  h0 ?_
        have p0 := hp
        exact b11_room_48 p0 rfl
      rw [if_neg h0]
      by_cases h1 : x2 = 1
      · rw [if_pos h1]
        refine b11_room_12_c1  h1 ?_
        exact b11_room_58  rfl
      rw [if_neg h1]
      by_cases h2 : x2 = 2
      · rw [if_pos h2]
        have hp := hp.2.2.1 h2
        refine b11_room_12_c2  h2 ?_
        have p1 := hp
        exact b11_room_70 p1 rfl
      rw [if_neg h2]
      by_cases h3 : x2 = 3
      · rw [if_pos h3]
        have hp := hp.2.2.2.1 h3
        refine b11_room_12_c3  h3 ?_
        have hc := hp
        refine b11_room_80  (C_7_toursIn x1 (rd M 1561 2) M hc) (Nat.le_of_ble_eq_true rfl) ?_
        exact b11_room_95  rfl
      rw [if_neg h3]
      by_cases h4 : x2 = 4
      · rw [if_pos h4]
        have hp := hp.2.2.2.2.1 h4
        refine b11_room_12_c4  h4 ?_
        obtain ⟨hc, hp⟩ := hp
        refine b11_room_96  (C_1_openDoors (rd M 1622 0) M hc) (Nat.le_of_ble_eq_true rfl) ?_
        exact R_cw (Nat.le_of_ble_eq_true rfl) (T_11_room_110 x1 ((F_1_openDoors_0 (rd M 1622 0) M).1) ((F_1_openDoors_0 (rd M 1622 0) M).2) hp)
      rw [if_neg h4]
      have hp := hp.2.2.2.2.2 ⟨h0, h1, h2, h3, h4⟩
      refine b11_room_12_d  (sw_out (x := x2) (lo := 0) (hi := 4) (by intro z ha hb e; rcases (show z = 0 ∨ z = 1 ∨ z = 2 ∨ z = 3 ∨ z = 4 by omega) with r | r | r | r | r <;> subst r <;> first | exact h0 (Int32.toInt_inj.mp (e.trans (by decide))) | exact h1 (Int32.toInt_inj.mp (e.trans (by decide))) | exact h2 (Int32.toInt_inj.mp (e.trans (by decide))) | exact h3 (Int32.toInt_inj.mp (e.trans (by decide))) | exact h4 (Int32.toInt_inj.mp (e.trans (by decide))))) ?_
      obtain ⟨hc, hp⟩ := hp
      refine b11_room_124  (C_1_openDoors (rd M 1622 0) M hc) (Nat.le_of_ble_eq_true rfl) ?_
      exact R_cw (Nat.le_of_ble_eq_true rfl) (T_11_room_138 x1 ((F_1_openDoors_0 (rd M 1622 0) M).1) ((F_1_openDoors_0 (rd M 1622 0) M).2) hp)
    · rw [if_neg h]
  · rw [if_neg h]
theorem C_11_room {g : Gl} (x1 : Int32) (x2 : Int32) (M : Mem) (hp : P_11_room_0 x1 x2 M) : MsX g 7 2 m11_room [.ref 1558, .int x1, .int x2] M (F_11_room_0 x1 x2 M) := MsX.of okM_m11_room (Nat.le_of_ble_eq_true rfl) (R_wk (lc rfl (lc rfl (lc rfl l0))) (T_11_room_0 x1 x2 M hp))
def F_11_door_119 (xs0 : Int32) (M : Mem) : Oc := if xs0 = 0 then (.inl (some (.int 0), M)) else (.inl (some (.int 1), M))
theorem T_11_door_119 {g : Gl} (xs0 : Int32) (M : Mem)  : Rc g 7 0 m11_door 119 [none, none, none] [.int xs0] M ((F_11_door_119 xs0 M)) := by
  rw [F_11_door_119]
  refine b11_door_119  (fun h => ?_) (fun h => ?_)
  · rw [if_pos h]
    refine b11_door_126  ?_
    exact b11_door_127  rfl
  · rw [if_neg h]
    refine b11_door_122  ?_
    exact b11_door_127  rfl
def F_11_door_0 (x1 : Int32) (x2 : Int32) (M : Mem) : Oc := if 0 ≤ x1 ∧ x1 < rd M 1561 1 then (if 0 ≤ x2 ∧ x2 ≤ 6 then ((if x2 = 0 then (.inl (some (.int (rd M 1567 x1.toNatClampNeg)), M)) else (if x2 = 1 then (.inl (some (.int (rd M 1568 x1.toNatClampNeg)), M)) else (if x2 = 2 then (.inl (some (.int (rd M 1569 x1.toNatClampNeg)), M)) else (if x2 = 3 then (.inl (some (.int (rd M 1570 x1.toNatClampNeg)), M)) else (if x2 = 4 then (.inl (some (.int (((rd M 1622 2) >>> (x1 &&& 31)) &&& 1)), M)) else (if x2 = 5 then (F_11_door_119 ((F_1_isOpen_0 x1 (rd M 1622 0) M).1) ((F_1_isOpen_0 x1 (rd M 1622 0) M).2)) else (.inl (some (.int (rd M 1623 x1.toNatClampNeg)), M))))))))) else (.inr ("java/lang/IllegalArgumentException", wr M 1558 4 (rd M 1558 4 + 1)))) else (.inr ("java/util/NoSuchElementException", wr M 1558 3 (rd M 1558 3 + 1)))
def P_11_door_0 (x1 : Int32) (x2 : Int32) (M : Mem) : Prop := ((0 ≤ x1 ∧ x1 < rd M 1561 1 → ((0 ≤ x2 ∧ x2 ≤ 6 → ((x2 = 0 → (vp_in x1 24)) ∧ (x2 = 1 → (vp_in x1 24)) ∧ (x2 = 2 → (vp_in x1 24)) ∧ (x2 = 3 → (vp_in x1 24)) ∧ (x2 = 4 → True) ∧ (x2 = 5 → ((P_1_isOpen_0 x1 (rd M 1622 0) M))) ∧ (¬ x2 = 0 ∧ ¬ x2 = 1 ∧ ¬ x2 = 2 ∧ ¬ x2 = 3 ∧ ¬ x2 = 4 ∧ ¬ x2 = 5 → (vp_in x1 24)))))))
theorem T_11_door_0 {g : Gl} (x1 : Int32) (x2 : Int32) (M : Mem) (hp : P_11_door_0 x1 x2 M) : Rc g 7 2 m11_door 0 [some (.ref 1558), some (.int x1), some (.int x2)] [] M ((F_11_door_0 x1 x2 M)) := by
  rw [F_11_door_0]
  rw [P_11_door_0] at hp
  refine b11_door_0  (C_needDoor x1 M) (Nat.le_of_ble_eq_true rfl) (fun h => ?_) (fun h => ?_)
  · rw [if_pos h]
    have hp := hp h
    refine b11_door_5  (C_needWithin x2 0 6 M) (Nat.le_of_ble_eq_true rfl) (fun h => ?_) (fun h => ?_)
    · rw [if_pos h]
      have hp := hp h
      by_cases h0 : x2 = 0
      · rw [if_pos h0]
        have hp := hp.1 h0
        refine b11_door_13_c0  h0 ?_
        have p0 := hp
        exact b11_door_52 p0 rfl
      rw [if_neg h0]
      by_cases h1 : x2 = 1
      · rw [if_pos h1]
        have hp := hp.2.1 h1
        refine b11_door_13_c1  h1 ?_
        have p1 := hp
        exact b11_door_62 p1 rfl
      rw [if_neg h1]
      by_cases h2 : x2 = 2
      · rw [if_pos h2]
        have hp := hp.2.2.1 h2
        refine b11_door_13_c2  h2 ?_
        have p2 := hp
        exact b11_door_72 p2 rfl
      rw [if_neg h2]
      by_cases h3 : x2 = 3
      · rw [if_pos h3]
        have hp := hp.2.2.2.1 h3
        refine b11_door_13_c3  h3 ?_
        have p3 := hp
        exact b11_door_82 p3 rfl
      rw [if_neg h3]
      by_cases h4 : x2 = 4
      · rw [if_pos h4]
        refine b11_door_13_c4  h4 ?_
        exact b11_door_92  rfl
      rw [if_neg h4]
      by_cases h5 : x2 = 5
      · rw [if_pos h5]
        have hp := hp.2.2.2.2.2.1 h5
        refine b11_door_13_c5  h5 ?_
        have hc := hp
        refine b11_door_104  (C_1_isOpen x1 (rd M 1622 0) M hc) (Nat.le_of_ble_eq_true rfl) ?_
        exact R_cw (Nat.le_of_ble_eq_true rfl) (T_11_door_119 ((F_1_isOpen_0 x1 (rd M 1622 0) M).1) ((F_1_isOpen_0 x1 (rd M 1622 0) M).2))
      rw [if_neg h5]
      have hp := hp.2.2.2.2.2.2 ⟨h0, h1, h2, h3, h4, h5⟩
      refine b11_door_13_d  (sw_out (x := x2) (lo := 0) (hi := 5) (by intro z ha hb e; rcases (show z = 0 ∨ z = 1 ∨ z = 2 ∨ z = 3 ∨ z = 4 ∨ z = 5 by omega) with r | r | r | r | r | r <;> subst r <;> first | exact h0 (Int32.toInt_inj.mp (e.trans (by decide))) | exact h1 (Int32.toInt_inj.mp (e.trans (by decide))) | exact h2 (Int32.toInt_inj.mp (e.trans (by decide))) | exact h3 (Int32.toInt_inj.mp (e.trans (by decide))) | exact h4 (Int32.toInt_inj.mp (e.trans (by decide))) | exact h5 (Int32.toInt_inj.mp (e.trans (by decide))))) ?_
      have p4 := hp
      exact b11_door_128 p4 rfl
    · rw [if_neg h]
  · rw [if_neg h]
theorem C_11_door {g : Gl} (x1 : Int32) (x2 : Int32) (M : Mem) (hp : P_11_door_0 x1 x2 M) : MsX g 7 2 m11_door [.ref 1558, .int x1, .int x2] M (F_11_door_0 x1 x2 M) := MsX.of okM_m11_door (Nat.le_of_ble_eq_true rfl) (R_wk (lc rfl (lc rfl (lc rfl l0))) (T_11_door_0 x1 x2 M hp))
def F_11_tour_15 (M : Mem) : Oc := .inr ("java/util/NoSuchElementException", wr M 1558 3 ((rd M 1558 3) + 1))
theorem T_11_tour_15 {g : Gl} (M : Mem)  : Rc g 6 1 m11_tour 15 [some (.ref 1558), none] [] M ((F_11_tour_15 M)) := by
  rw [F_11_tour_15]
  exact b11_tour_15  (Nat.le_of_ble_eq_true rfl) rfl
def F_11_tour_0 (x1 : Int32) (M : Mem) : Oc := if x1 < 0 then (F_11_tour_15 M) else (if x1 < (rd M 1561 2) then (.inl (some (.int (rd M 1624 x1.toNatClampNeg)), M)) else (F_11_tour_15 M))
def P_11_tour_0 (x1 : Int32) (M : Mem) : Prop := ((x1 < 0 → True) ∧ (¬ x1 < 0 → ((x1 < (rd M 1561 2) → (vp_in x1 6)) ∧ (¬ x1 < (rd M 1561 2) → True))))
theorem T_11_tour_0 {g : Gl} (x1 : Int32) (M : Mem) (hp : P_11_tour_0 x1 M) : Rc g 6 1 m11_tour 0 [some (.ref 1558), some (.int x1)] [] M ((F_11_tour_0 x1 M)) := by
  rw [F_11_tour_0]
  rw [P_11_tour_0] at hp
  refine b11_tour_0  (fun h => ?_) (fun h => ?_)
  · rw [if_pos h]
    exact R_cw (Nat.le_of_ble_eq_true rfl) (T_11_tour_15 M)
  · rw [if_neg h]
    have hp := hp.2 h
    refine b11_tour_4  (fun h => ?_) (fun h => ?_)
    · rw [if_pos h]
      have hp := hp.1 h
      have p0 := hp
      exact b11_tour_36 p0 rfl
    · rw [if_neg h]
      exact R_cw (Nat.le_of_ble_eq_true rfl) (T_11_tour_15 M)
theorem C_11_tour {g : Gl} (x1 : Int32) (M : Mem) (hp : P_11_tour_0 x1 M) : MsX g 6 1 m11_tour [.ref 1558, .int x1] M (F_11_tour_0 x1 M) := MsX.of okM_m11_tour (Nat.le_of_ble_eq_true rfl) (R_wk (lc rfl (lc rfl l0)) (T_11_tour_0 x1 M hp))
def F_11_open_35 (xs0 : Int32) (M : Mem) : Oc := .inl (some (.int xs0), M)
def P_11_open_35 (xs0 : Int32) (M : Mem) : Prop := (narrow .boolean (.int xs0) = .int xs0)
theorem T_11_open_35 {g : Gl} (xs0 : Int32) (M : Mem) (hp : P_11_open_35 xs0 M) : Rc g 7 0 m11_open 35 [none, none, none, none] [.int xs0] M ((F_11_open_35 xs0 M)) := by
  rw [F_11_open_35]
  rw [P_11_open_35] at hp
  have p0 := hp
  exact b11_open_35  rfl p0
def F_11_open_0 (x1 : Int32) (x2 : Int32) (x3 : Int32) (M : Mem) : Oc := if 0 ≤ x1 ∧ x1 < rd M 1561 1 then (if 0 ≤ x2 ∧ x2 ≤ 23 then (if 0 ≤ x3 ∧ x3 ≤ 99 then (F_11_open_35 ((F_1_isOpen_0 x1 ((x3 * 24) + x2) M).1) ((F_1_isOpen_0 x1 ((x3 * 24) + x2) M).2)) else (.inr ("java/lang/IllegalArgumentException", wr M 1558 4 (rd M 1558 4 + 1)))) else (.inr ("java/lang/IllegalArgumentException", wr M 1558 4 (rd M 1558 4 + 1)))) else (.inr ("java/util/NoSuchElementException", wr M 1558 3 (rd M 1558 3 + 1)))
def P_11_open_0 (x1 : Int32) (x2 : Int32) (x3 : Int32) (M : Mem) : Prop := ((0 ≤ x1 ∧ x1 < rd M 1561 1 → ((0 ≤ x2 ∧ x2 ≤ 23 → ((0 ≤ x3 ∧ x3 ≤ 99 → ((P_1_isOpen_0 x1 ((x3 * 24) + x2) M) ∧ (P_11_open_35 ((F_1_isOpen_0 x1 ((x3 * 24) + x2) M).1) ((F_1_isOpen_0 x1 ((x3 * 24) + x2) M).2)))))))))
theorem T_11_open_0 {g : Gl} (x1 : Int32) (x2 : Int32) (x3 : Int32) (M : Mem) (hp : P_11_open_0 x1 x2 x3 M) : Rc g 7 3 m11_open 0 [some (.ref 1558), some (.int x1), some (.int x2), some (.int x3)] [] M ((F_11_open_0 x1 x2 x3 M)) := by
  rw [F_11_open_0]
  rw [P_11_open_0] at hp
  refine b11_open_0  (C_needDoor x1 M) (Nat.le_of_ble_eq_true rfl) (fun h => ?_) (fun h => ?_)
  · rw [if_pos h]
    have hp := hp h
    refine b11_open_5  (C_needWithin x2 0 23 M) (Nat.le_of_ble_eq_true rfl) (fun h => ?_) (fun h => ?_)
    · rw [if_pos h]
      have hp := hp h
      refine b11_open_13  (C_needWithin x3 0 99 M) (Nat.le_of_ble_eq_true rfl) (fun h => ?_) (fun h => ?_)
      · rw [if_pos h]
        have hp := hp h
        obtain ⟨hc, hp⟩ := hp
        refine b11_open_21  (C_1_isOpen x1 ((x3 * 24) + x2) M hc) (Nat.le_of_ble_eq_true rfl) ?_
        exact R_cw (Nat.le_of_ble_eq_true rfl) (T_11_open_35 ((F_1_isOpen_0 x1 ((x3 * 24) + x2) M).1) ((F_1_isOpen_0 x1 ((x3 * 24) + x2) M).2) hp)
      · rw [if_neg h]
    · rw [if_neg h]
  · rw [if_neg h]
theorem C_11_open {g : Gl} (x1 : Int32) (x2 : Int32) (x3 : Int32) (M : Mem) (hp : P_11_open_0 x1 x2 x3 M) : MsX g 7 3 m11_open [.ref 1558, .int x1, .int x2, .int x3] M (F_11_open_0 x1 x2 x3 M) := MsX.of okM_m11_open (Nat.le_of_ble_eq_true rfl) (R_wk (lc rfl (lc rfl (lc rfl (lc rfl l0)))) (T_11_open_0 x1 x2 x3 M hp))
def F_11_fits_7 (xs0 : Int32) (M : Mem) : Int32 × Mem := (xs0, M)
theorem T_11_fits_7 {g : Gl} (xs0 : Int32) (M : Mem)  : Rn g 3 m11_fits 7 [none] [.int xs0] M (some (.int (F_11_fits_7 xs0 M).1)) ((F_11_fits_7 xs0 M).2) := by
  rw [F_11_fits_7]
  exact b11_fits_7  rfl rfl
def F_11_fits_0 (M : Mem) : Int32 × Mem := F_11_fits_7 ((F_9_standing_0 M).1) ((F_9_standing_0 M).2)
def P_11_fits_0 (M : Mem) : Prop := ((P_9_standing_0 M))
theorem T_11_fits_0 {g : Gl} (M : Mem) (hp : P_11_fits_0 M) : Rn g 3 m11_fits 0 [some (.ref 1558)] [] M (some (.int (F_11_fits_0 M).1)) ((F_11_fits_0 M).2) := by
  rw [F_11_fits_0]
  rw [P_11_fits_0] at hp
  have hc := hp
  refine b11_fits_0  (C_9_standing  M hc) (Nat.le_of_ble_eq_true rfl) ?_
  exact T_11_fits_7 ((F_9_standing_0 M).1) ((F_9_standing_0 M).2)
theorem C_11_fits {g : Gl}   (M : Mem) (hp : P_11_fits_0 M) : Ms g 3 m11_fits [.ref 1558] M (some (.int (F_11_fits_0 M).1)) ((F_11_fits_0 M).2) := Ms.of okM_m11_fits (Nat.le_of_ble_eq_true rfl) (R_wk (lc rfl l0) (T_11_fits_0 M hp))
def F_11_knows_7 (xs0 : Int32) (M : Mem) : Int32 × Mem := (xs0, M)
theorem T_11_knows_7 {g : Gl} (xs0 : Int32) (M : Mem)  : Rn g 4 m11_knows 7 [none] [.int xs0] M (some (.int (F_11_knows_7 xs0 M).1)) ((F_11_knows_7 xs0 M).2) := by
  rw [F_11_knows_7]
  exact b11_knows_7  rfl rfl
def F_11_knows_0 (M : Mem) : Int32 × Mem := F_11_knows_7 ((F_9_roomsToKnow_0 M).1) ((F_9_roomsToKnow_0 M).2)
def P_11_knows_0 (M : Mem) : Prop := ((P_9_roomsToKnow_0 M))
theorem T_11_knows_0 {g : Gl} (M : Mem) (hp : P_11_knows_0 M) : Rn g 4 m11_knows 0 [some (.ref 1558)] [] M (some (.int (F_11_knows_0 M).1)) ((F_11_knows_0 M).2) := by
  rw [F_11_knows_0]
  rw [P_11_knows_0] at hp
  have hc := hp
  refine b11_knows_0  (C_9_roomsToKnow  M hc) (Nat.le_of_ble_eq_true rfl) ?_
  exact T_11_knows_7 ((F_9_roomsToKnow_0 M).1) ((F_9_roomsToKnow_0 M).2)
theorem C_11_knows {g : Gl}   (M : Mem) (hp : P_11_knows_0 M) : Ms g 4 m11_knows [.ref 1558] M (some (.int (F_11_knows_0 M).1)) ((F_11_knows_0 M).2) := Ms.of okM_m11_knows (Nat.le_of_ble_eq_true rfl) (R_wk (lc rfl l0) (T_11_knows_0 M hp))
def F_11_slips_14 (x1 : Int32) (xs0 : Int32) (M : Mem) : Oc := if x1 = 0 then (.inl (some (.int xs0), M)) else (.inl (some (.int (F_9_firstWrong_0 M xs0)), M))
def P_11_slips_14 (x1 : Int32) (xs0 : Int32) (M : Mem) : Prop := ((¬ x1 = 0 → ((P_9_firstWrong_0 M xs0))) ∧ (x1 = 0 → True))
theorem T_11_slips_14 {g : Gl} (x1 : Int32) (xs0 : Int32) (M : Mem) (hp : P_11_slips_14 x1 xs0 M) : Rc g 7 0 m11_slips 14 [some (.ref 1558), some (.int x1), none] [.int xs0] M ((F_11_slips_14 x1 xs0 M)) := by
  rw [F_11_slips_14]
  rw [P_11_slips_14] at hp
  refine b11_slips_14  (fun h => ?_) (fun h => ?_)
  · rw [if_neg h]
    have hp := hp.1 h
    have hc := hp
    refine b11_slips_23  (C_9_firstWrong xs0 M hc) (Nat.le_of_ble_eq_true rfl) ?_
    exact b11_slips_31  rfl
  · rw [if_pos h]
    refine b11_slips_19  ?_
    exact b11_slips_31  rfl
def F_11_slips_0 (x1 : Int32) (M : Mem) : Oc := if 0 ≤ x1 ∧ x1 ≤ 1 then (F_11_slips_14 x1 ((F_9_fewestWrong_0 M).1) ((F_9_fewestWrong_0 M).2)) else (.inr ("java/lang/IllegalArgumentException", wr M 1558 4 (rd M 1558 4 + 1)))
def P_11_slips_0 (x1 : Int32) (M : Mem) : Prop := ((0 ≤ x1 ∧ x1 ≤ 1 → ((P_9_fewestWrong_0 M) ∧ (P_11_slips_14 x1 ((F_9_fewestWrong_0 M).1) ((F_9_fewestWrong_0 M).2)))))
theorem T_11_slips_0 {g : Gl} (x1 : Int32) (M : Mem) (hp : P_11_slips_0 x1 M) : Rc g 7 1 m11_slips 0 [some (.ref 1558), some (.int x1), none] [] M ((F_11_slips_0 x1 M)) := by
  rw [F_11_slips_0]
  rw [P_11_slips_0] at hp
  refine b11_slips_0  (C_needWithin x1 0 1 M) (Nat.le_of_ble_eq_true rfl) (fun h => ?_) (fun h => ?_)
  · rw [if_pos h]
    have hp := hp h
    obtain ⟨hc, hp⟩ := hp
    refine b11_slips_7  (C_9_fewestWrong  M hc) (Nat.le_of_ble_eq_true rfl) ?_
    exact R_cw (Nat.le_of_ble_eq_true rfl) (T_11_slips_14 x1 ((F_9_fewestWrong_0 M).1) ((F_9_fewestWrong_0 M).2) hp)
  · rw [if_neg h]
theorem C_11_slips {g : Gl} (x1 : Int32) (M : Mem) (hp : P_11_slips_0 x1 M) : MsX g 7 1 m11_slips [.ref 1558, .int x1] M (F_11_slips_0 x1 M) := MsX.of okM_m11_slips (Nat.le_of_ble_eq_true rfl) (R_wk (lc rfl (lc rfl (ln l0))) (T_11_slips_0 x1 M hp))
def F_11_ends_12 (x1 : Int32) (xs0 : Int32) (M : Mem) : Oc := if ((xs0 >>> (x1 &&& 31)) &&& 1) = 0 then (.inl (some (.int 0), M)) else (.inl (some (.int 1), M))
theorem T_11_ends_12 {g : Gl} (x1 : Int32) (xs0 : Int32) (M : Mem)  : Rc g 7 0 m11_ends 12 [none, some (.int x1)] [.int xs0] M ((F_11_ends_12 x1 xs0 M)) := by
  rw [F_11_ends_12]
  refine b11_ends_12  (fun h => ?_) (fun h => ?_)
  · rw [if_pos h]
    refine b11_ends_23  ?_
    exact b11_ends_24  rfl rfl
  · rw [if_neg h]
    refine b11_ends_19  ?_
    exact b11_ends_24  rfl rfl
def F_11_ends_0 (x1 : Int32) (M : Mem) : Oc := if 0 ≤ x1 ∧ x1 < rd M 1561 0 then (F_11_ends_12 x1 ((F_9_standing_0 M).1) ((F_9_standing_0 M).2)) else (.inr ("java/util/NoSuchElementException", wr M 1558 3 (rd M 1558 3 + 1)))
def P_11_ends_0 (x1 : Int32) (M : Mem) : Prop := ((0 ≤ x1 ∧ x1 < rd M 1561 0 → ((P_9_standing_0 M))))
theorem T_11_ends_0 {g : Gl} (x1 : Int32) (M : Mem) (hp : P_11_ends_0 x1 M) : Rc g 7 1 m11_ends 0 [some (.ref 1558), some (.int x1)] [] M ((F_11_ends_0 x1 M)) := by
  rw [F_11_ends_0]
  rw [P_11_ends_0] at hp
  refine b11_ends_0  (C_needRoom x1 M) (Nat.le_of_ble_eq_true rfl) (fun h => ?_) (fun h => ?_)
  · rw [if_pos h]
    have hp := hp h
    have hc := hp
    refine b11_ends_5  (C_9_standing  M hc) (Nat.le_of_ble_eq_true rfl) ?_
    exact R_cw (Nat.le_of_ble_eq_true rfl) (T_11_ends_12 x1 ((F_9_standing_0 M).1) ((F_9_standing_0 M).2))
  · rw [if_neg h]
theorem C_11_ends {g : Gl} (x1 : Int32) (M : Mem) (hp : P_11_ends_0 x1 M) : MsX g 7 1 m11_ends [.ref 1558, .int x1] M (F_11_ends_0 x1 M) := MsX.of okM_m11_ends (Nat.le_of_ble_eq_true rfl) (R_wk (lc rfl (lc rfl l0)) (T_11_ends_0 x1 M hp))
def F_11_soon_23 (xs0 : Int32) (M : Mem) : Oc := .inl (some (.int xs0), M)
theorem T_11_soon_23 {g : Gl} (xs0 : Int32) (M : Mem)  : Rc g 7 0 m11_soon 23 [none, none, none] [.int xs0] M ((F_11_soon_23 xs0 M)) := by
  rw [F_11_soon_23]
  exact b11_soon_23  rfl
def F_11_soon_0 (x1 : Int32) (x2 : Int32) (M : Mem) : Oc := if 0 ≤ x1 ∧ x1 < rd M 1561 0 then (if 0 ≤ x2 ∧ x2 < rd M 1561 0 then (F_11_soon_23 ((F_1_soonest_0 ((1 : Int32) <<< (x1 &&& 31)) ((1 : Int32) <<< (x2 &&& 31)) M).1) ((F_1_soonest_0 ((1 : Int32) <<< (x1 &&& 31)) ((1 : Int32) <<< (x2 &&& 31)) M).2)) else (.inr ("java/util/NoSuchElementException", wr M 1558 3 (rd M 1558 3 + 1)))) else (.inr ("java/util/NoSuchElementException", wr M 1558 3 (rd M 1558 3 + 1)))
def P_11_soon_0 (x1 : Int32) (x2 : Int32) (M : Mem) : Prop := ((0 ≤ x1 ∧ x1 < rd M 1561 0 → ((0 ≤ x2 ∧ x2 < rd M 1561 0 → ((P_1_soonest_0 ((1 : Int32) <<< (x1 &&& 31)) ((1 : Int32) <<< (x2 &&& 31)) M))))))
theorem T_11_soon_0 {g : Gl} (x1 : Int32) (x2 : Int32) (M : Mem) (hp : P_11_soon_0 x1 x2 M) : Rc g 7 2 m11_soon 0 [some (.ref 1558), some (.int x1), some (.int x2)] [] M ((F_11_soon_0 x1 x2 M)) := by
  rw [F_11_soon_0]
  rw [P_11_soon_0] at hp
  refine b11_soon_0  (C_needRoom x1 M) (Nat.le_of_ble_eq_true rfl) (fun h => ?_) (fun h => ?_)
  · rw [if_pos h]
    have hp := hp h
    refine b11_soon_5  (C_needRoom x2 M) (Nat.le_of_ble_eq_true rfl) (fun h => ?_) (fun h => ?_)
    · rw [if_pos h]
      have hp := hp h
      have hc := hp
      refine b11_soon_10  (C_1_soonest ((1 : Int32) <<< (x1 &&& 31)) ((1 : Int32) <<< (x2 &&& 31)) M hc) (Nat.le_of_ble_eq_true rfl) ?_
      exact R_cw (Nat.le_of_ble_eq_true rfl) (T_11_soon_23 ((F_1_soonest_0 ((1 : Int32) <<< (x1 &&& 31)) ((1 : Int32) <<< (x2 &&& 31)) M).1) ((F_1_soonest_0 ((1 : Int32) <<< (x1 &&& 31)) ((1 : Int32) <<< (x2 &&& 31)) M).2))
    · rw [if_neg h]
  · rw [if_neg h]
theorem C_11_soon {g : Gl} (x1 : Int32) (x2 : Int32) (M : Mem) (hp : P_11_soon_0 x1 x2 M) : MsX g 7 2 m11_soon [.ref 1558, .int x1, .int x2] M (F_11_soon_0 x1 x2 M) := MsX.of okM_m11_soon (Nat.le_of_ble_eq_true rfl) (R_wk (lc rfl (lc rfl (lc rfl l0))) (T_11_soon_0 x1 x2 M hp))
def F_11_within_24 (xs0 : Int32) (M : Mem) : Oc := .inl (some (.int xs0), M)
theorem T_11_within_24 {g : Gl} (xs0 : Int32) (M : Mem)  : Rc g 7 0 m11_within 24 [none, none, none] [.int xs0] M ((F_11_within_24 xs0 M)) := by
  rw [F_11_within_24]
  exact b11_within_24  rfl
def F_11_within_0 (x1 : Int32) (x2 : Int32) (M : Mem) : Oc := if 0 ≤ x1 ∧ x1 < rd M 1561 0 then (if 0 ≤ x2 ∧ x2 ≤ 96 then (F_11_within_24 ((F_1_reachedIn_0 ((1 : Int32) <<< (x1 &&& 31)) x2 M).1) ((F_1_reachedIn_0 ((1 : Int32) <<< (x1 &&& 31)) x2 M).2)) else (.inr ("java/lang/IllegalArgumentException", wr M 1558 4 (rd M 1558 4 + 1)))) else (.inr ("java/util/NoSuchElementException", wr M 1558 3 (rd M 1558 3 + 1)))
def P_11_within_0 (x1 : Int32) (x2 : Int32) (M : Mem) : Prop := ((0 ≤ x1 ∧ x1 < rd M 1561 0 → ((0 ≤ x2 ∧ x2 ≤ 96 → ((P_1_reachedIn_0 ((1 : Int32) <<< (x1 &&& 31)) x2 M))))))
theorem T_11_within_0 {g : Gl} (x1 : Int32) (x2 : Int32) (M : Mem) (hp : P_11_within_0 x1 x2 M) : Rc g 7 2 m11_within 0 [some (.ref 1558), some (.int x1), some (.int x2)] [] M ((F_11_within_0 x1 x2 M)) := by
  rw [F_11_within_0]
  rw [P_11_within_0] at hp
  refine b11_within_0  (C_needRoom x1 M) (Nat.le_of_ble_eq_true rfl) (fun h => ?_) (fun h => ?_)
  · rw [if_pos h]
    have hp := hp h
    refine b11_within_5  (C_needWithin x2 0 96 M) (Nat.le_of_ble_eq_true rfl) (fun h => ?_) (fun h => ?_)
    · rw [if_pos h]
      have hp := hp h
      have hc := hp
      refine b11_within_13  (C_1_reachedIn ((1 : Int32) <<< (x1 &&& 31)) x2 M hc) (Nat.le_of_ble_eq_true rfl) ?_
      exact R_cw (Nat.le_of_ble_eq_true rfl) (T_11_within_24 ((F_1_reachedIn_0 ((1 : Int32) <<< (x1 &&& 31)) x2 M).1) ((F_1_reachedIn_0 ((1 : Int32) <<< (x1 &&& 31)) x2 M).2))
    · rw [if_neg h]
  · rw [if_neg h]
theorem C_11_within {g : Gl} (x1 : Int32) (x2 : Int32) (M : Mem) (hp : P_11_within_0 x1 x2 M) : MsX g 7 2 m11_within [.ref 1558, .int x1, .int x2] M (F_11_within_0 x1 x2 M) := MsX.of okM_m11_within (Nat.le_of_ble_eq_true rfl) (R_wk (lc rfl (lc rfl (lc rfl l0))) (T_11_within_0 x1 x2 M hp))
def F_11_out_22 (xs0 : Int32) (M : Mem) : Oc := .inl (some (.int xs0), M)
theorem T_11_out_22 {g : Gl} (xs0 : Int32) (M : Mem)  : Rc g 7 0 m11_out 22 [none, none] [.int xs0] M ((F_11_out_22 xs0 M)) := by
  rw [F_11_out_22]
  exact b11_out_22  rfl
def F_11_out_0 (x1 : Int32) (M : Mem) : Oc := if 0 ≤ x1 ∧ x1 < rd M 1561 0 then (F_11_out_22 ((F_1_soonest_0 ((1 : Int32) <<< (x1 &&& 31)) (rd M 1561 3) M).1) ((F_1_soonest_0 ((1 : Int32) <<< (x1 &&& 31)) (rd M 1561 3) M).2)) else (.inr ("java/util/NoSuchElementException", wr M 1558 3 (rd M 1558 3 + 1)))
def P_11_out_0 (x1 : Int32) (M : Mem) : Prop := ((0 ≤ x1 ∧ x1 < rd M 1561 0 → ((P_1_soonest_0 ((1 : Int32) <<< (x1 &&& 31)) (rd M 1561 3) M))))
theorem T_11_out_0 {g : Gl} (x1 : Int32) (M : Mem) (hp : P_11_out_0 x1 M) : Rc g 7 1 m11_out 0 [some (.ref 1558), some (.int x1)] [] M ((F_11_out_0 x1 M)) := by
  rw [F_11_out_0]
  rw [P_11_out_0] at hp
  refine b11_out_0  (C_needRoom x1 M) (Nat.le_of_ble_eq_true rfl) (fun h => ?_) (fun h => ?_)
  · rw [if_pos h]
    have hp := hp h
    have hc := hp
    refine b11_out_5  (C_1_soonest ((1 : Int32) <<< (x1 &&& 31)) (rd M 1561 3) M hc) (Nat.le_of_ble_eq_true rfl) ?_
    exact R_cw (Nat.le_of_ble_eq_true rfl) (T_11_out_22 ((F_1_soonest_0 ((1 : Int32) <<< (x1 &&& 31)) (rd M 1561 3) M).1) ((F_1_soonest_0 ((1 : Int32) <<< (x1 &&& 31)) (rd M 1561 3) M).2))
  · rw [if_neg h]
theorem C_11_out {g : Gl} (x1 : Int32) (M : Mem) (hp : P_11_out_0 x1 M) : MsX g 7 1 m11_out [.ref 1558, .int x1] M (F_11_out_0 x1 M) := MsX.of okM_m11_out (Nat.le_of_ble_eq_true rfl) (R_wk (lc rfl (lc rfl l0)) (T_11_out_0 x1 M hp))
def F_11_string_12 (x1 : Int32) (M : Mem) : Oc := .inl (some (.int (F_0_fewestDoors_0 M (rd M 1561 3) ((1 : Int32) <<< (x1 &&& 31)))), M)
def P_11_string_12 (x1 : Int32) (M : Mem) : Prop := ((P_0_fewestDoors_0 M (rd M 1561 3) ((1 : Int32) <<< (x1 &&& 31))))
theorem T_11_string_12 {g : Gl} (x1 : Int32) (M : Mem) (hp : P_11_string_12 x1 M) : Rc g 7 0 m11_string 12 [some (.ref 1558), some (.int x1)] [] M ((F_11_string_12 x1 M)) := by
  rw [F_11_string_12]
  rw [P_11_string_12] at hp
  have hc := hp
  refine b11_string_12  (C_0_fewestDoors (rd M 1561 3) ((1 : Int32) <<< (x1 &&& 31)) M hc) (Nat.le_of_ble_eq_true rfl) ?_
  exact b11_string_29  rfl
def F_11_string_0 (x1 : Int32) (M : Mem) : Oc := if 0 ≤ x1 ∧ x1 < rd M 1561 0 then (F_11_string_12 x1 (F_0_renew_0 M)) else (.inr ("java/util/NoSuchElementException", wr M 1558 3 (rd M 1558 3 + 1)))
def P_11_string_0 (x1 : Int32) (M : Mem) : Prop := ((0 ≤ x1 ∧ x1 < rd M 1561 0 → ((P_0_renew_0 M) ∧ (P_11_string_12 x1 (F_0_renew_0 M)))))
theorem T_11_string_0 {g : Gl} (x1 : Int32) (M : Mem) (hp : P_11_string_0 x1 M) : Rc g 7 1 m11_string 0 [some (.ref 1558), some (.int x1)] [] M ((F_11_string_0 x1 M)) := by
  rw [F_11_string_0]
  rw [P_11_string_0] at hp
  refine b11_string_0  (C_needRoom x1 M) (Nat.le_of_ble_eq_true rfl) (fun h => ?_) (fun h => ?_)
  · rw [if_pos h]
    have hp := hp h
    obtain ⟨hc, hp⟩ := hp
    refine b11_string_5  (C_0_renew  M hc) (Nat.le_of_ble_eq_true rfl) ?_
    exact R_cw (Nat.le_of_ble_eq_true rfl) (T_11_string_12 x1 (F_0_renew_0 M) hp)
  · rw [if_neg h]
theorem C_11_string {g : Gl} (x1 : Int32) (M : Mem) (hp : P_11_string_0 x1 M) : MsX g 7 1 m11_string [.ref 1558, .int x1] M (F_11_string_0 x1 M) := MsX.of okM_m11_string (Nat.le_of_ble_eq_true rfl) (R_wk (lc rfl (lc rfl l0)) (T_11_string_0 x1 M hp))
def F_11_longest_28 (x1 : Int32) (M : Mem) : Oc := if x1 = 0 then (.inl (some (.int (rd M 1599 8)), M)) else (.inl (some (.int (rd M 1599 9)), M))
theorem T_11_longest_28 {g : Gl} (x1 : Int32) (M : Mem)  : Rc g 7 0 m11_longest 28 [some (.ref 1558), some (.int x1)] [] M ((F_11_longest_28 x1 M)) := by
  rw [F_11_longest_28]
  refine b11_longest_28  (fun h => ?_) (fun h => ?_)
  · rw [if_neg h]
    refine b11_longest_42  ?_
    exact b11_longest_49  rfl
  · rw [if_pos h]
    refine b11_longest_32  ?_
    exact b11_longest_49  rfl
def F_11_longest_14 (x1 : Int32) (M : Mem) : Oc := F_11_longest_28 x1 (F_0_unrollFrom_0 (rd M 1561 3) M)
def P_11_longest_14 (x1 : Int32) (M : Mem) : Prop := ((P_0_unrollFrom_0 (rd M 1561 3) M))
theorem T_11_longest_14 {g : Gl} (x1 : Int32) (M : Mem) (hp : P_11_longest_14 x1 M) : Rc g 7 0 m11_longest 14 [some (.ref 1558), some (.int x1)] [] M ((F_11_longest_14 x1 M)) := by
  rw [F_11_longest_14]
  rw [P_11_longest_14] at hp
  have hc := hp
  refine b11_longest_14  (C_0_unrollFrom (rd M 1561 3) M hc) (Nat.le_of_ble_eq_true rfl) ?_
  exact R_cw (Nat.le_of_ble_eq_true rfl) (T_11_longest_28 x1 (F_0_unrollFrom_0 (rd M 1561 3) M))
def F_11_longest_0 (x1 : Int32) (M : Mem) : Oc := if 0 ≤ x1 ∧ x1 ≤ 1 then (F_11_longest_14 x1 (F_0_renew_0 M)) else (.inr ("java/lang/IllegalArgumentException", wr M 1558 4 (rd M 1558 4 + 1)))
def P_11_longest_0 (x1 : Int32) (M : Mem) : Prop := ((0 ≤ x1 ∧ x1 ≤ 1 → ((P_0_renew_0 M) ∧ (P_11_longest_14 x1 (F_0_renew_0 M)))))
theorem T_11_longest_0 {g : Gl} (x1 : Int32) (M : Mem) (hp : P_11_longest_0 x1 M) : Rc g 7 1 m11_longest 0 [some (.ref 1558), some (.int x1)] [] M ((F_11_longest_0 x1 M)) := by
  rw [F_11_longest_0]
  rw [P_11_longest_0] at hp
  refine b11_longest_0  (C_needWithin x1 0 1 M) (Nat.le_of_ble_eq_true rfl) (fun h => ?_) (fun h => ?_)
  · rw [if_pos h]
    have hp := hp h
    obtain ⟨hc, hp⟩ := hp
    refine b11_longest_7  (C_0_renew  M hc) (Nat.le_of_ble_eq_true rfl) ?_
    exact R_cw (Nat.le_of_ble_eq_true rfl) (T_11_longest_14 x1 (F_0_renew_0 M) hp)
  · rw [if_neg h]
theorem C_11_longest {g : Gl} (x1 : Int32) (M : Mem) (hp : P_11_longest_0 x1 M) : MsX g 7 1 m11_longest [.ref 1558, .int x1] M (F_11_longest_0 x1 M) := MsX.of okM_m11_longest (Nat.le_of_ble_eq_true rfl) (R_wk (lc rfl (lc rfl l0)) (T_11_longest_0 x1 M hp))
def F_11_lost_14 (x1 : Int32) (M : Mem) : Oc := if x1 = 0 then (.inl (some (.int ((F_4_allRooms_0 M) &&& ((F_0_reachFrom_0 M (rd M 1561 3)) ^^^ (-1)))), M)) else (if x1 = 1 then (.inl (some (.int ((F_4_allRooms_0 M) &&& ((F_0_reachTo_0 M (rd M 1561 3)) ^^^ (-1)))), M)) else (.inl (some (.int (((F_4_allRooms_0 M) &&& ((F_0_reachFrom_0 M (rd M 1561 3)) ^^^ (-1))) &&& ((F_4_allRooms_0 M) &&& ((F_0_reachTo_0 M (rd M 1561 3)) ^^^ (-1))))), M)))
def P_11_lost_14 (x1 : Int32) (M : Mem) : Prop := ((((P_0_reachFrom_0 M (rd M 1561 3)) ∧ (((((P_0_reachTo_0 M (rd M 1561 3)))))))))
theorem T_11_lost_14 {g : Gl} (x1 : Int32) (M : Mem) (hp : P_11_lost_14 x1 M) : Rc g 7 0 m11_lost 14 [some (.ref 1558), some (.int x1), none, none] [] M ((F_11_lost_14 x1 M)) := by
  rw [F_11_lost_14]
  rw [P_11_lost_14] at hp
  refine b11_lost_14  (C_4_allRooms  M) (Nat.le_of_ble_eq_true rfl) ?_
  obtain ⟨hc, hp⟩ := hp
  refine b11_lost_21  (C_0_reachFrom (rd M 1561 3) M hc) (Nat.le_of_ble_eq_true rfl) ?_
  refine b11_lost_35  (C_4_allRooms  M) (Nat.le_of_ble_eq_true rfl) ?_
  have hc := hp
  refine b11_lost_46  (C_0_reachTo (rd M 1561 3) M hc) (Nat.le_of_ble_eq_true rfl) ?_
  refine b11_lost_60  (fun h => ?_) (fun h => ?_)
  · rw [if_neg h]
    refine b11_lost_70  (fun h => ?_) (fun h => ?_)
    · rw [if_neg h]
      refine b11_lost_79  ?_
      exact b11_lost_82  rfl
    · rw [if_pos h]
      refine b11_lost_75  ?_
      exact b11_lost_82  rfl
  · rw [if_pos h]
    exact b11_lost_68  rfl
def F_11_lost_0 (x1 : Int32) (M : Mem) : Oc := if 0 ≤ x1 ∧ x1 ≤ 2 then (F_11_lost_14 x1 (F_0_renew_0 M)) else (.inr ("java/lang/IllegalArgumentException", wr M 1558 4 (rd M 1558 4 + 1)))
def P_11_lost_0 (x1 : Int32) (M : Mem) : Prop := ((0 ≤ x1 ∧ x1 ≤ 2 → ((P_0_renew_0 M) ∧ (P_11_lost_14 x1 (F_0_renew_0 M)))))
theorem T_11_lost_0 {g : Gl} (x1 : Int32) (M : Mem) (hp : P_11_lost_0 x1 M) : Rc g 7 1 m11_lost 0 [some (.ref 1558), some (.int x1), none, none] [] M ((F_11_lost_0 x1 M)) := by
  rw [F_11_lost_0]
  rw [P_11_lost_0] at hp
  refine b11_lost_0  (C_needWithin x1 0 2 M) (Nat.le_of_ble_eq_true rfl) (fun h => ?_) (fun h => ?_)
  · rw [if_pos h]
    have hp := hp h
    obtain ⟨hc, hp⟩ := hp
    refine b11_lost_7  (C_0_renew  M hc) (Nat.le_of_ble_eq_true rfl) ?_
    exact R_cw (Nat.le_of_ble_eq_true rfl) (T_11_lost_14 x1 (F_0_renew_0 M) hp)
  · rw [if_neg h]
theorem C_11_lost {g : Gl} (x1 : Int32) (M : Mem) (hp : P_11_lost_0 x1 M) : MsX g 7 1 m11_lost [.ref 1558, .int x1] M (F_11_lost_0 x1 M) := MsX.of okM_m11_lost (Nat.le_of_ble_eq_true rfl) (R_wk (lc rfl (lc rfl (ln (ln l0)))) (T_11_lost_0 x1 M hp))
def F_11_cuts_7 (M : Mem) : Int32 × Mem := ((F_0_newDoorsToJoinAll_0 M), M)
def P_11_cuts_7 (M : Mem) : Prop := ((P_0_newDoorsToJoinAll_0 M))
theorem T_11_cuts_7 {g : Gl} (M : Mem) (hp : P_11_cuts_7 M) : Rn g 5 m11_cuts 7 [some (.ref 1558)] [] M (some (.int (F_11_cuts_7 M).1)) ((F_11_cuts_7 M).2) := by
  rw [F_11_cuts_7]
  rw [P_11_cuts_7] at hp
  have hc := hp
  refine b11_cuts_7  (C_0_newDoorsToJoinAll  M hc) (Nat.le_of_ble_eq_true rfl) ?_
  exact b11_cuts_14  rfl rfl
def F_11_cuts_0 (M : Mem) : Int32 × Mem := F_11_cuts_7 (F_0_renew_0 M)
def P_11_cuts_0 (M : Mem) : Prop := ((P_0_renew_0 M) ∧ (P_11_cuts_7 (F_0_renew_0 M)))
theorem T_11_cuts_0 {g : Gl} (M : Mem) (hp : P_11_cuts_0 M) : Rn g 5 m11_cuts 0 [some (.ref 1558)] [] M (some (.int (F_11_cuts_0 M).1)) ((F_11_cuts_0 M).2) := by
  rw [F_11_cuts_0]
  rw [P_11_cuts_0] at hp
  obtain ⟨hc, hp⟩ := hp
  refine b11_cuts_0  (C_0_renew  M hc) (Nat.le_of_ble_eq_true rfl) ?_
  exact T_11_cuts_7 (F_0_renew_0 M) hp
theorem C_11_cuts {g : Gl}   (M : Mem) (hp : P_11_cuts_0 M) : Ms g 5 m11_cuts [.ref 1558] M (some (.int (F_11_cuts_0 M).1)) ((F_11_cuts_0 M).2) := Ms.of okM_m11_cuts (Nat.le_of_ble_eq_true rfl) (R_wk (lc rfl l0) (T_11_cuts_0 M hp))
def F_11_wing_12 (x1 : Int32) (M : Mem) : Oc := .inl (some (.int (F_0_wingOf_0 M ((1 : Int32) <<< (x1 &&& 31)))), M)
def P_11_wing_12 (x1 : Int32) (M : Mem) : Prop := ((P_0_wingOf_0 M ((1 : Int32) <<< (x1 &&& 31))))
theorem T_11_wing_12 {g : Gl} (x1 : Int32) (M : Mem) (hp : P_11_wing_12 x1 M) : Rc g 7 0 m11_wing 12 [some (.ref 1558), some (.int x1)] [] M ((F_11_wing_12 x1 M)) := by
  rw [F_11_wing_12]
  rw [P_11_wing_12] at hp
  have hc := hp
  refine b11_wing_12  (C_0_wingOf ((1 : Int32) <<< (x1 &&& 31)) M hc) (Nat.le_of_ble_eq_true rfl) ?_
  exact b11_wing_22  rfl
def F_11_wing_0 (x1 : Int32) (M : Mem) : Oc := if 0 ≤ x1 ∧ x1 < rd M 1561 0 then (F_11_wing_12 x1 (F_0_renew_0 M)) else (.inr ("java/util/NoSuchElementException", wr M 1558 3 (rd M 1558 3 + 1)))
def P_11_wing_0 (x1 : Int32) (M : Mem) : Prop := ((0 ≤ x1 ∧ x1 < rd M 1561 0 → ((P_0_renew_0 M) ∧ (P_11_wing_12 x1 (F_0_renew_0 M)))))
theorem T_11_wing_0 {g : Gl} (x1 : Int32) (M : Mem) (hp : P_11_wing_0 x1 M) : Rc g 7 1 m11_wing 0 [some (.ref 1558), some (.int x1)] [] M ((F_11_wing_0 x1 M)) := by
  rw [F_11_wing_0]
  rw [P_11_wing_0] at hp
  refine b11_wing_0  (C_needRoom x1 M) (Nat.le_of_ble_eq_true rfl) (fun h => ?_) (fun h => ?_)
  · rw [if_pos h]
    have hp := hp h
    obtain ⟨hc, hp⟩ := hp
    refine b11_wing_5  (C_0_renew  M hc) (Nat.le_of_ble_eq_true rfl) ?_
    exact R_cw (Nat.le_of_ble_eq_true rfl) (T_11_wing_12 x1 (F_0_renew_0 M) hp)
  · rw [if_neg h]
theorem C_11_wing {g : Gl} (x1 : Int32) (M : Mem) (hp : P_11_wing_0 x1 M) : MsX g 7 1 m11_wing [.ref 1558, .int x1] M (F_11_wing_0 x1 M) := MsX.of okM_m11_wing (Nat.le_of_ble_eq_true rfl) (R_wk (lc rfl (lc rfl l0)) (T_11_wing_0 x1 M hp))
def F_11_round_20 (M : Mem) : Oc := .inl (some (.int (rd M 1599 8)), M)
theorem T_11_round_20 {g : Gl} (M : Mem)  : Rc g 7 0 m11_round 20 [some (.ref 1558), none] [] M ((F_11_round_20 M)) := by
  rw [F_11_round_20]
  exact b11_round_20  rfl
def F_11_round_12 (x1 : Int32) (M : Mem) : Oc := F_11_round_20 (F_0_goRound_0 x1 M)
def P_11_round_12 (x1 : Int32) (M : Mem) : Prop := ((P_0_goRound_0 x1 M))
theorem T_11_round_12 {g : Gl} (x1 : Int32) (M : Mem) (hp : P_11_round_12 x1 M) : Rc g 7 0 m11_round 12 [some (.ref 1558), some (.int x1)] [] M ((F_11_round_12 x1 M)) := by
  rw [F_11_round_12]
  rw [P_11_round_12] at hp
  have hc := hp
  refine b11_round_12  (C_0_goRound x1 M hc) (Nat.le_of_ble_eq_true rfl) ?_
  exact R_cw (Nat.le_of_ble_eq_true rfl) (T_11_round_20 (F_0_goRound_0 x1 M))
def F_11_round_0 (x1 : Int32) (M : Mem) : Oc := if 0 ≤ x1 ∧ x1 < rd M 1561 0 then (F_11_round_12 x1 (F_0_renew_0 M)) else (.inr ("java/util/NoSuchElementException", wr M 1558 3 (rd M 1558 3 + 1)))
def P_11_round_0 (x1 : Int32) (M : Mem) : Prop := ((0 ≤ x1 ∧ x1 < rd M 1561 0 → ((P_0_renew_0 M) ∧ (P_11_round_12 x1 (F_0_renew_0 M)))))
theorem T_11_round_0 {g : Gl} (x1 : Int32) (M : Mem) (hp : P_11_round_0 x1 M) : Rc g 7 1 m11_round 0 [some (.ref 1558), some (.int x1)] [] M ((F_11_round_0 x1 M)) := by
  rw [F_11_round_0]
  rw [P_11_round_0] at hp
  refine b11_round_0  (C_needRoom x1 M) (Nat.le_of_ble_eq_true rfl) (fun h => ?_) (fun h => ?_)
  · rw [if_pos h]
    have hp := hp h
    obtain ⟨hc, hp⟩ := hp
    refine b11_round_5  (C_0_renew  M hc) (Nat.le_of_ble_eq_true rfl) ?_
    exact R_cw (Nat.le_of_ble_eq_true rfl) (T_11_round_12 x1 (F_0_renew_0 M) hp)
  · rw [if_neg h]
theorem C_11_round {g : Gl} (x1 : Int32) (M : Mem) (hp : P_11_round_0 x1 M) : MsX g 7 1 m11_round [.ref 1558, .int x1] M (F_11_round_0 x1 M) := MsX.of okM_m11_round (Nat.le_of_ble_eq_true rfl) (R_wk (lc rfl (lc rfl l0)) (T_11_round_0 x1 M hp))
def F_11_last_20 (M : Mem) : Oc := .inl (some (.int (rd M 1599 9)), M)
theorem T_11_last_20 {g : Gl} (M : Mem)  : Rc g 7 0 m11_last 20 [some (.ref 1558), none] [] M ((F_11_last_20 M)) := by
  rw [F_11_last_20]
  exact b11_last_20  rfl
def F_11_last_12 (x1 : Int32) (M : Mem) : Oc := F_11_last_20 (F_0_goRound_0 x1 M)
def P_11_last_12 (x1 : Int32) (M : Mem) : Prop := ((P_0_goRound_0 x1 M))
theorem T_11_last_12 {g : Gl} (x1 : Int32) (M : Mem) (hp : P_11_last_12 x1 M) : Rc g 7 0 m11_last 12 [some (.ref 1558), some (.int x1)] [] M ((F_11_last_12 x1 M)) := by
  rw [F_11_last_12]
  rw [P_11_last_12] at hp
  have hc := hp
  refine b11_last_12  (C_0_goRound x1 M hc) (Nat.le_of_ble_eq_true rfl) ?_
  exact R_cw (Nat.le_of_ble_eq_true rfl) (T_11_last_20 (F_0_goRound_0 x1 M))
def F_11_last_0 (x1 : Int32) (M : Mem) : Oc := if 0 ≤ x1 ∧ x1 < rd M 1561 0 then (F_11_last_12 x1 (F_0_renew_0 M)) else (.inr ("java/util/NoSuchElementException", wr M 1558 3 (rd M 1558 3 + 1)))
def P_11_last_0 (x1 : Int32) (M : Mem) : Prop := ((0 ≤ x1 ∧ x1 < rd M 1561 0 → ((P_0_renew_0 M) ∧ (P_11_last_12 x1 (F_0_renew_0 M)))))
theorem T_11_last_0 {g : Gl} (x1 : Int32) (M : Mem) (hp : P_11_last_0 x1 M) : Rc g 7 1 m11_last 0 [some (.ref 1558), some (.int x1)] [] M ((F_11_last_0 x1 M)) := by
  rw [F_11_last_0]
  rw [P_11_last_0] at hp
  refine b11_last_0  (C_needRoom x1 M) (Nat.le_of_ble_eq_true rfl) (fun h => ?_) (fun h => ?_)
  · rw [if_pos h]
    have hp := hp h
    obtain ⟨hc, hp⟩ := hp
    refine b11_last_5  (C_0_renew  M hc) (Nat.le_of_ble_eq_true rfl) ?_
    exact R_cw (Nat.le_of_ble_eq_true rfl) (T_11_last_12 x1 (F_0_renew_0 M) hp)
  · rw [if_neg h]
theorem C_11_last {g : Gl} (x1 : Int32) (M : Mem) (hp : P_11_last_0 x1 M) : MsX g 7 1 m11_last [.ref 1558, .int x1] M (F_11_last_0 x1 M) := MsX.of okM_m11_last (Nat.le_of_ble_eq_true rfl) (R_wk (lc rfl (lc rfl l0)) (T_11_last_0 x1 M hp))
def F_11_meet_37 (x3 : Int32) (M : Mem) : Oc := if x3 = 0 then (.inl (some (.int (rd M 1599 8)), M)) else (.inl (some (.int (rd M 1599 9)), M))
theorem T_11_meet_37 {g : Gl} (x3 : Int32) (M : Mem)  : Rc g 7 0 m11_meet 37 [some (.ref 1558), none, none, some (.int x3)] [] M ((F_11_meet_37 x3 M)) := by
  rw [F_11_meet_37]
  refine b11_meet_37  (fun h => ?_) (fun h => ?_)
  · rw [if_neg h]
    refine b11_meet_51  ?_
    exact b11_meet_58  rfl
  · rw [if_pos h]
    refine b11_meet_41  ?_
    exact b11_meet_58  rfl
def F_11_meet_24 (x1 : Int32) (x2 : Int32) (x3 : Int32) (M : Mem) : Oc := F_11_meet_37 x3 (F_0_bringTogether_0 ((1 : Int32) <<< (x1 &&& 31)) ((1 : Int32) <<< (x2 &&& 31)) M)
def P_11_meet_24 (x1 : Int32) (x2 : Int32) (x3 : Int32) (M : Mem) : Prop := ((P_0_bringTogether_0 ((1 : Int32) <<< (x1 &&& 31)) ((1 : Int32) <<< (x2 &&& 31)) M))
theorem T_11_meet_24 {g : Gl} (x1 : Int32) (x2 : Int32) (x3 : Int32) (M : Mem) (hp : P_11_meet_24 x1 x2 x3 M) : Rc g 7 0 m11_meet 24 [some (.ref 1558), some (.int x1), some (.int x2), some (.int x3)] [] M ((F_11_meet_24 x1 x2 x3 M)) := by
  rw [F_11_meet_24]
  rw [P_11_meet_24] at hp
  have hc := hp
  refine b11_meet_24  (C_0_bringTogether ((1 : Int32) <<< (x1 &&& 31)) ((1 : Int32) <<< (x2 &&& 31)) M hc) (Nat.le_of_ble_eq_true rfl) ?_
  exact R_cw (Nat.le_of_ble_eq_true rfl) (T_11_meet_37 x3 (F_0_bringTogether_0 ((1 : Int32) <<< (x1 &&& 31)) ((1 : Int32) <<< (x2 &&& 31)) M))
def F_11_meet_0 (x1 : Int32) (x2 : Int32) (x3 : Int32) (M : Mem) : Oc := if 0 ≤ x1 ∧ x1 < rd M 1561 0 then (if 0 ≤ x2 ∧ x2 < rd M 1561 0 then (if 0 ≤ x3 ∧ x3 ≤ 1 then (F_11_meet_24 x1 x2 x3 (F_0_renew_0 M)) else (.inr ("java/lang/IllegalArgumentException", wr M 1558 4 (rd M 1558 4 + 1)))) else (.inr ("java/util/NoSuchElementException", wr M 1558 3 (rd M 1558 3 + 1)))) else (.inr ("java/util/NoSuchElementException", wr M 1558 3 (rd M 1558 3 + 1)))
def P_11_meet_0 (x1 : Int32) (x2 : Int32) (x3 : Int32) (M : Mem) : Prop := ((0 ≤ x1 ∧ x1 < rd M 1561 0 → ((0 ≤ x2 ∧ x2 < rd M 1561 0 → ((0 ≤ x3 ∧ x3 ≤ 1 → ((P_0_renew_0 M) ∧ (P_11_meet_24 x1 x2 x3 (F_0_renew_0 M)))))))))
theorem T_11_meet_0 {g : Gl} (x1 : Int32) (x2 : Int32) (x3 : Int32) (M : Mem) (hp : P_11_meet_0 x1 x2 x3 M) : Rc g 7 3 m11_meet 0 [some (.ref 1558), some (.int x1), some (.int x2), some (.int x3)] [] M ((F_11_meet_0 x1 x2 x3 M)) := by
  rw [F_11_meet_0]
  rw [P_11_meet_0] at hp
  refine b11_meet_0  (C_needRoom x1 M) (Nat.le_of_ble_eq_true rfl) (fun h => ?_) (fun h => ?_)
  · rw [if_pos h]
    have hp := hp h
    refine b11_meet_5  (C_needRoom x2 M) (Nat.le_of_ble_eq_true rfl) (fun h => ?_) (fun h => ?_)
    · rw [if_pos h]
      have hp := hp h
      refine b11_meet_10  (C_needWithin x3 0 1 M) (Nat.le_of_ble_eq_true rfl) (fun h => ?_) (fun h => ?_)
      · rw [if_pos h]
        have hp := hp h
        obtain ⟨hc, hp⟩ := hp
        refine b11_meet_17  (C_0_renew  M hc) (Nat.le_of_ble_eq_true rfl) ?_
        exact R_cw (Nat.le_of_ble_eq_true rfl) (T_11_meet_24 x1 x2 x3 (F_0_renew_0 M) hp)
      · rw [if_neg h]
    · rw [if_neg h]
  · rw [if_neg h]
theorem C_11_meet {g : Gl} (x1 : Int32) (x2 : Int32) (x3 : Int32) (M : Mem) (hp : P_11_meet_0 x1 x2 x3 M) : MsX g 7 3 m11_meet [.ref 1558, .int x1, .int x2, .int x3] M (F_11_meet_0 x1 x2 x3 M) := MsX.of okM_m11_meet (Nat.le_of_ble_eq_true rfl) (R_wk (lc rfl (lc rfl (lc rfl (lc rfl l0)))) (T_11_meet_0 x1 x2 x3 M hp))
def F_11_parted_57 (xs0 : Int32) (M : Mem) : Oc := .inl (some (.int xs0), M)
theorem T_11_parted_57 {g : Gl} (xs0 : Int32) (M : Mem)  : Rc g 7 0 m11_parted 57 [none, none, none, none] [.int xs0] M ((F_11_parted_57 xs0 M)) := by
  rw [F_11_parted_57]
  exact b11_parted_57  rfl
def F_11_parted_45 (xs0 : Int32) (M : Mem) : Oc := F_11_parted_57 xs0 M
theorem T_11_parted_45 {g : Gl} (xs0 : Int32) (M : Mem)  : Rc g 7 0 m11_parted 45 [none, none, none, none] [.int xs0] M ((F_11_parted_45 xs0 M)) := by
  rw [F_11_parted_45]
  refine b11_parted_45  ?_
  exact R_cw (Nat.le_of_ble_eq_true rfl) (T_11_parted_57 xs0 M)
def F_11_parted_0 (x1 : Int32) (x2 : Int32) (x3 : Int32) (M : Mem) : Oc := if 0 ≤ x1 ∧ x1 < rd M 1561 0 then (if 0 ≤ x2 ∧ x2 < rd M 1561 0 then (if 0 ≤ x3 ∧ x3 ≤ 1 then (if x1 = x2 then (if x3 = 0 then (.inl (some (.int (-1)), M)) else (.inl (some (.int 0), M))) else (if x3 = 0 then (F_11_parted_45 ((F_3_fewest_0 x1 x2 M).1) ((F_3_fewest_0 x1 x2 M).2)) else (F_11_parted_57 ((F_3_firstDoors_0 x1 x2 M).1) ((F_3_firstDoors_0 x1 x2 M).2)))) else (.inr ("java/lang/IllegalArgumentException", wr M 1558 4 (rd M 1558 4 + 1)))) else (.inr ("java/util/NoSuchElementException", wr M 1558 3 (rd M 1558 3 + 1)))) else (.inr ("java/util/NoSuchElementException", wr M 1558 3 (rd M 1558 3 + 1)))
def P_11_parted_0 (x1 : Int32) (x2 : Int32) (x3 : Int32) (M : Mem) : Prop := ((0 ≤ x1 ∧ x1 < rd M 1561 0 → ((0 ≤ x2 ∧ x2 < rd M 1561 0 → ((0 ≤ x3 ∧ x3 ≤ 1 → ((¬ x1 = x2 → ((¬ x3 = 0 → ((P_3_firstDoors_0 x1 x2 M))) ∧ (x3 = 0 → ((P_3_fewest_0 x1 x2 M))))) ∧ (x1 = x2 → True))))))))
theorem T_11_parted_0 {g : Gl} (x1 : Int32) (x2 : Int32) (x3 : Int32) (M : Mem) (hp : P_11_parted_0 x1 x2 x3 M) : Rc g 7 3 m11_parted 0 [some (.ref 1558), some (.int x1), some (.int x2), some (.int x3)] [] M ((F_11_parted_0 x1 x2 x3 M)) := by
  rw [F_11_parted_0]
  rw [P_11_parted_0] at hp
  refine b11_parted_0  (C_needRoom x1 M) (Nat.le_of_ble_eq_true rfl) (fun h => ?_) (fun h => ?_)
  · rw [if_pos h]
    have hp := hp h
    refine b11_parted_5  (C_needRoom x2 M) (Nat.le_of_ble_eq_true rfl) (fun h => ?_) (fun h => ?_)
    · rw [if_pos h]
      have hp := hp h
      refine b11_parted_10  (C_needWithin x3 0 1 M) (Nat.le_of_ble_eq_true rfl) (fun h => ?_) (fun h => ?_)
      · rw [if_pos h]
        have hp := hp h
        refine b11_parted_17  (fun h => ?_) (fun h => ?_)
        · rw [if_neg h]
          have hp := hp.1 h
          refine b11_parted_32  (fun h => ?_) (fun h => ?_)
          · rw [if_neg h]
            have hp := hp.1 h
            have hc := hp
            refine b11_parted_48  (C_3_firstDoors x1 x2 M hc) (Nat.le_of_ble_eq_true rfl) ?_
            exact R_cw (Nat.le_of_ble_eq_true rfl) (T_11_parted_57 ((F_3_firstDoors_0 x1 x2 M).1) ((F_3_firstDoors_0 x1 x2 M).2))
          · rw [if_pos h]
            have hp := hp.2 h
            have hc := hp
            refine b11_parted_36  (C_3_fewest x1 x2 M hc) (Nat.le_of_ble_eq_true rfl) ?_
            exact R_cw (Nat.le_of_ble_eq_true rfl) (T_11_parted_45 ((F_3_fewest_0 x1 x2 M).1) ((F_3_fewest_0 x1 x2 M).2))
        · rw [if_pos h]
          refine b11_parted_22  (fun h => ?_) (fun h => ?_)
          · rw [if_neg h]
            refine b11_parted_30  ?_
            exact b11_parted_31  rfl
          · rw [if_pos h]
            refine b11_parted_26  ?_
            exact b11_parted_31  rfl
      · rw [if_neg h]
    · rw [if_neg h]
  · rw [if_neg h]
theorem C_11_parted {g : Gl} (x1 : Int32) (x2 : Int32) (x3 : Int32) (M : Mem) (hp : P_11_parted_0 x1 x2 x3 M) : MsX g 7 3 m11_parted [.ref 1558, .int x1, .int x2, .int x3] M (F_11_parted_0 x1 x2 x3 M) := MsX.of okM_m11_parted (Nat.le_of_ble_eq_true rfl) (R_wk (lc rfl (lc rfl (lc rfl (lc rfl l0)))) (T_11_parted_0 x1 x2 x3 M hp))
def F_11_quiet_26 (x3 : Int32) (ys0 : Int64) (M : Mem) : Oc := if x3 = 0 then (.inl (some (.long (F_0_aboveInLeastTerms_0 M ys0)), M)) else (.inl (some (.long (F_0_belowInLeastTerms_0 M ys0)), M))
def P_11_quiet_26 (x3 : Int32) (ys0 : Int64) (M : Mem) : Prop := ((¬ x3 = 0 → ((P_0_belowInLeastTerms_0 M ys0))) ∧ (x3 = 0 → ((P_0_aboveInLeastTerms_0 M ys0))))
theorem T_11_quiet_26 {g : Gl} (x3 : Int32) (ys0 : Int64) (M : Mem) (hp : P_11_quiet_26 x3 ys0 M) : Rc g 7 0 m11_quiet 26 [some (.ref 1558), none, none, some (.int x3), none, none] [.long ys0] M ((F_11_quiet_26 x3 ys0 M)) := by
  rw [F_11_quiet_26]
  rw [P_11_quiet_26] at hp
  refine b11_quiet_26  (fun h => ?_) (fun h => ?_)
  · rw [if_neg h]
    have hp := hp.1 h
    have hc := hp
    refine b11_quiet_44  (C_0_belowInLeastTerms ys0 M hc) (Nat.le_of_ble_eq_true rfl) ?_
    exact b11_quiet_53  rfl
  · rw [if_pos h]
    have hp := hp.2 h
    have hc := hp
    refine b11_quiet_32  (C_0_aboveInLeastTerms ys0 M hc) (Nat.le_of_ble_eq_true rfl) ?_
    refine b11_quiet_41  ?_
    exact b11_quiet_53  rfl
def F_11_quiet_0 (x1 : Int32) (x2 : Int32) (x3 : Int32) (M : Mem) : Oc := if 0 ≤ x1 ∧ x1 < rd M 1561 0 then (if 0 ≤ x2 ∧ x2 < rd M 1561 0 then (if 0 ≤ x3 ∧ x3 ≤ 1 then (F_11_quiet_26 x3 ((F_0_likeliest_0 x1 x2 M).1) ((F_0_likeliest_0 x1 x2 M).2)) else (.inr ("java/lang/IllegalArgumentException", wr M 1558 4 (rd M 1558 4 + 1)))) else (.inr ("java/util/NoSuchElementException", wr M 1558 3 (rd M 1558 3 + 1)))) else (.inr ("java/util/NoSuchElementException", wr M 1558 3 (rd M 1558 3 + 1)))
def P_11_quiet_0 (x1 : Int32) (x2 : Int32) (x3 : Int32) (M : Mem) : Prop := ((0 ≤ x1 ∧ x1 < rd M 1561 0 → ((0 ≤ x2 ∧ x2 < rd M 1561 0 → ((0 ≤ x3 ∧ x3 ≤ 1 → ((P_0_likeliest_0 x1 x2 M) ∧ (P_11_quiet_26 x3 ((F_0_likeliest_0 x1 x2 M).1) ((F_0_likeliest_0 x1 x2 M).2)))))))))
theorem T_11_quiet_0 {g : Gl} (x1 : Int32) (x2 : Int32) (x3 : Int32) (M : Mem) (hp : P_11_quiet_0 x1 x2 x3 M) : Rc g 7 3 m11_quiet 0 [some (.ref 1558), some (.int x1), some (.int x2), some (.int x3), none, none] [] M ((F_11_quiet_0 x1 x2 x3 M)) := by
  rw [F_11_quiet_0]
  rw [P_11_quiet_0] at hp
  refine b11_quiet_0  (C_needRoom x1 M) (Nat.le_of_ble_eq_true rfl) (fun h => ?_) (fun h => ?_)
  · rw [if_pos h]
    have hp := hp h
    refine b11_quiet_5  (C_needRoom x2 M) (Nat.le_of_ble_eq_true rfl) (fun h => ?_) (fun h => ?_)
    · rw [if_pos h]
      have hp := hp h
      refine b11_quiet_10  (C_needWithin x3 0 1 M) (Nat.le_of_ble_eq_true rfl) (fun h => ?_) (fun h => ?_)
      · rw [if_pos h]
        have hp := hp h
        obtain ⟨hc, hp⟩ := hp
        refine b11_quiet_17  (C_0_likeliest x1 x2 M hc) (Nat.le_of_ble_eq_true rfl) ?_
        exact R_cw (Nat.le_of_ble_eq_true rfl) (T_11_quiet_26 x3 ((F_0_likeliest_0 x1 x2 M).1) ((F_0_likeliest_0 x1 x2 M).2) hp)
      · rw [if_neg h]
    · rw [if_neg h]
  · rw [if_neg h]
theorem C_11_quiet {g : Gl} (x1 : Int32) (x2 : Int32) (x3 : Int32) (M : Mem) (hp : P_11_quiet_0 x1 x2 x3 M) : MsX g 7 3 m11_quiet [.ref 1558, .int x1, .int x2, .int x3] M (F_11_quiet_0 x1 x2 x3 M) := MsX.of okM_m11_quiet (Nat.le_of_ble_eq_true rfl) (R_wk (lc rfl (lc rfl (lc rfl (lc rfl (ln (ln l0)))))) (T_11_quiet_0 x1 x2 x3 M hp))
def F_11_way_17 (x1 : Int32) (x2 : Int32) (M : Mem) : Oc := .inl (some (.int (F_0_fewestDoors_0 M ((1 : Int32) <<< (x1 &&& 31)) ((1 : Int32) <<< (x2 &&& 31)))), M)
def P_11_way_17 (x1 : Int32) (x2 : Int32) (M : Mem) : Prop := ((P_0_fewestDoors_0 M ((1 : Int32) <<< (x1 &&& 31)) ((1 : Int32) <<< (x2 &&& 31))))
theorem T_11_way_17 {g : Gl} (x1 : Int32) (x2 : Int32) (M : Mem) (hp : P_11_way_17 x1 x2 M) : Rc g 7 0 m11_way 17 [some (.ref 1558), some (.int x1), some (.int x2)] [] M ((F_11_way_17 x1 x2 M)) := by
  rw [F_11_way_17]
  rw [P_11_way_17] at hp
  have hc := hp
  refine b11_way_17  (C_0_fewestDoors ((1 : Int32) <<< (x1 &&& 31)) ((1 : Int32) <<< (x2 &&& 31)) M hc) (Nat.le_of_ble_eq_true rfl) ?_
  exact b11_way_30  rfl
def F_11_way_0 (x1 : Int32) (x2 : Int32) (M : Mem) : Oc := if 0 ≤ x1 ∧ x1 < rd M 1561 0 then (if 0 ≤ x2 ∧ x2 < rd M 1561 0 then (F_11_way_17 x1 x2 (F_0_renew_0 M)) else (.inr ("java/util/NoSuchElementException", wr M 1558 3 (rd M 1558 3 + 1)))) else (.inr ("java/util/NoSuchElementException", wr M 1558 3 (rd M 1558 3 + 1)))
def P_11_way_0 (x1 : Int32) (x2 : Int32) (M : Mem) : Prop := ((0 ≤ x1 ∧ x1 < rd M 1561 0 → ((0 ≤ x2 ∧ x2 < rd M 1561 0 → ((P_0_renew_0 M) ∧ (P_11_way_17 x1 x2 (F_0_renew_0 M)))))))
theorem T_11_way_0 {g : Gl} (x1 : Int32) (x2 : Int32) (M : Mem) (hp : P_11_way_0 x1 x2 M) : Rc g 7 2 m11_way 0 [some (.ref 1558), some (.int x1), some (.int x2)] [] M ((F_11_way_0 x1 x2 M)) := by
  rw [F_11_way_0]
  rw [P_11_way_0] at hp
  refine b11_way_0  (C_needRoom x1 M) (Nat.le_of_ble_eq_true rfl) (fun h => ?_) (fun h => ?_)
  · rw [if_pos h]
    have hp := hp h
    refine b11_way_5  (C_needRoom x2 M) (Nat.le_of_ble_eq_true rfl) (fun h => ?_) (fun h => ?_)
    · rw [if_pos h]
      have hp := hp h
      obtain ⟨hc, hp⟩ := hp
      refine b11_way_10  (C_0_renew  M hc) (Nat.le_of_ble_eq_true rfl) ?_
      exact R_cw (Nat.le_of_ble_eq_true rfl) (T_11_way_17 x1 x2 (F_0_renew_0 M) hp)
    · rw [if_neg h]
  · rw [if_neg h]
theorem C_11_way {g : Gl} (x1 : Int32) (x2 : Int32) (M : Mem) (hp : P_11_way_0 x1 x2 M) : MsX g 7 2 m11_way [.ref 1558, .int x1, .int x2] M (F_11_way_0 x1 x2 M) := MsX.of okM_m11_way (Nat.le_of_ble_eq_true rfl) (R_wk (lc rfl (lc rfl (lc rfl l0))) (T_11_way_0 x1 x2 M hp))
def F_11_next_17 (x1 : Int32) (x2 : Int32) (M : Mem) : Oc := .inl (some (.int (F_0_firstDoor_0 M x1 x2)), M)
def P_11_next_17 (x1 : Int32) (x2 : Int32) (M : Mem) : Prop := ((P_0_firstDoor_0 M x1 x2))
theorem T_11_next_17 {g : Gl} (x1 : Int32) (x2 : Int32) (M : Mem) (hp : P_11_next_17 x1 x2 M) : Rc g 7 0 m11_next 17 [some (.ref 1558), some (.int x1), some (.int x2)] [] M ((F_11_next_17 x1 x2 M)) := by
  rw [F_11_next_17]
  rw [P_11_next_17] at hp
  have hc := hp
  refine b11_next_17  (C_0_firstDoor x1 x2 M hc) (Nat.le_of_ble_eq_true rfl) ?_
  exact b11_next_26  rfl
def F_11_next_0 (x1 : Int32) (x2 : Int32) (M : Mem) : Oc := if 0 ≤ x1 ∧ x1 < rd M 1561 0 then (if 0 ≤ x2 ∧ x2 < rd M 1561 0 then (F_11_next_17 x1 x2 (F_0_renew_0 M)) else (.inr ("java/util/NoSuchElementException", wr M 1558 3 (rd M 1558 3 + 1)))) else (.inr ("java/util/NoSuchElementException", wr M 1558 3 (rd M 1558 3 + 1)))
def P_11_next_0 (x1 : Int32) (x2 : Int32) (M : Mem) : Prop := ((0 ≤ x1 ∧ x1 < rd M 1561 0 → ((0 ≤ x2 ∧ x2 < rd M 1561 0 → ((P_0_renew_0 M) ∧ (P_11_next_17 x1 x2 (F_0_renew_0 M)))))))
theorem T_11_next_0 {g : Gl} (x1 : Int32) (x2 : Int32) (M : Mem) (hp : P_11_next_0 x1 x2 M) : Rc g 7 2 m11_next 0 [some (.ref 1558), some (.int x1), some (.int x2)] [] M ((F_11_next_0 x1 x2 M)) := by
  rw [F_11_next_0]
  rw [P_11_next_0] at hp
  refine b11_next_0  (C_needRoom x1 M) (Nat.le_of_ble_eq_true rfl) (fun h => ?_) (fun h => ?_)
  · rw [if_pos h]
    have hp := hp h
    refine b11_next_5  (C_needRoom x2 M) (Nat.le_of_ble_eq_true rfl) (fun h => ?_) (fun h => ?_)
    · rw [if_pos h]
      have hp := hp h
      obtain ⟨hc, hp⟩ := hp
      refine b11_next_10  (C_0_renew  M hc) (Nat.le_of_ble_eq_true rfl) ?_
      exact R_cw (Nat.le_of_ble_eq_true rfl) (T_11_next_17 x1 x2 (F_0_renew_0 M) hp)
    · rw [if_neg h]
  · rw [if_neg h]
theorem C_11_next {g : Gl} (x1 : Int32) (x2 : Int32) (M : Mem) (hp : P_11_next_0 x1 x2 M) : MsX g 7 2 m11_next [.ref 1558, .int x1, .int x2] M (F_11_next_0 x1 x2 M) := MsX.of okM_m11_next (Nat.le_of_ble_eq_true rfl) (R_wk (lc rfl (lc rfl (lc rfl l0))) (T_11_next_0 x1 x2 M hp))
