def F_12_isExit_0 (M : Mem) (x1 : Int32) : Int32 := (F_12_has_0 M (rd M 4 ((3 : Int32).toNatClampNeg)) x1)
def P_12_isExit_0 (M : Mem) (x1 : Int32) : Prop := (((narrow .boolean (.int (F_12_has_0 M (rd M 4 ((3 : Int32).toNatClampNeg)) x1)) = .int (F_12_has_0 M (rd M 4 ((3 : Int32).toNatClampNeg)) x1))))
theorem T_12_isExit_0 {g : Gl} (M : Mem) (x1 : Int32) (hp : P_12_isExit_0 M x1) : Rn g 1 m12_isExit 0 [some (.ref 0), some (.int x1)] [] M (some (.int (F_12_isExit_0 M x1))) (M) := by
  rw [F_12_isExit_0]
  rw [P_12_isExit_0] at hp
  refine b12_isExit_0 (vpl (by decide)) (C_12_has (rd M 4 ((3 : Int32).toNatClampNeg)) x1 M) (Nat.le_of_ble_eq_true rfl) ?_
  have p0 := hp
  exact b12_isExit_10  rfl rfl p0
theorem C_12_isExit {g : Gl}  (x1 : Int32) (M : Mem) (hp : P_12_isExit_0 M x1) : Ms g 1 m12_isExit [.ref 0, .int x1] M (some (.int (F_12_isExit_0 M x1))) (M) := Ms.of okM_m12_isExit (Nat.le_of_ble_eq_true rfl) (R_wk (lc rfl (lc rfl l0)) (T_12_isExit_0 M x1 hp))
def F_12_room_133 (xs0 : Int32) (M : Mem) : Int32 × Mem := (xs0, M)
theorem T_12_room_133 {g : Gl} (xs0 : Int32) (M : Mem)  : Rn g 7 m12_room 133 [none, none, none] [.int xs0] M (some (.int (F_12_room_133 xs0 M).1)) ((F_12_room_133 xs0 M).2) := by
  rw [F_12_room_133]
  exact b12_room_133  rfl rfl
def F_12_room_47 (x1 : Int32) (x2 : Int32) (xs0 : Int32) (M : Mem) : Int32 × Mem := if xs0 = 0 then ((if x2 = 0 then (rd M 6 x1.toNatClampNeg, M) else (if x2 = 1 then (if (F_12_isExit_0 M x1) = 0 then ((0, M)) else ((1, M))) else (if x2 = 2 then (rd M 8 x1.toNatClampNeg, M) else (if x2 = 3 then ((F_12_toursIn_0 M x1), M) else (F_12_room_133 ((F_12_doorsOf_0 x1 (x2 - 4) (rd M 20 ((55 : Int32).toNatClampNeg)) M).1) ((F_12_doorsOf_0 x1 (x2 - 4) (rd M 20 ((55 : Int32).toNatClampNeg)) M).2))))))) else ((0, M))
def P_12_room_47 (x1 : Int32) (x2 : Int32) (xs0 : Int32) (M : Mem) : Prop := ((xs0 = 0 → ((x2 = 0 → (vp_in x1 10)) ∧ (x2 = 1 → ((P_12_isExit_0 M x1))) ∧ (x2 = 2 → (vp_in x1 10)) ∧ (x2 = 3 → ((P_12_toursIn_0 M x1))) ∧ (¬ x2 = 0 ∧ ¬ x2 = 1 ∧ ¬ x2 = 2 ∧ ¬ x2 = 3 → ((P_12_doorsOf_0 x1 (x2 - 4) (rd M 20 ((55 : Int32).toNatClampNeg)) M))))) ∧ (¬ xs0 = 0 → True))
theorem T_12_room_47 {g : Gl} (x1 : Int32) (x2 : Int32) (xs0 : Int32) (M : Mem) (hp : P_12_room_47 x1 x2 xs0 M) : Rn g 7 m12_room 47 [some (.ref 0), some (.int x1), some (.int x2)] [.int xs0] M (some (.int (F_12_room_47 x1 x2 xs0 M).1)) ((F_12_room_47 x1 x2 xs0 M).2) := by
  rw [F_12_room_47]
  rw [P_12_room_47] at hp
  refine b12_room_47  (fun h => ?_) (fun h => ?_)
  · rw [if_pos h]
    have hp := hp.1 h
    by_cases h0 : x2 = 0
    · rw [if_pos h0]
      have hp := hp.1 h0
      refine b12_room_52_c0  h0 ?_
      have p0 := hp
      exact b12_room_84 p0 rfl rfl
    rw [if_neg h0]
    by_cases h1 : x2 = 1
    · rw [if_pos h1]
      have hp := hp.2.1 h1
      refine b12_room_52_c1  h1 ?_
      have hc := hp
      refine b12_room_91  (C_12_isExit x1 M hc) (Nat.le_of_ble_eq_true rfl) ?_
      refine b12_room_96  (fun h => ?_) (fun h => ?_)
      · rw [if_pos h]
        refine b12_room_103  ?_
        exact b12_room_104  rfl rfl
      · rw [if_neg h]
        refine b12_room_99  ?_
        exact b12_room_104  rfl rfl
    rw [if_neg h1]
    by_cases h2 : x2 = 2
    · rw [if_pos h2]
      have hp := hp.2.2.1 h2
      refine b12_room_52_c2  h2 ?_
      have p1 := hp
      exact b12_room_105 p1 rfl rfl
    rw [if_neg h2]
    by_cases h3 : x2 = 3
    · rw [if_pos h3]
      have hp := hp.2.2.2.1 h3
      refine b12_room_52_c3  h3 ?_
      have hc := hp
      refine b12_room_112  (C_12_toursIn x1 M hc) (Nat.le_of_ble_eq_true rfl) ?_
      exact b12_room_117  rfl rfl
    rw [if_neg h3]
    have hp := hp.2.2.2.2 ⟨h0, h1, h2, h3⟩
    refine b12_room_52_d  (sw_out (x := x2) (lo := 0) (hi := 3) (by intro z ha hb e; rcases (show z = 0 ∨ z = 1 ∨ z = 2 ∨ z = 3 by omega) with r | r | r | r <;> subst r <;> first | exact h0 (Int32.toInt_inj.mp (e.trans (by decide))) | exact h1 (Int32.toInt_inj.mp (e.trans (by decide))) | exact h2 (Int32.toInt_inj.mp (e.trans (by decide))) | exact h3 (Int32.toInt_inj.mp (e.trans (by decide))))) ?_
    have hc := hp
    refine b12_room_118 (vpl (by decide)) (C_12_doorsOf x1 (x2 - 4) (rd M 20 ((55 : Int32).toNatClampNeg)) M hc) (Nat.le_of_ble_eq_true rfl) ?_
    exact T_12_room_133 ((F_12_doorsOf_0 x1 (x2 - 4) (rd M 20 ((55 : Int32).toNatClampNeg)) M).1) ((F_12_doorsOf_0 x1 (x2 - 4) (rd M 20 ((55 : Int32).toNatClampNeg)) M).2)
  · rw [if_neg h]
    exact b12_room_50  rfl rfl
def F_12_room_42 (x1 : Int32) (x2 : Int32) (xs0 : Int32) (M : Mem) : Int32 × Mem := F_12_room_47 x1 x2 ((F_12_bad_0 xs0 2 1 M).1) ((F_12_bad_0 xs0 2 1 M).2)
def P_12_room_42 (x1 : Int32) (x2 : Int32) (xs0 : Int32) (M : Mem) : Prop := ((P_12_bad_0 xs0 2 1 M) ∧ (P_12_room_47 x1 x2 ((F_12_bad_0 xs0 2 1 M).1) ((F_12_bad_0 xs0 2 1 M).2)))
theorem T_12_room_42 {g : Gl} (x1 : Int32) (x2 : Int32) (xs0 : Int32) (M : Mem) (hp : P_12_room_42 x1 x2 xs0 M) : Rn g 7 m12_room 42 [some (.ref 0), some (.int x1), some (.int x2)] [.int xs0, .ref 0] M (some (.int (F_12_room_42 x1 x2 xs0 M).1)) ((F_12_room_42 x1 x2 xs0 M).2) := by
  rw [F_12_room_42]
  rw [P_12_room_42] at hp
  obtain ⟨hc, hp⟩ := hp
  refine b12_room_42  (C_12_bad xs0 2 1 M hc) (Nat.le_of_ble_eq_true rfl) ?_
  exact T_12_room_47 x1 x2 ((F_12_bad_0 xs0 2 1 M).1) ((F_12_bad_0 xs0 2 1 M).2) hp
def F_12_room_24 (x1 : Int32) (x2 : Int32) (xs0 : Int32) (M : Mem) : Int32 × Mem := if xs0 = 0 then (if (F_12_in_0 M x2 0 5) = 0 then (F_12_room_42 x1 x2 1 M) else (F_12_room_42 x1 x2 0 M)) else ((0, M))
def P_12_room_24 (x1 : Int32) (x2 : Int32) (xs0 : Int32) (M : Mem) : Prop := ((¬ xs0 = 0 → True) ∧ (xs0 = 0 → ((((¬ (F_12_in_0 M x2 0 5) = 0 → (P_12_room_42 x1 x2 0 M)) ∧ ((F_12_in_0 M x2 0 5) = 0 → (P_12_room_42 x1 x2 1 M)))))))
theorem T_12_room_24 {g : Gl} (x1 : Int32) (x2 : Int32) (xs0 : Int32) (M : Mem) (hp : P_12_room_24 x1 x2 xs0 M) : Rn g 7 m12_room 24 [some (.ref 0), some (.int x1), some (.int x2)] [.int xs0] M (some (.int (F_12_room_24 x1 x2 xs0 M).1)) ((F_12_room_24 x1 x2 xs0 M).2) := by
  rw [F_12_room_24]
  rw [P_12_room_24] at hp
  refine b12_room_24  (fun h => ?_) (fun h => ?_)
  · rw [if_neg h]
    exact b12_room_50  rfl rfl
  · rw [if_pos h]
    have hp := hp.2 h
    refine b12_room_27  (C_12_in x2 0 5 M) (Nat.le_of_ble_eq_true rfl) ?_
    refine b12_room_34  (fun h => ?_) (fun h => ?_)
    · rw [if_neg h]
      have hp := hp.1 h
      refine b12_room_41  ?_
      exact T_12_room_42 x1 x2 0 M hp
    · rw [if_pos h]
      have hp := hp.2 h
      refine b12_room_37  ?_
      exact T_12_room_42 x1 x2 1 M hp
def F_12_room_19 (x1 : Int32) (x2 : Int32) (xs0 : Int32) (M : Mem) : Int32 × Mem := F_12_room_24 x1 x2 ((F_12_bad_0 xs0 1 0 M).1) ((F_12_bad_0 xs0 1 0 M).2)
def P_12_room_19 (x1 : Int32) (x2 : Int32) (xs0 : Int32) (M : Mem) : Prop := ((P_12_bad_0 xs0 1 0 M) ∧ (P_12_room_24 x1 x2 ((F_12_bad_0 xs0 1 0 M).1) ((F_12_bad_0 xs0 1 0 M).2)))
theorem T_12_room_19 {g : Gl} (x1 : Int32) (x2 : Int32) (xs0 : Int32) (M : Mem) (hp : P_12_room_19 x1 x2 xs0 M) : Rn g 7 m12_room 19 [some (.ref 0), some (.int x1), some (.int x2)] [.int xs0, .ref 0] M (some (.int (F_12_room_19 x1 x2 xs0 M).1)) ((F_12_room_19 x1 x2 xs0 M).2) := by
  rw [F_12_room_19]
  rw [P_12_room_19] at hp
  obtain ⟨hc, hp⟩ := hp
  refine b12_room_19  (C_12_bad xs0 1 0 M hc) (Nat.le_of_ble_eq_true rfl) ?_
  exact T_12_room_24 x1 x2 ((F_12_bad_0 xs0 1 0 M).1) ((F_12_bad_0 xs0 1 0 M).2) hp
def F_12_room_0 (x1 : Int32) (x2 : Int32) (M : Mem) : Int32 × Mem := if (F_12_isRoom_0 (wr M 0 0 0) x1) = 0 then (F_12_room_19 x1 x2 1 (wr M 0 0 0)) else (F_12_room_19 x1 x2 0 (wr M 0 0 0))
def P_12_room_0 (x1 : Int32) (x2 : Int32) (M : Mem) : Prop := ((P_12_isRoom_0 (wr M 0 0 0) x1) ∧ (((¬ (F_12_isRoom_0 (wr M 0 0 0) x1) = 0 → (P_12_room_19 x1 x2 0 (wr M 0 0 0))) ∧ ((F_12_isRoom_0 (wr M 0 0 0) x1) = 0 → (P_12_room_19 x1 x2 1 (wr M 0 0 0))))))
theorem T_12_room_0 {g : Gl} (x1 : Int32) (x2 : Int32) (M : Mem) (hp : P_12_room_0 x1 x2 M) : Rn g 7 m12_room 0 [some (.ref 0), some (.int x1), some (.int x2)] [] M (some (.int (F_12_room_0 x1 x2 M).1)) ((F_12_room_0 x1 x2 M).2) := by
  rw [F_12_room_0]
  rw [P_12_room_0] at hp
  obtain ⟨hc, hp⟩ := hp
  refine b12_room_0  (C_12_isRoom x1 (wr M 0 0 0) hc) (Nat.le_of_ble_eq_true rfl) ?_
  refine b12_room_11  (fun h => ?_) (fun h => ?_)
  · rw [if_neg h]
    have hp := hp.1 h
    refine b12_room_18  ?_
    exact T_12_room_19 x1 x2 0 (wr M 0 0 0) hp
  · rw [if_pos h]
    have hp := hp.2 h
    refine b12_room_14  ?_
    exact T_12_room_19 x1 x2 1 (wr M 0 0 0) hp
theorem C_12_room {g : Gl}  (x1 : Int32) (x2 : Int32) (M : Mem) (hp : P_12_room_0 x1 x2 M) : Ms g 7 m12_room [.ref 0, .int x1, .int x2] M (some (.int (F_12_room_0 x1 x2 M).1)) ((F_12_room_0 x1 x2 M).2) := Ms.of okM_m12_room (Nat.le_of_ble_eq_true rfl) (R_wk (lc rfl (lc rfl (lc rfl l0))) (T_12_room_0 x1 x2 M hp))
def F_12_door_88 (xs0 : Int32) (M : Mem) : Int32 × Mem := if xs0 = 0 then ((0, M)) else ((1, M))
theorem T_12_door_88 {g : Gl} (xs0 : Int32) (M : Mem)  : Rn g 6 m12_door 88 [none, none, none] [.int xs0] M (some (.int (F_12_door_88 xs0 M).1)) ((F_12_door_88 xs0 M).2) := by
  rw [F_12_door_88]
  refine b12_door_88  (fun h => ?_) (fun h => ?_)
  · rw [if_pos h]
    refine b12_door_95  ?_
    exact b12_door_96  rfl rfl
  · rw [if_neg h]
    refine b12_door_91  ?_
    exact b12_door_96  rfl rfl
def F_12_door_48 (x1 : Int32) (x2 : Int32) (xs0 : Int32) (M : Mem) : Int32 × Mem := if xs0 = 0 then (if (4 : Int32) ≤ x2 then (if x2 = 5 then (F_12_door_88 ((F_12_isOpenIn_0 x1 (rd M 20 ((55 : Int32).toNatClampNeg)) M).1) ((F_12_isOpenIn_0 x1 (rd M 20 ((55 : Int32).toNatClampNeg)) M).2)) else (if x2 = 4 then ((rd M 20 ((6 + x1).toNatClampNeg), M)) else ((rd M 20 ((30 + x1).toNatClampNeg), M)))) else ((rd M (54 + x1.toNatClampNeg) x2.toNatClampNeg, M))) else ((0, M))
def P_12_door_48 (x1 : Int32) (x2 : Int32) (xs0 : Int32) (M : Mem) : Prop := ((xs0 = 0 → (((4 : Int32) ≤ x2 → ((¬ x2 = 5 → ((¬ x2 = 4 → ((vp_in (30 + x1) 56))) ∧ (x2 = 4 → ((vp_in (6 + x1) 56))))) ∧ (x2 = 5 → ((P_12_isOpenIn_0 x1 (rd M 20 ((55 : Int32).toNatClampNeg)) M))))) ∧ (¬ (4 : Int32) ≤ x2 → (vp_in x1 24) ∧ (vp_in x2 4)))) ∧ (¬ xs0 = 0 → True))
theorem T_12_door_48 {g : Gl} (x1 : Int32) (x2 : Int32) (xs0 : Int32) (M : Mem) (hp : P_12_door_48 x1 x2 xs0 M) : Rn g 6 m12_door 48 [some (.ref 0), some (.int x1), some (.int x2)] [.int xs0] M (some (.int (F_12_door_48 x1 x2 xs0 M).1)) ((F_12_door_48 x1 x2 xs0 M).2) := by
  rw [F_12_door_48]
  rw [P_12_door_48] at hp
  refine b12_door_48  (fun h => ?_) (fun h => ?_)
  · rw [if_pos h]
    have hp := hp.1 h
    refine b12_door_53  (fun h => ?_) (fun h => ?_)
    · rw [if_pos h]
      have hp := hp.1 h
      refine b12_door_67  (fun h => ?_) (fun h => ?_)
      · rw [if_neg h]
        have hp := hp.1 h
        refine b12_door_97  (fun h => ?_) (fun h => ?_)
        · rw [if_neg h]
          have hp := hp.1 h
          refine b12_door_111  ?_
          have p0 := hp
          exact b12_door_113 p0 rfl rfl
        · rw [if_pos h]
          have hp := hp.2 h
          refine b12_door_106  ?_
          have p1 := hp
          exact b12_door_113 p1 rfl rfl
      · rw [if_pos h]
        have hp := hp.2 h
        have hc := hp
        refine b12_door_72 (vpl (by decide)) (C_12_isOpenIn x1 (rd M 20 ((55 : Int32).toNatClampNeg)) M hc) (Nat.le_of_ble_eq_true rfl) ?_
        exact T_12_door_88 ((F_12_isOpenIn_0 x1 (rd M 20 ((55 : Int32).toNatClampNeg)) M).1) ((F_12_isOpenIn_0 x1 (rd M 20 ((55 : Int32).toNatClampNeg)) M).2)
    · rw [if_neg h]
      have hp := hp.2 h
      obtain ⟨p2, p3⟩ := hp
      exact b12_door_58 p2 p3 rfl rfl
  · rw [if_neg h]
    exact b12_door_51  rfl rfl
def F_12_door_43 (x1 : Int32) (x2 : Int32) (xs0 : Int32) (M : Mem) : Int32 × Mem := F_12_door_48 x1 x2 ((F_12_bad_0 xs0 2 1 M).1) ((F_12_bad_0 xs0 2 1 M).2)
def P_12_door_43 (x1 : Int32) (x2 : Int32) (xs0 : Int32) (M : Mem) : Prop := ((P_12_bad_0 xs0 2 1 M) ∧ (P_12_door_48 x1 x2 ((F_12_bad_0 xs0 2 1 M).1) ((F_12_bad_0 xs0 2 1 M).2)))
theorem T_12_door_43 {g : Gl} (x1 : Int32) (x2 : Int32) (xs0 : Int32) (M : Mem) (hp : P_12_door_43 x1 x2 xs0 M) : Rn g 6 m12_door 43 [some (.ref 0), some (.int x1), some (.int x2)] [.int xs0, .ref 0] M (some (.int (F_12_door_43 x1 x2 xs0 M).1)) ((F_12_door_43 x1 x2 xs0 M).2) := by
  rw [F_12_door_43]
  rw [P_12_door_43] at hp
  obtain ⟨hc, hp⟩ := hp
  refine b12_door_43  (C_12_bad xs0 2 1 M hc) (Nat.le_of_ble_eq_true rfl) ?_
  exact T_12_door_48 x1 x2 ((F_12_bad_0 xs0 2 1 M).1) ((F_12_bad_0 xs0 2 1 M).2) hp
def F_12_door_24 (x1 : Int32) (x2 : Int32) (xs0 : Int32) (M : Mem) : Int32 × Mem := if xs0 = 0 then (if (F_12_in_0 M x2 0 6) = 0 then (F_12_door_43 x1 x2 1 M) else (F_12_door_43 x1 x2 0 M)) else ((0, M))
def P_12_door_24 (x1 : Int32) (x2 : Int32) (xs0 : Int32) (M : Mem) : Prop := ((¬ xs0 = 0 → True) ∧ (xs0 = 0 → ((((¬ (F_12_in_0 M x2 0 6) = 0 → (P_12_door_43 x1 x2 0 M)) ∧ ((F_12_in_0 M x2 0 6) = 0 → (P_12_door_43 x1 x2 1 M)))))))
theorem T_12_door_24 {g : Gl} (x1 : Int32) (x2 : Int32) (xs0 : Int32) (M : Mem) (hp : P_12_door_24 x1 x2 xs0 M) : Rn g 6 m12_door 24 [some (.ref 0), some (.int x1), some (.int x2)] [.int xs0] M (some (.int (F_12_door_24 x1 x2 xs0 M).1)) ((F_12_door_24 x1 x2 xs0 M).2) := by
  rw [F_12_door_24]
  rw [P_12_door_24] at hp
  refine b12_door_24  (fun h => ?_) (fun h => ?_)
  · rw [if_neg h]
    exact b12_door_51  rfl rfl
  · rw [if_pos h]
    have hp := hp.2 h
    refine b12_door_27  (C_12_in x2 0 6 M) (Nat.le_of_ble_eq_true rfl) ?_
    refine b12_door_35  (fun h => ?_) (fun h => ?_)
    · rw [if_neg h]
      have hp := hp.1 h
      refine b12_door_42  ?_
      exact T_12_door_43 x1 x2 0 M hp
    · rw [if_pos h]
      have hp := hp.2 h
      refine b12_door_38  ?_
      exact T_12_door_43 x1 x2 1 M hp
def F_12_door_19 (x1 : Int32) (x2 : Int32) (xs0 : Int32) (M : Mem) : Int32 × Mem := F_12_door_24 x1 x2 ((F_12_bad_0 xs0 1 0 M).1) ((F_12_bad_0 xs0 1 0 M).2)
def P_12_door_19 (x1 : Int32) (x2 : Int32) (xs0 : Int32) (M : Mem) : Prop := ((P_12_bad_0 xs0 1 0 M) ∧ (P_12_door_24 x1 x2 ((F_12_bad_0 xs0 1 0 M).1) ((F_12_bad_0 xs0 1 0 M).2)))
theorem T_12_door_19 {g : Gl} (x1 : Int32) (x2 : Int32) (xs0 : Int32) (M : Mem) (hp : P_12_door_19 x1 x2 xs0 M) : Rn g 6 m12_door 19 [some (.ref 0), some (.int x1), some (.int x2)] [.int xs0, .ref 0] M (some (.int (F_12_door_19 x1 x2 xs0 M).1)) ((F_12_door_19 x1 x2 xs0 M).2) := by
  rw [F_12_door_19]
  rw [P_12_door_19] at hp
  obtain ⟨hc, hp⟩ := hp
  refine b12_door_19  (C_12_bad xs0 1 0 M hc) (Nat.le_of_ble_eq_true rfl) ?_
  exact T_12_door_24 x1 x2 ((F_12_bad_0 xs0 1 0 M).1) ((F_12_bad_0 xs0 1 0 M).2) hp
def F_12_door_0 (x1 : Int32) (x2 : Int32) (M : Mem) : Int32 × Mem := if (F_12_isDoor_0 (wr M 0 0 0) x1) = 0 then (F_12_door_19 x1 x2 1 (wr M 0 0 0)) else (F_12_door_19 x1 x2 0 (wr M 0 0 0))
def P_12_door_0 (x1 : Int32) (x2 : Int32) (M : Mem) : Prop := ((P_12_isDoor_0 (wr M 0 0 0) x1) ∧ (((¬ (F_12_isDoor_0 (wr M 0 0 0) x1) = 0 → (P_12_door_19 x1 x2 0 (wr M 0 0 0))) ∧ ((F_12_isDoor_0 (wr M 0 0 0) x1) = 0 → (P_12_door_19 x1 x2 1 (wr M 0 0 0))))))
theorem T_12_door_0 {g : Gl} (x1 : Int32) (x2 : Int32) (M : Mem) (hp : P_12_door_0 x1 x2 M) : Rn g 6 m12_door 0 [some (.ref 0), some (.int x1), some (.int x2)] [] M (some (.int (F_12_door_0 x1 x2 M).1)) ((F_12_door_0 x1 x2 M).2) := by
  rw [F_12_door_0]
  rw [P_12_door_0] at hp
  obtain ⟨hc, hp⟩ := hp
  refine b12_door_0  (C_12_isDoor x1 (wr M 0 0 0) hc) (Nat.le_of_ble_eq_true rfl) ?_
  refine b12_door_11  (fun h => ?_) (fun h => ?_)
  · rw [if_neg h]
    have hp := hp.1 h
    refine b12_door_18  ?_
    exact T_12_door_19 x1 x2 0 (wr M 0 0 0) hp
  · rw [if_pos h]
    have hp := hp.2 h
    refine b12_door_14  ?_
    exact T_12_door_19 x1 x2 1 (wr M 0 0 0) hp
theorem C_12_door {g : Gl}  (x1 : Int32) (x2 : Int32) (M : Mem) (hp : P_12_door_0 x1 x2 M) : Ms g 6 m12_door [.ref 0, .int x1, .int x2] M (some (.int (F_12_door_0 x1 x2 M).1)) ((F_12_door_0 x1 x2 M).2) := Ms.of okM_m12_door (Nat.le_of_ble_eq_true rfl) (R_wk (lc rfl (lc rfl (lc rfl l0))) (T_12_door_0 x1 x2 M hp))
def F_12_tour_32 (x1 : Int32) (xs0 : Int32) (M : Mem) : Int32 × Mem := if xs0 = 0 then ((rd M 20 ((0 + x1).toNatClampNeg), M)) else ((0, M))
def P_12_tour_32 (x1 : Int32) (xs0 : Int32) (M : Mem) : Prop := ((xs0 = 0 → (vp_in (0 + x1) 56)) ∧ (¬ xs0 = 0 → True))
theorem T_12_tour_32 {g : Gl} (x1 : Int32) (xs0 : Int32) (M : Mem) (hp : P_12_tour_32 x1 xs0 M) : Rn g 1 m12_tour 32 [some (.ref 0), some (.int x1)] [.int xs0] M (some (.int (F_12_tour_32 x1 xs0 M).1)) ((F_12_tour_32 x1 xs0 M).2) := by
  rw [F_12_tour_32]
  rw [P_12_tour_32] at hp
  refine b12_tour_32  (fun h => ?_) (fun h => ?_)
  · rw [if_pos h]
    have hp := hp.1 h
    have p0 := hp
    exact b12_tour_37 p0 rfl rfl
  · rw [if_neg h]
    exact b12_tour_35  rfl rfl
def F_12_tour_27 (x1 : Int32) (xs0 : Int32) (M : Mem) : Int32 × Mem := F_12_tour_32 x1 ((F_12_bad_0 xs0 1 0 M).1) ((F_12_bad_0 xs0 1 0 M).2)
def P_12_tour_27 (x1 : Int32) (xs0 : Int32) (M : Mem) : Prop := ((P_12_bad_0 xs0 1 0 M) ∧ (P_12_tour_32 x1 ((F_12_bad_0 xs0 1 0 M).1) ((F_12_bad_0 xs0 1 0 M).2)))
theorem T_12_tour_27 {g : Gl} (x1 : Int32) (xs0 : Int32) (M : Mem) (hp : P_12_tour_27 x1 xs0 M) : Rn g 1 m12_tour 27 [some (.ref 0), some (.int x1)] [.int xs0, .ref 0] M (some (.int (F_12_tour_27 x1 xs0 M).1)) ((F_12_tour_27 x1 xs0 M).2) := by
  rw [F_12_tour_27]
  rw [P_12_tour_27] at hp
  obtain ⟨hc, hp⟩ := hp
  refine b12_tour_27  (C_12_bad xs0 1 0 M hc) (Nat.le_of_ble_eq_true rfl) ?_
  exact T_12_tour_32 x1 ((F_12_bad_0 xs0 1 0 M).1) ((F_12_bad_0 xs0 1 0 M).2) hp
def F_12_tour_0 (x1 : Int32) (M : Mem) : Int32 × Mem := if (F_12_in_0 (wr M 0 0 0) x1 0 ((rd (wr M 0 0 0) 4 ((2 : Int32).toNatClampNeg)) - 1)) = 0 then (F_12_tour_27 x1 1 (wr M 0 0 0)) else (F_12_tour_27 x1 0 (wr M 0 0 0))
def P_12_tour_0 (x1 : Int32) (M : Mem) : Prop := ((((¬ (F_12_in_0 (wr M 0 0 0) x1 0 ((rd (wr M 0 0 0) 4 ((2 : Int32).toNatClampNeg)) - 1)) = 0 → (P_12_tour_27 x1 0 (wr M 0 0 0))) ∧ ((F_12_in_0 (wr M 0 0 0) x1 0 ((rd (wr M 0 0 0) 4 ((2 : Int32).toNatClampNeg)) - 1)) = 0 → (P_12_tour_27 x1 1 (wr M 0 0 0))))))
theorem T_12_tour_0 {g : Gl} (x1 : Int32) (M : Mem) (hp : P_12_tour_0 x1 M) : Rn g 1 m12_tour 0 [some (.ref 0), some (.int x1)] [] M (some (.int (F_12_tour_0 x1 M).1)) ((F_12_tour_0 x1 M).2) := by
  rw [F_12_tour_0]
  rw [P_12_tour_0] at hp
  refine b12_tour_0 (vpl (by decide)) (C_12_in x1 0 ((rd (wr M 0 0 0) 4 ((2 : Int32).toNatClampNeg)) - 1) (wr M 0 0 0)) (Nat.le_of_ble_eq_true rfl) ?_
  refine b12_tour_19  (fun h => ?_) (fun h => ?_)
  · rw [if_neg h]
    have hp := hp.1 h
    refine b12_tour_26  ?_
    exact T_12_tour_27 x1 0 (wr M 0 0 0) hp
  · rw [if_pos h]
    have hp := hp.2 h
    refine b12_tour_22  ?_
    exact T_12_tour_27 x1 1 (wr M 0 0 0) hp
theorem C_12_tour {g : Gl}  (x1 : Int32) (M : Mem) (hp : P_12_tour_0 x1 M) : Ms g 1 m12_tour [.ref 0, .int x1] M (some (.int (F_12_tour_0 x1 M).1)) ((F_12_tour_0 x1 M).2) := Ms.of okM_m12_tour (Nat.le_of_ble_eq_true rfl) (R_wk (lc rfl (lc rfl l0)) (T_12_tour_0 x1 M hp))
def F_12_open_74 (xs0 : Int32) (M : Mem) : Int32 × Mem := (xs0, M)
def P_12_open_74 (xs0 : Int32) (M : Mem) : Prop := (narrow .boolean (.int xs0) = .int xs0)
theorem T_12_open_74 {g : Gl} (xs0 : Int32) (M : Mem) (hp : P_12_open_74 xs0 M) : Rn g 5 m12_open 74 [none, none, none, none] [.int xs0] M (some (.int (F_12_open_74 xs0 M).1)) ((F_12_open_74 xs0 M).2) := by
  rw [F_12_open_74]
  rw [P_12_open_74] at hp
  have p0 := hp
  exact b12_open_74  rfl rfl p0
def F_12_open_58 (x1 : Int32) (x2 : Int32) (x3 : Int32) (xs0 : Int32) (M : Mem) : Int32 × Mem := if xs0 = 0 then (F_12_open_74 ((F_12_isOpenBy_0 x1 x2 x3 M).1) ((F_12_isOpenBy_0 x1 x2 x3 M).2)) else ((0, M))
def P_12_open_58 (x1 : Int32) (x2 : Int32) (x3 : Int32) (xs0 : Int32) (M : Mem) : Prop := ((xs0 = 0 → ((P_12_isOpenBy_0 x1 x2 x3 M) ∧ (P_12_open_74 ((F_12_isOpenBy_0 x1 x2 x3 M).1) ((F_12_isOpenBy_0 x1 x2 x3 M).2)))) ∧ (¬ xs0 = 0 → True))
theorem T_12_open_58 {g : Gl} (x1 : Int32) (x2 : Int32) (x3 : Int32) (xs0 : Int32) (M : Mem) (hp : P_12_open_58 x1 x2 x3 xs0 M) : Rn g 5 m12_open 58 [some (.ref 0), some (.int x1), some (.int x2), some (.int x3)] [.int xs0] M (some (.int (F_12_open_58 x1 x2 x3 xs0 M).1)) ((F_12_open_58 x1 x2 x3 xs0 M).2) := by
  rw [F_12_open_58]
  rw [P_12_open_58] at hp
  refine b12_open_58  (fun h => ?_) (fun h => ?_)
  · rw [if_pos h]
    have hp := hp.1 h
    obtain ⟨hc, hp⟩ := hp
    refine b12_open_63  (C_12_isOpenBy x1 x2 x3 M hc) (Nat.le_of_ble_eq_true rfl) ?_
    exact T_12_open_74 ((F_12_isOpenBy_0 x1 x2 x3 M).1) ((F_12_isOpenBy_0 x1 x2 x3 M).2) hp
  · rw [if_neg h]
    exact b12_open_61  rfl rfl
def F_12_open_53 (x1 : Int32) (x2 : Int32) (x3 : Int32) (xs0 : Int32) (M : Mem) : Int32 × Mem := F_12_open_58 x1 x2 x3 ((F_12_bad_0 xs0 2 1 M).1) ((F_12_bad_0 xs0 2 1 M).2)
def P_12_open_53 (x1 : Int32) (x2 : Int32) (x3 : Int32) (xs0 : Int32) (M : Mem) : Prop := ((P_12_bad_0 xs0 2 1 M) ∧ (P_12_open_58 x1 x2 x3 ((F_12_bad_0 xs0 2 1 M).1) ((F_12_bad_0 xs0 2 1 M).2)))
theorem T_12_open_53 {g : Gl} (x1 : Int32) (x2 : Int32) (x3 : Int32) (xs0 : Int32) (M : Mem) (hp : P_12_open_53 x1 x2 x3 xs0 M) : Rn g 5 m12_open 53 [some (.ref 0), some (.int x1), some (.int x2), some (.int x3)] [.int xs0, .ref 0] M (some (.int (F_12_open_53 x1 x2 x3 xs0 M).1)) ((F_12_open_53 x1 x2 x3 xs0 M).2) := by
  rw [F_12_open_53]
  rw [P_12_open_53] at hp
  obtain ⟨hc, hp⟩ := hp
  refine b12_open_53  (C_12_bad xs0 2 1 M hc) (Nat.le_of_ble_eq_true rfl) ?_
  exact T_12_open_58 x1 x2 x3 ((F_12_bad_0 xs0 2 1 M).1) ((F_12_bad_0 xs0 2 1 M).2) hp
def F_12_open_48 (x1 : Int32) (x2 : Int32) (x3 : Int32) (M : Mem) : Int32 × Mem := F_12_open_53 x1 x2 x3 1 M
def P_12_open_48 (x1 : Int32) (x2 : Int32) (x3 : Int32) (M : Mem) : Prop := (P_12_open_53 x1 x2 x3 1 M)
theorem T_12_open_48 {g : Gl} (x1 : Int32) (x2 : Int32) (x3 : Int32) (M : Mem) (hp : P_12_open_48 x1 x2 x3 M) : Rn g 5 m12_open 48 [some (.ref 0), some (.int x1), some (.int x2), some (.int x3)] [.ref 0] M (some (.int (F_12_open_48 x1 x2 x3 M).1)) ((F_12_open_48 x1 x2 x3 M).2) := by
  rw [F_12_open_48]
  rw [P_12_open_48] at hp
  refine b12_open_48  ?_
  exact T_12_open_53 x1 x2 x3 1 M hp
def F_12_open_24 (x1 : Int32) (x2 : Int32) (x3 : Int32) (xs0 : Int32) (M : Mem) : Int32 × Mem := if xs0 = 0 then (if (F_12_in_0 M x2 0 23) = 0 then (F_12_open_48 x1 x2 x3 M) else (if (F_12_in_0 M x3 0 99) = 0 then (F_12_open_48 x1 x2 x3 M) else (F_12_open_53 x1 x2 x3 0 M))) else ((0, M))
def P_12_open_24 (x1 : Int32) (x2 : Int32) (x3 : Int32) (xs0 : Int32) (M : Mem) : Prop := ((¬ xs0 = 0 → True) ∧ (xs0 = 0 → (((((F_12_in_0 M x2 0 23) = 0 → P_12_open_48 x1 x2 x3 M) ∧ (¬ (F_12_in_0 M x2 0 23) = 0 → ((((¬ (F_12_in_0 M x3 0 99) = 0 → (P_12_open_53 x1 x2 x3 0 M)) ∧ ((F_12_in_0 M x3 0 99) = 0 → P_12_open_48 x1 x2 x3 M))))))))))
theorem T_12_open_24 {g : Gl} (x1 : Int32) (x2 : Int32) (x3 : Int32) (xs0 : Int32) (M : Mem) (hp : P_12_open_24 x1 x2 x3 xs0 M) : Rn g 5 m12_open 24 [some (.ref 0), some (.int x1), some (.int x2), some (.int x3)] [.int xs0] M (some (.int (F_12_open_24 x1 x2 x3 xs0 M).1)) ((F_12_open_24 x1 x2 x3 xs0 M).2) := by
  rw [F_12_open_24]
  rw [P_12_open_24] at hp
  refine b12_open_24  (fun h => ?_) (fun h => ?_)
  · rw [if_neg h]
    exact b12_open_61  rfl rfl
  · rw [if_pos h]
    have hp := hp.2 h
    refine b12_open_27  (C_12_in x2 0 23 M) (Nat.le_of_ble_eq_true rfl) ?_
    refine b12_open_35  (fun h => ?_) (fun h => ?_)
    · rw [if_pos h]
      have hp := hp.1 h
      exact T_12_open_48 x1 x2 x3 M hp
    · rw [if_neg h]
      have hp := hp.2 h
      refine b12_open_38  (C_12_in x3 0 99 M) (Nat.le_of_ble_eq_true rfl) ?_
      refine b12_open_45  (fun h => ?_) (fun h => ?_)
      · rw [if_neg h]
        have hp := hp.1 h
        refine b12_open_52  ?_
        exact T_12_open_53 x1 x2 x3 0 M hp
      · rw [if_pos h]
        have hp := hp.2 h
        exact T_12_open_48 x1 x2 x3 M hp
def F_12_open_19 (x1 : Int32) (x2 : Int32) (x3 : Int32) (xs0 : Int32) (M : Mem) : Int32 × Mem := F_12_open_24 x1 x2 x3 ((F_12_bad_0 xs0 1 0 M).1) ((F_12_bad_0 xs0 1 0 M).2)
def P_12_open_19 (x1 : Int32) (x2 : Int32) (x3 : Int32) (xs0 : Int32) (M : Mem) : Prop := ((P_12_bad_0 xs0 1 0 M) ∧ (P_12_open_24 x1 x2 x3 ((F_12_bad_0 xs0 1 0 M).1) ((F_12_bad_0 xs0 1 0 M).2)))
theorem T_12_open_19 {g : Gl} (x1 : Int32) (x2 : Int32) (x3 : Int32) (xs0 : Int32) (M : Mem) (hp : P_12_open_19 x1 x2 x3 xs0 M) : Rn g 5 m12_open 19 [some (.ref 0), some (.int x1), some (.int x2), some (.int x3)] [.int xs0, .ref 0] M (some (.int (F_12_open_19 x1 x2 x3 xs0 M).1)) ((F_12_open_19 x1 x2 x3 xs0 M).2) := by
  rw [F_12_open_19]
  rw [P_12_open_19] at hp
  obtain ⟨hc, hp⟩ := hp
  refine b12_open_19  (C_12_bad xs0 1 0 M hc) (Nat.le_of_ble_eq_true rfl) ?_
  exact T_12_open_24 x1 x2 x3 ((F_12_bad_0 xs0 1 0 M).1) ((F_12_bad_0 xs0 1 0 M).2) hp
def F_12_open_0 (x1 : Int32) (x2 : Int32) (x3 : Int32) (M : Mem) : Int32 × Mem := if (F_12_isDoor_0 (wr M 0 0 0) x1) = 0 then (F_12_open_19 x1 x2 x3 1 (wr M 0 0 0)) else (F_12_open_19 x1 x2 x3 0 (wr M 0 0 0))
def P_12_open_0 (x1 : Int32) (x2 : Int32) (x3 : Int32) (M : Mem) : Prop := ((P_12_isDoor_0 (wr M 0 0 0) x1) ∧ (((¬ (F_12_isDoor_0 (wr M 0 0 0) x1) = 0 → (P_12_open_19 x1 x2 x3 0 (wr M 0 0 0))) ∧ ((F_12_isDoor_0 (wr M 0 0 0) x1) = 0 → (P_12_open_19 x1 x2 x3 1 (wr M 0 0 0))))))
theorem T_12_open_0 {g : Gl} (x1 : Int32) (x2 : Int32) (x3 : Int32) (M : Mem) (hp : P_12_open_0 x1 x2 x3 M) : Rn g 5 m12_open 0 [some (.ref 0), some (.int x1), some (.int x2), some (.int x3)] [] M (some (.int (F_12_open_0 x1 x2 x3 M).1)) ((F_12_open_0 x1 x2 x3 M).2) := by
  rw [F_12_open_0]
  rw [P_12_open_0] at hp
  obtain ⟨hc, hp⟩ := hp
  refine b12_open_0  (C_12_isDoor x1 (wr M 0 0 0) hc) (Nat.le_of_ble_eq_true rfl) ?_
  refine b12_open_11  (fun h => ?_) (fun h => ?_)
  · rw [if_neg h]
    have hp := hp.1 h
    refine b12_open_18  ?_
    exact T_12_open_19 x1 x2 x3 0 (wr M 0 0 0) hp
  · rw [if_pos h]
    have hp := hp.2 h
    refine b12_open_14  ?_
    exact T_12_open_19 x1 x2 x3 1 (wr M 0 0 0) hp
theorem C_12_open {g : Gl}  (x1 : Int32) (x2 : Int32) (x3 : Int32) (M : Mem) (hp : P_12_open_0 x1 x2 x3 M) : Ms g 5 m12_open [.ref 0, .int x1, .int x2, .int x3] M (some (.int (F_12_open_0 x1 x2 x3 M).1)) ((F_12_open_0 x1 x2 x3 M).2) := Ms.of okM_m12_open (Nat.le_of_ble_eq_true rfl) (R_wk (lc rfl (lc rfl (lc rfl (lc rfl l0)))) (T_12_open_0 x1 x2 x3 M hp))
def F_12_allRooms_0 (M : Mem) : Int32 := (((1 : Int32) <<< ((rd M 4 ((0 : Int32).toNatClampNeg)) &&& 31)) - 1)
theorem T_12_allRooms_0 {g : Gl} (M : Mem)  : Rn g 0 m12_allRooms 0 [some (.ref 0)] [] M (some (.int (F_12_allRooms_0 M))) (M) := by
  rw [F_12_allRooms_0]
  exact b12_allRooms_0 (vpl (by decide)) rfl rfl
theorem C_12_allRooms {g : Gl}   (M : Mem)  : Ms g 0 m12_allRooms [.ref 0] M (some (.int (F_12_allRooms_0 M))) (M) := Ms.of okM_m12_allRooms (Nat.le_of_ble_eq_true rfl) (R_wk (lc rfl l0) (T_12_allRooms_0 M))
def F_12_behind_55 (k4 : Int32 → Int32 → Int32 → Int32) (M : Mem) (x1 : Int32) (x3 : Int32) (xs0 : Int32) (xs1 : Int32) : Int32 := k4 x1 (xs1 ||| xs0) (x3 + 1)
def P_12_behind_55 (pk4 : Int32 → Int32 → Int32 → Prop) (M : Mem) (x1 : Int32) (x3 : Int32) (xs0 : Int32) (xs1 : Int32) : Prop := (pk4 x1 (xs1 ||| xs0) (x3 + 1))
theorem T_12_behind_55 {g : Gl} (k4 : Int32 → Int32 → Int32 → Int32) (pk4 : Int32 → Int32 → Int32 → Prop) (M : Mem) (ih4 : ∀ (x1 : Int32) (x2 : Int32) (x3 : Int32), pk4 x1 x2 x3 → Rn g 1 m12_behind 4 [some (.ref 0), some (.int x1), some (.int x2), some (.int x3)] [] M (some (.int (k4 x1 x2 x3))) (M)) (x1 : Int32) (x3 : Int32) (xs0 : Int32) (xs1 : Int32) (hp : P_12_behind_55 pk4 M x1 x3 xs0 xs1) : Rn g 1 m12_behind 55 [some (.ref 0), some (.int x1), none, some (.int x3)] [.int xs0, .int xs1] M (some (.int (F_12_behind_55 k4 M x1 x3 xs0 xs1))) (M) := by
  rw [F_12_behind_55]
  rw [P_12_behind_55] at hp
  refine b12_behind_55  ?_
  exact ih4 x1 (xs1 ||| xs0) (x3 + 1) hp
def F_12_behind_54 (k4 : Int32 → Int32 → Int32 → Int32) (M : Mem) (x1 : Int32) (x3 : Int32) (xs0 : Int32) : Int32 := F_12_behind_55 k4 M x1 x3 0 xs0
def P_12_behind_54 (pk4 : Int32 → Int32 → Int32 → Prop) (M : Mem) (x1 : Int32) (x3 : Int32) (xs0 : Int32) : Prop := (P_12_behind_55 pk4 M x1 x3 0 xs0)
theorem T_12_behind_54 {g : Gl} (k4 : Int32 → Int32 → Int32 → Int32) (pk4 : Int32 → Int32 → Int32 → Prop) (M : Mem) (ih4 : ∀ (x1 : Int32) (x2 : Int32) (x3 : Int32), pk4 x1 x2 x3 → Rn g 1 m12_behind 4 [some (.ref 0), some (.int x1), some (.int x2), some (.int x3)] [] M (some (.int (k4 x1 x2 x3))) (M)) (x1 : Int32) (x3 : Int32) (xs0 : Int32) (hp : P_12_behind_54 pk4 M x1 x3 xs0) : Rn g 1 m12_behind 54 [some (.ref 0), some (.int x1), none, some (.int x3)] [.int xs0] M (some (.int (F_12_behind_54 k4 M x1 x3 xs0))) (M) := by
  rw [F_12_behind_54]
  rw [P_12_behind_54] at hp
  refine b12_behind_54  ?_
  exact T_12_behind_55 k4 pk4 _ ih4 x1 x3 0 xs0 hp
def F_12_behind_4 (M : Mem) : Nat → Int32 → Int32 → Int32 → Int32
  | 0, _, _, _ => 0
  | n + 1, x1, x2, x3 => if (rd M 4 ((1 : Int32).toNatClampNeg)) ≤ x3 then (x2) else (if (F_12_isBarred_0 M x3) = 0 then (if (F_12_has_0 M x1 (rd M (54 + x3.toNatClampNeg) ((0 : Int32).toNatClampNeg))) = 0 then (F_12_behind_54 (F_12_behind_4 M n) M x1 x3 x2) else (F_12_behind_55 (F_12_behind_4 M n) M x1 x3 ((1 : Int32) <<< ((rd M (54 + x3.toNatClampNeg) ((1 : Int32).toNatClampNeg)) &&& 31)) x2)) else (F_12_behind_54 (F_12_behind_4 M n) M x1 x3 x2))
def P_12_behind_4 (M : Mem) : Nat → Int32 → Int32 → Int32 → Prop
  | 0, _, _, _ => False
  | n + 1, x1, x2, x3 => (((rd M 4 ((1 : Int32).toNatClampNeg)) ≤ x3 → True) ∧ (¬ (rd M 4 ((1 : Int32).toNatClampNeg)) ≤ x3 → ((P_12_isBarred_0 M x3) ∧ (((¬ (F_12_isBarred_0 M x3) = 0 → P_12_behind_54 (P_12_behind_4 M n) M x1 x3 x2) ∧ ((F_12_isBarred_0 M x3) = 0 → (vp_in x3 24) ∧ (((((F_12_has_0 M x1 (rd M (54 + x3.toNatClampNeg) ((0 : Int32).toNatClampNeg))) = 0 → P_12_behind_54 (P_12_behind_4 M n) M x1 x3 x2) ∧ (¬ (F_12_has_0 M x1 (rd M (54 + x3.toNatClampNeg) ((0 : Int32).toNatClampNeg))) = 0 → (vp_in x3 24) ∧ (P_12_behind_55 (P_12_behind_4 M n) M x1 x3 ((1 : Int32) <<< ((rd M (54 + x3.toNatClampNeg) ((1 : Int32).toNatClampNeg)) &&& 31)) x2)))))))))))
theorem T_12_behind_4 {g : Gl} (M : Mem) : ∀ (n : Nat) (x1 : Int32) (x2 : Int32) (x3 : Int32) (hp : P_12_behind_4 M n x1 x2 x3), Rn g 1 m12_behind 4 [some (.ref 0), some (.int x1), some (.int x2), some (.int x3)] [] M (some (.int (F_12_behind_4 M n x1 x2 x3))) (M) := by
  intro n
  induction n with
  | zero => intro x1 x2 x3 hp; exact hp.elim
  | succ n ih =>
    intro x1 x2 x3 hp
    rw [F_12_behind_4]
    rw [P_12_behind_4] at hp
    refine b12_behind_4 (vpl (by decide)) (fun h => ?_) (fun h => ?_)
    · rw [if_pos h]
      exact b12_behind_63  rfl rfl
    · rw [if_neg h]
      have hp := hp.2 h
      obtain ⟨hc, hp⟩ := hp
      refine b12_behind_14  (C_12_isBarred x3 M hc) (Nat.le_of_ble_eq_true rfl) ?_
      refine b12_behind_23  (fun h => ?_) (fun h => ?_)
      · rw [if_neg h]
        have hp := hp.1 h
        exact T_12_behind_54 (F_12_behind_4 M n) (P_12_behind_4 M n) _ ih x1 x3 x2 hp
      · rw [if_pos h]
        have hp := hp.2 h
        obtain ⟨p0, hp⟩ := hp
        refine b12_behind_26 p0 (vpl (by decide)) (C_12_has x1 (rd M (54 + x3.toNatClampNeg) ((0 : Int32).toNatClampNeg)) M) (Nat.le_of_ble_eq_true rfl) ?_
        refine b12_behind_38  (fun h => ?_) (fun h => ?_)
        · rw [if_pos h]
          have hp := hp.1 h
          exact T_12_behind_54 (F_12_behind_4 M n) (P_12_behind_4 M n) _ ih x1 x3 x2 hp
        · rw [if_neg h]
          have hp := hp.2 h
          obtain ⟨p1, hp⟩ := hp
          refine b12_behind_41 p1 (vpl (by decide)) ?_
          exact T_12_behind_55 (F_12_behind_4 M n) (P_12_behind_4 M n) _ ih x1 x3 ((1 : Int32) <<< ((rd M (54 + x3.toNatClampNeg) ((1 : Int32).toNatClampNeg)) &&& 31)) x2 hp
def F_12_behind_0 (M : Mem) (x1 : Int32) : Int32 := F_12_behind_4 M FU x1 0 0
def P_12_behind_0 (M : Mem) (x1 : Int32) : Prop := (P_12_behind_4 M FU x1 0 0)
theorem T_12_behind_0 {g : Gl} (M : Mem) (x1 : Int32) (hp : P_12_behind_0 M x1) : Rn g 1 m12_behind 0 [some (.ref 0), some (.int x1), none, none] [] M (some (.int (F_12_behind_0 M x1))) (M) := by
  rw [F_12_behind_0]
  rw [P_12_behind_0] at hp
  refine b12_behind_0  ?_
  exact T_12_behind_4 _ FU x1 0 0 hp
theorem C_12_behind {g : Gl}  (x1 : Int32) (M : Mem) (hp : P_12_behind_0 M x1) : Ms g 1 m12_behind [.ref 0, .int x1] M (some (.int (F_12_behind_0 M x1))) (M) := Ms.of okM_m12_behind (Nat.le_of_ble_eq_true rfl) (R_wk (lc rfl (lc rfl (ln (ln l0)))) (T_12_behind_0 M x1 hp))
def F_12_seen_45 (k5 : Int32 → Int32 → Int32 → Int32 → Int32) (M : Mem) (x1 : Int32) (x2 : Int32) (x4 : Int32) (xs0 : Int32) (xs1 : Int32) : Int32 := k5 x1 x2 (xs1 ||| xs0) (x4 + 1)
def P_12_seen_45 (pk5 : Int32 → Int32 → Int32 → Int32 → Prop) (M : Mem) (x1 : Int32) (x2 : Int32) (x4 : Int32) (xs0 : Int32) (xs1 : Int32) : Prop := (pk5 x1 x2 (xs1 ||| xs0) (x4 + 1))
theorem T_12_seen_45 {g : Gl} (k5 : Int32 → Int32 → Int32 → Int32 → Int32) (pk5 : Int32 → Int32 → Int32 → Int32 → Prop) (M : Mem) (ih5 : ∀ (x1 : Int32) (x2 : Int32) (x3 : Int32) (x4 : Int32), pk5 x1 x2 x3 x4 → Rn g 1 m12_seen 5 [some (.ref 0), some (.int x1), some (.int x2), some (.int x3), some (.int x4)] [] M (some (.int (k5 x1 x2 x3 x4))) (M)) (x1 : Int32) (x2 : Int32) (x4 : Int32) (xs0 : Int32) (xs1 : Int32) (hp : P_12_seen_45 pk5 M x1 x2 x4 xs0 xs1) : Rn g 1 m12_seen 45 [some (.ref 0), some (.int x1), some (.int x2), none, some (.int x4)] [.int xs0, .int xs1] M (some (.int (F_12_seen_45 k5 M x1 x2 x4 xs0 xs1))) (M) := by
  rw [F_12_seen_45]
  rw [P_12_seen_45] at hp
  refine b12_seen_45  ?_
  exact ih5 x1 x2 (xs1 ||| xs0) (x4 + 1) hp
def F_12_seen_44 (k5 : Int32 → Int32 → Int32 → Int32 → Int32) (M : Mem) (x1 : Int32) (x2 : Int32) (x4 : Int32) (xs0 : Int32) : Int32 := F_12_seen_45 k5 M x1 x2 x4 0 xs0
def P_12_seen_44 (pk5 : Int32 → Int32 → Int32 → Int32 → Prop) (M : Mem) (x1 : Int32) (x2 : Int32) (x4 : Int32) (xs0 : Int32) : Prop := (P_12_seen_45 pk5 M x1 x2 x4 0 xs0)
theorem T_12_seen_44 {g : Gl} (k5 : Int32 → Int32 → Int32 → Int32 → Int32) (pk5 : Int32 → Int32 → Int32 → Int32 → Prop) (M : Mem) (ih5 : ∀ (x1 : Int32) (x2 : Int32) (x3 : Int32) (x4 : Int32), pk5 x1 x2 x3 x4 → Rn g 1 m12_seen 5 [some (.ref 0), some (.int x1), some (.int x2), some (.int x3), some (.int x4)] [] M (some (.int (k5 x1 x2 x3 x4))) (M)) (x1 : Int32) (x2 : Int32) (x4 : Int32) (xs0 : Int32) (hp : P_12_seen_44 pk5 M x1 x2 x4 xs0) : Rn g 1 m12_seen 44 [some (.ref 0), some (.int x1), some (.int x2), none, some (.int x4)] [.int xs0] M (some (.int (F_12_seen_44 k5 M x1 x2 x4 xs0))) (M) := by
  rw [F_12_seen_44]
  rw [P_12_seen_44] at hp
  refine b12_seen_44  ?_
  exact T_12_seen_45 k5 pk5 _ ih5 x1 x2 x4 0 xs0 hp
def F_12_seen_5 (M : Mem) : Nat → Int32 → Int32 → Int32 → Int32 → Int32
  | 0, _, _, _, _ => 0
  | n + 1, x1, x2, x3, x4 => if (rd M 4 ((0 : Int32).toNatClampNeg)) ≤ x4 then (x3) else (if (F_12_has_0 M x1 x4) = 0 then (F_12_seen_44 (F_12_seen_5 M n) M x1 x2 x4 x3) else (if (rd M 6 x4.toNatClampNeg) = x2 then (F_12_seen_45 (F_12_seen_5 M n) M x1 x2 x4 ((1 : Int32) <<< (x4 &&& 31)) x3) else (F_12_seen_44 (F_12_seen_5 M n) M x1 x2 x4 x3)))
def P_12_seen_5 (M : Mem) : Nat → Int32 → Int32 → Int32 → Int32 → Prop
  | 0, _, _, _, _ => False
  | n + 1, x1, x2, x3, x4 => (((rd M 4 ((0 : Int32).toNatClampNeg)) ≤ x4 → True) ∧ (¬ (rd M 4 ((0 : Int32).toNatClampNeg)) ≤ x4 → (((((F_12_has_0 M x1 x4) = 0 → P_12_seen_44 (P_12_seen_5 M n) M x1 x2 x4 x3) ∧ (¬ (F_12_has_0 M x1 x4) = 0 → (vp_in x4 10) ∧ ((¬ (rd M 6 x4.toNatClampNeg) = x2 → P_12_seen_44 (P_12_seen_5 M n) M x1 x2 x4 x3) ∧ ((rd M 6 x4.toNatClampNeg) = x2 → (P_12_seen_45 (P_12_seen_5 M n) M x1 x2 x4 ((1 : Int32) <<< (x4 &&& 31)) x3)))))))))
theorem T_12_seen_5 {g : Gl} (M : Mem) : ∀ (n : Nat) (x1 : Int32) (x2 : Int32) (x3 : Int32) (x4 : Int32) (hp : P_12_seen_5 M n x1 x2 x3 x4), Rn g 1 m12_seen 5 [some (.ref 0), some (.int x1), some (.int x2), some (.int x3), some (.int x4)] [] M (some (.int (F_12_seen_5 M n x1 x2 x3 x4))) (M) := by
  intro n
  induction n with
  | zero => intro x1 x2 x3 x4 hp; exact hp.elim
  | succ n ih =>
    intro x1 x2 x3 x4 hp
    rw [F_12_seen_5]
    rw [P_12_seen_5] at hp
    refine b12_seen_5 (vpl (by decide)) (fun h => ?_) (fun h => ?_)
    · rw [if_pos h]
      exact b12_seen_53  rfl rfl
    · rw [if_neg h]
      have hp := hp.2 h
      refine b12_seen_16  (C_12_has x1 x4 M) (Nat.le_of_ble_eq_true rfl) ?_
      refine b12_seen_23  (fun h => ?_) (fun h => ?_)
      · rw [if_pos h]
        have hp := hp.1 h
        exact T_12_seen_44 (F_12_seen_5 M n) (P_12_seen_5 M n) _ ih x1 x2 x4 x3 hp
      · rw [if_neg h]
        have hp := hp.2 h
        obtain ⟨p0, hp⟩ := hp
        refine b12_seen_26 p0 (fun h => ?_) (fun h => ?_)
        · rw [if_neg h]
          have hp := hp.1 h
          exact T_12_seen_44 (F_12_seen_5 M n) (P_12_seen_5 M n) _ ih x1 x2 x4 x3 hp
        · rw [if_pos h]
          have hp := hp.2 h
          refine b12_seen_37  ?_
          exact T_12_seen_45 (F_12_seen_5 M n) (P_12_seen_5 M n) _ ih x1 x2 x4 ((1 : Int32) <<< (x4 &&& 31)) x3 hp
def F_12_seen_0 (M : Mem) (x1 : Int32) (x2 : Int32) : Int32 := F_12_seen_5 M FU x1 x2 0 0
def P_12_seen_0 (M : Mem) (x1 : Int32) (x2 : Int32) : Prop := (P_12_seen_5 M FU x1 x2 0 0)
theorem T_12_seen_0 {g : Gl} (M : Mem) (x1 : Int32) (x2 : Int32) (hp : P_12_seen_0 M x1 x2) : Rn g 1 m12_seen 0 [some (.ref 0), some (.int x1), some (.int x2), none, none] [] M (some (.int (F_12_seen_0 M x1 x2))) (M) := by
  rw [F_12_seen_0]
  rw [P_12_seen_0] at hp
  refine b12_seen_0  ?_
  exact T_12_seen_5 _ FU x1 x2 0 0 hp
theorem C_12_seen {g : Gl}  (x1 : Int32) (x2 : Int32) (M : Mem) (hp : P_12_seen_0 M x1 x2) : Ms g 1 m12_seen [.ref 0, .int x1, .int x2] M (some (.int (F_12_seen_0 M x1 x2))) (M) := Ms.of okM_m12_seen (Nat.le_of_ble_eq_true rfl) (R_wk (lc rfl (lc rfl (lc rfl (ln (ln l0))))) (T_12_seen_0 M x1 x2 hp))
def F_12_fitsNow_29 (k7 : Int32 → Int32 → Int32) (M : Mem) (x2 : Int32) (xs0 : Int32) : Int32 := k7 (F_12_seen_0 M xs0 (rd M 17 x2.toNatClampNeg)) (x2 + 1)
def P_12_fitsNow_29 (pk7 : Int32 → Int32 → Prop) (M : Mem) (x2 : Int32) (xs0 : Int32) : Prop := (vp_in x2 12) ∧ ((P_12_seen_0 M xs0 (rd M 17 x2.toNatClampNeg)) ∧ ((pk7 (F_12_seen_0 M xs0 (rd M 17 x2.toNatClampNeg)) (x2 + 1))))
theorem T_12_fitsNow_29 {g : Gl} (k7 : Int32 → Int32 → Int32) (pk7 : Int32 → Int32 → Prop) (M : Mem) (ih7 : ∀ (x1 : Int32) (x2 : Int32), pk7 x1 x2 → Rn g 2 m12_fitsNow 7 [some (.ref 0), some (.int x1), some (.int x2)] [] M (some (.int (k7 x1 x2))) (M)) (x2 : Int32) (xs0 : Int32) (hp : P_12_fitsNow_29 pk7 M x2 xs0) : Rn g 2 m12_fitsNow 29 [some (.ref 0), none, some (.int x2)] [.int xs0, .ref 0] M (some (.int (F_12_fitsNow_29 k7 M x2 xs0))) (M) := by
  rw [F_12_fitsNow_29]
  rw [P_12_fitsNow_29] at hp
  obtain ⟨p0, hp⟩ := hp
  obtain ⟨hc, hp⟩ := hp
  refine b12_fitsNow_29 p0 (C_12_seen xs0 (rd M 17 x2.toNatClampNeg) M hc) (Nat.le_of_ble_eq_true rfl) ?_
  refine b12_fitsNow_38  ?_
  exact ih7 (F_12_seen_0 M xs0 (rd M 17 x2.toNatClampNeg)) (x2 + 1) hp
def F_12_fitsNow_7 (M : Mem) : Nat → Int32 → Int32 → Int32
  | 0, _, _ => 0
  | n + 1, x1, x2 => if (rd M 0 35) ≤ x2 then (x1) else (if x2 = 0 then (F_12_fitsNow_29 (F_12_fitsNow_7 M n) M x2 x1) else (F_12_fitsNow_29 (F_12_fitsNow_7 M n) M x2 (F_12_behind_0 M x1)))
def P_12_fitsNow_7 (M : Mem) : Nat → Int32 → Int32 → Prop
  | 0, _, _ => False
  | n + 1, x1, x2 => (((rd M 0 35) ≤ x2 → True) ∧ (¬ (rd M 0 35) ≤ x2 → ((¬ x2 = 0 → ((P_12_behind_0 M x1) ∧ (P_12_fitsNow_29 (P_12_fitsNow_7 M n) M x2 (F_12_behind_0 M x1)))) ∧ (x2 = 0 → (P_12_fitsNow_29 (P_12_fitsNow_7 M n) M x2 x1)))))
theorem T_12_fitsNow_7 {g : Gl} (M : Mem) : ∀ (n : Nat) (x1 : Int32) (x2 : Int32) (hp : P_12_fitsNow_7 M n x1 x2), Rn g 2 m12_fitsNow 7 [some (.ref 0), some (.int x1), some (.int x2)] [] M (some (.int (F_12_fitsNow_7 M n x1 x2))) (M) := by
  intro n
  induction n with
  | zero => intro x1 x2 hp; exact hp.elim
  | succ n ih =>
    intro x1 x2 hp
    rw [F_12_fitsNow_7]
    rw [P_12_fitsNow_7] at hp
    refine b12_fitsNow_7  (fun h => ?_) (fun h => ?_)
    · rw [if_pos h]
      exact b12_fitsNow_45  rfl rfl
    · rw [if_neg h]
      have hp := hp.2 h
      refine b12_fitsNow_15  (fun h => ?_) (fun h => ?_)
      · rw [if_neg h]
        have hp := hp.1 h
        obtain ⟨hc, hp⟩ := hp
        refine b12_fitsNow_24  (C_12_behind x1 M hc) (Nat.le_of_ble_eq_true rfl) ?_
        exact T_12_fitsNow_29 (F_12_fitsNow_7 M n) (P_12_fitsNow_7 M n) _ ih x2 (F_12_behind_0 M x1) hp
      · rw [if_pos h]
        have hp := hp.2 h
        refine b12_fitsNow_20  ?_
        exact T_12_fitsNow_29 (F_12_fitsNow_7 M n) (P_12_fitsNow_7 M n) _ ih x2 x1 hp
def F_12_fitsNow_0 (M : Mem) : Int32 := F_12_fitsNow_7 M FU (F_12_allRooms_0 M) 0
def P_12_fitsNow_0 (M : Mem) : Prop := (((P_12_fitsNow_7 M FU (F_12_allRooms_0 M) 0)))
theorem T_12_fitsNow_0 {g : Gl} (M : Mem) (hp : P_12_fitsNow_0 M) : Rn g 2 m12_fitsNow 0 [some (.ref 0), none, none] [] M (some (.int (F_12_fitsNow_0 M))) (M) := by
  rw [F_12_fitsNow_0]
  rw [P_12_fitsNow_0] at hp
  refine b12_fitsNow_0  (C_12_allRooms  M) (Nat.le_of_ble_eq_true rfl) ?_
  refine b12_fitsNow_4  ?_
  exact T_12_fitsNow_7 _ FU (F_12_allRooms_0 M) 0 hp
theorem C_12_fitsNow {g : Gl}   (M : Mem) (hp : P_12_fitsNow_0 M) : Ms g 2 m12_fitsNow [.ref 0] M (some (.int (F_12_fitsNow_0 M))) (M) := Ms.of okM_m12_fitsNow (Nat.le_of_ble_eq_true rfl) (R_wk (lc rfl (ln (ln l0))) (T_12_fitsNow_0 M hp))
def F_12_fits_0 (M : Mem) : Int32 × Mem := ((F_12_fitsNow_0 (wr M 0 0 0)), (wr M 0 0 0))
def P_12_fits_0 (M : Mem) : Prop := ((P_12_fitsNow_0 (wr M 0 0 0)))
theorem T_12_fits_0 {g : Gl} (M : Mem) (hp : P_12_fits_0 M) : Rn g 3 m12_fits 0 [some (.ref 0)] [] M (some (.int (F_12_fits_0 M).1)) ((F_12_fits_0 M).2) := by
  rw [F_12_fits_0]
  rw [P_12_fits_0] at hp
  have hc := hp
  refine b12_fits_0  (C_12_fitsNow  (wr M 0 0 0) hc) (Nat.le_of_ble_eq_true rfl) ?_
  exact b12_fits_9  rfl rfl
theorem C_12_fits {g : Gl}   (M : Mem) (hp : P_12_fits_0 M) : Ms g 3 m12_fits [.ref 0] M (some (.int (F_12_fits_0 M).1)) ((F_12_fits_0 M).2) := Ms.of okM_m12_fits (Nat.le_of_ble_eq_true rfl) (R_wk (lc rfl l0) (T_12_fits_0 M hp))
def F_12_ends_24 (x1 : Int32) (xs0 : Int32) (M : Mem) : Int32 × Mem := if xs0 = 0 then (((F_12_has_0 M (F_12_fitsNow_0 M) x1), M)) else ((0, M))
def P_12_ends_24 (x1 : Int32) (xs0 : Int32) (M : Mem) : Prop := ((xs0 = 0 → ((P_12_fitsNow_0 M) ∧ ((((narrow .boolean (.int (F_12_has_0 M (F_12_fitsNow_0 M) x1)) = .int (F_12_has_0 M (F_12_fitsNow_0 M) x1))))))) ∧ (¬ xs0 = 0 → True))
theorem T_12_ends_24 {g : Gl} (x1 : Int32) (xs0 : Int32) (M : Mem) (hp : P_12_ends_24 x1 xs0 M) : Rn g 3 m12_ends 24 [some (.ref 0), some (.int x1)] [.int xs0] M (some (.int (F_12_ends_24 x1 xs0 M).1)) ((F_12_ends_24 x1 xs0 M).2) := by
  rw [F_12_ends_24]
  rw [P_12_ends_24] at hp
  refine b12_ends_24  (fun h => ?_) (fun h => ?_)
  · rw [if_pos h]
    have hp := hp.1 h
    obtain ⟨hc, hp⟩ := hp
    refine b12_ends_29  (C_12_fitsNow  M hc) (Nat.le_of_ble_eq_true rfl) ?_
    refine b12_ends_33  (C_12_has (F_12_fitsNow_0 M) x1 M) (Nat.le_of_ble_eq_true rfl) ?_
    have p0 := hp
    exact b12_ends_37  rfl rfl p0
  · rw [if_neg h]
    exact b12_ends_27  rfl rfl
def F_12_ends_19 (x1 : Int32) (xs0 : Int32) (M : Mem) : Int32 × Mem := F_12_ends_24 x1 ((F_12_bad_0 xs0 1 0 M).1) ((F_12_bad_0 xs0 1 0 M).2)
def P_12_ends_19 (x1 : Int32) (xs0 : Int32) (M : Mem) : Prop := ((P_12_bad_0 xs0 1 0 M) ∧ (P_12_ends_24 x1 ((F_12_bad_0 xs0 1 0 M).1) ((F_12_bad_0 xs0 1 0 M).2)))
theorem T_12_ends_19 {g : Gl} (x1 : Int32) (xs0 : Int32) (M : Mem) (hp : P_12_ends_19 x1 xs0 M) : Rn g 3 m12_ends 19 [some (.ref 0), some (.int x1)] [.int xs0, .ref 0] M (some (.int (F_12_ends_19 x1 xs0 M).1)) ((F_12_ends_19 x1 xs0 M).2) := by
  rw [F_12_ends_19]
  rw [P_12_ends_19] at hp
  obtain ⟨hc, hp⟩ := hp
  refine b12_ends_19  (C_12_bad xs0 1 0 M hc) (Nat.le_of_ble_eq_true rfl) ?_
  exact T_12_ends_24 x1 ((F_12_bad_0 xs0 1 0 M).1) ((F_12_bad_0 xs0 1 0 M).2) hp
def F_12_ends_0 (x1 : Int32) (M : Mem) : Int32 × Mem := if (F_12_isRoom_0 (wr M 0 0 0) x1) = 0 then (F_12_ends_19 x1 1 (wr M 0 0 0)) else (F_12_ends_19 x1 0 (wr M 0 0 0))
def P_12_ends_0 (x1 : Int32) (M : Mem) : Prop := ((P_12_isRoom_0 (wr M 0 0 0) x1) ∧ (((¬ (F_12_isRoom_0 (wr M 0 0 0) x1) = 0 → (P_12_ends_19 x1 0 (wr M 0 0 0))) ∧ ((F_12_isRoom_0 (wr M 0 0 0) x1) = 0 → (P_12_ends_19 x1 1 (wr M 0 0 0))))))
theorem T_12_ends_0 {g : Gl} (x1 : Int32) (M : Mem) (hp : P_12_ends_0 x1 M) : Rn g 3 m12_ends 0 [some (.ref 0), some (.int x1)] [] M (some (.int (F_12_ends_0 x1 M).1)) ((F_12_ends_0 x1 M).2) := by
  rw [F_12_ends_0]
  rw [P_12_ends_0] at hp
  obtain ⟨hc, hp⟩ := hp
  refine b12_ends_0  (C_12_isRoom x1 (wr M 0 0 0) hc) (Nat.le_of_ble_eq_true rfl) ?_
  refine b12_ends_11  (fun h => ?_) (fun h => ?_)
  · rw [if_neg h]
    have hp := hp.1 h
    refine b12_ends_18  ?_
    exact T_12_ends_19 x1 0 (wr M 0 0 0) hp
  · rw [if_pos h]
    have hp := hp.2 h
    refine b12_ends_14  ?_
    exact T_12_ends_19 x1 1 (wr M 0 0 0) hp
theorem C_12_ends {g : Gl}  (x1 : Int32) (M : Mem) (hp : P_12_ends_0 x1 M) : Ms g 3 m12_ends [.ref 0, .int x1] M (some (.int (F_12_ends_0 x1 M).1)) ((F_12_ends_0 x1 M).2) := Ms.of okM_m12_ends (Nat.le_of_ble_eq_true rfl) (R_wk (lc rfl (lc rfl l0)) (T_12_ends_0 x1 M hp))
def F_12_isOne_0 (M : Mem) (x0 : Int32) : Int32 := if (x0 &&& (x0 - 1)) = 0 then (1) else (0)
theorem T_12_isOne_0 {g : Gl} (M : Mem) (x0 : Int32)  : Rn g 0 m12_isOne 0 [some (.int x0)] [] M (some (.int (F_12_isOne_0 M x0))) (M) := by
  rw [F_12_isOne_0]
  refine b12_isOne_0  (fun h => ?_) (fun h => ?_)
  · rw [if_neg h]
    refine b12_isOne_12  ?_
    exact b12_isOne_13  rfl rfl rfl
  · rw [if_pos h]
    refine b12_isOne_8  ?_
    exact b12_isOne_13  rfl rfl rfl
theorem C_12_isOne {g : Gl}  (x0 : Int32) (M : Mem)  : Ms g 0 m12_isOne [.int x0] M (some (.int (F_12_isOne_0 M x0))) (M) := Ms.of okM_m12_isOne (Nat.le_of_ble_eq_true rfl) (R_wk (lc rfl l0) (T_12_isOne_0 M x0))
def F_12_isKnown_8 (rF : Int32 → Int32 → Int32) (M : Mem) (x1 : Int32) : Int32 := (F_12_isOne_0 M x1)
def P_12_isKnown_8 (rF : Int32 → Int32 → Int32) (rP : Int32 → Int32 → Prop) (M : Mem) (x1 : Int32) : Prop := (((narrow .boolean (.int (F_12_isOne_0 M x1)) = .int (F_12_isOne_0 M x1))))
theorem T_12_isKnown_8 {g : Gl} (rF : Int32 → Int32 → Int32) (rP : Int32 → Int32 → Prop) (M : Mem) {dr : Nat} (rT : ∀ (a0 : Int32) (a1 : Int32), rP a0 a1 → Ms g dr m12_isKnown [.ref 0, .int a0, .int a1] M (some (.int (rF a0 a1))) (M)) (x1 : Int32) (hp : P_12_isKnown_8 rF rP M x1) : Rn g (dr + 2) m12_isKnown 8 [none, some (.int x1), none, none, none] [] M (some (.int (F_12_isKnown_8 rF M x1))) (M) := by
  rw [F_12_isKnown_8]
  rw [P_12_isKnown_8] at hp
  refine b12_isKnown_8  (C_12_isOne x1 M) (by omega) ?_
  have p0 := hp
  exact b12_isKnown_12  rfl rfl p0
def F_12_isKnown_22 (rF : Int32 → Int32 → Int32) (M : Mem) : Nat → Int32 → Int32 → Int32 → Int32
  | 0, _, _, _ => 0
  | n + 1, x2, x3, x4 => if (8 : Int32) ≤ x4 then (1) else (if (rF (F_12_seen_0 M x3 x4) (x2 - 1)) = 0 then (0) else ((F_12_isKnown_22 rF M n) x2 x3 (x4 + 1)))
def P_12_isKnown_22 (rF : Int32 → Int32 → Int32) (rP : Int32 → Int32 → Prop) (M : Mem) : Nat → Int32 → Int32 → Int32 → Prop
  | 0, _, _, _ => False
  | n + 1, x2, x3, x4 => (((8 : Int32) ≤ x4 → True) ∧ (¬ (8 : Int32) ≤ x4 → ((P_12_seen_0 M x3 x4) ∧ (((rP (F_12_seen_0 M x3 x4) (x2 - 1)) ∧ (((¬ (rF (F_12_seen_0 M x3 x4) (x2 - 1)) = 0 → ((P_12_isKnown_22 rF rP M n) x2 x3 (x4 + 1))) ∧ ((rF (F_12_seen_0 M x3 x4) (x2 - 1)) = 0 → True))))))))
theorem T_12_isKnown_22 {g : Gl} (rF : Int32 → Int32 → Int32) (rP : Int32 → Int32 → Prop) (M : Mem) {dr : Nat} (rT : ∀ (a0 : Int32) (a1 : Int32), rP a0 a1 → Ms g dr m12_isKnown [.ref 0, .int a0, .int a1] M (some (.int (rF a0 a1))) (M)) : ∀ (n : Nat) (x2 : Int32) (x3 : Int32) (x4 : Int32) (hp : P_12_isKnown_22 rF rP M n x2 x3 x4), Rn g (dr + 2) m12_isKnown 22 [some (.ref 0), none, some (.int x2), some (.int x3), some (.int x4)] [] M (some (.int (F_12_isKnown_22 rF M n x2 x3 x4))) (M) := by
  intro n
  induction n with
  | zero => intro x2 x3 x4 hp; exact hp.elim
  | succ n ih =>
    intro x2 x3 x4 hp
    rw [F_12_isKnown_22]
    rw [P_12_isKnown_22] at hp
    refine b12_isKnown_22  (fun h => ?_) (fun h => ?_)
    · rw [if_pos h]
      exact b12_isKnown_54  rfl rfl
    · rw [if_neg h]
      have hp := hp.2 h
      obtain ⟨hc, hp⟩ := hp
      refine b12_isKnown_29  (C_12_seen x3 x4 M hc) (by omega) ?_
      obtain ⟨hc, hp⟩ := hp
      refine b12_isKnown_37  (rT (F_12_seen_0 M x3 x4) (x2 - 1) hc) (by omega) ?_
      refine b12_isKnown_43  (fun h => ?_) (fun h => ?_)
      · rw [if_neg h]
        have hp := hp.1 h
        refine b12_isKnown_48  ?_
        exact ih x2 x3 (x4 + 1) hp
      · rw [if_pos h]
        exact b12_isKnown_46  rfl rfl
def F_12_isKnown_0 (rF : Int32 → Int32 → Int32) (M : Mem) (x1 : Int32) (x2 : Int32) : Int32 := if x2 = 0 then (F_12_isKnown_8 rF M x1) else (if x1 = 0 then (F_12_isKnown_8 rF M x1) else (F_12_isKnown_22 rF M FU x2 (F_12_behind_0 M x1) 0))
def P_12_isKnown_0 (rF : Int32 → Int32 → Int32) (rP : Int32 → Int32 → Prop) (M : Mem) (x1 : Int32) (x2 : Int32) : Prop := ((x2 = 0 → P_12_isKnown_8 rF rP M x1) ∧ (¬ x2 = 0 → ((¬ x1 = 0 → ((P_12_behind_0 M x1) ∧ ((P_12_isKnown_22 rF rP M FU x2 (F_12_behind_0 M x1) 0)))) ∧ (x1 = 0 → P_12_isKnown_8 rF rP M x1))))
theorem T_12_isKnown_0 {g : Gl} (rF : Int32 → Int32 → Int32) (rP : Int32 → Int32 → Prop) (M : Mem) {dr : Nat} (rT : ∀ (a0 : Int32) (a1 : Int32), rP a0 a1 → Ms g dr m12_isKnown [.ref 0, .int a0, .int a1] M (some (.int (rF a0 a1))) (M)) (x1 : Int32) (x2 : Int32) (hp : P_12_isKnown_0 rF rP M x1 x2) : Rn g (dr + 2) m12_isKnown 0 [some (.ref 0), some (.int x1), some (.int x2), none, none] [] M (some (.int (F_12_isKnown_0 rF M x1 x2))) (M) := by
  rw [F_12_isKnown_0]
  rw [P_12_isKnown_0] at hp
  refine b12_isKnown_0  (fun h => ?_) (fun h => ?_)
  · rw [if_pos h]
    have hp := hp.1 h
    exact T_12_isKnown_8 rF rP _ rT x1 hp
  · rw [if_neg h]
    have hp := hp.2 h
    refine b12_isKnown_4  (fun h => ?_) (fun h => ?_)
    · rw [if_neg h]
      have hp := hp.1 h
      obtain ⟨hc, hp⟩ := hp
      refine b12_isKnown_13  (C_12_behind x1 M hc) (by omega) ?_
      refine b12_isKnown_18  ?_
      exact T_12_isKnown_22 rF rP _ rT FU x2 (F_12_behind_0 M x1) 0 hp
    · rw [if_pos h]
      have hp := hp.2 h
      exact T_12_isKnown_8 rF rP _ rT x1 hp
theorem C_12_isKnown {g : Gl} (rF : Int32 → Int32 → Int32) (rP : Int32 → Int32 → Prop) (M : Mem) {dr : Nat} (rT : ∀ (a0 : Int32) (a1 : Int32), rP a0 a1 → Ms g dr m12_isKnown [.ref 0, .int a0, .int a1] M (some (.int (rF a0 a1))) (M)) (x1 : Int32) (x2 : Int32) (hp : P_12_isKnown_0 rF rP M x1 x2) : Ms g (dr + 2) m12_isKnown [.ref 0, .int x1, .int x2] M (some (.int (F_12_isKnown_0 rF M x1 x2))) (M) := Ms.of okM_m12_isKnown (Nat.le_of_ble_eq_true rfl) (R_wk (lc rfl (lc rfl (lc rfl (ln (ln l0))))) (T_12_isKnown_0 rF rP M rT x1 x2 hp))
def G_12_isKnown (M : Mem) : Nat → Int32 → Int32 → Int32
  | 0, _, _ => 0
  | n + 1, a0, a1 => F_12_isKnown_0 (G_12_isKnown M n) M a0 a1
def H_12_isKnown (M : Mem) : Nat → Int32 → Int32 → Prop
  | 0, _, _ => False
  | n + 1, a0, a1 => P_12_isKnown_0 (G_12_isKnown M n) (H_12_isKnown M n) M a0 a1
theorem D_12_isKnown {g : Gl} (M : Mem) : ∀ (n : Nat) (a0 : Int32) (a1 : Int32), H_12_isKnown M n a0 a1 → Ms g (2 * n) m12_isKnown [.ref 0, .int a0, .int a1] M (some (.int (G_12_isKnown M n a0 a1))) (M) := by
  intro n
  induction n with
  | zero => intro a0 a1 hp; exact hp.elim
  | succ n ih =>
    intro a0 a1 hp
    rw [G_12_isKnown]
    rw [H_12_isKnown] at hp
    exact C_12_isKnown (G_12_isKnown M n) (H_12_isKnown M n) M ih a0 a1 hp
def F_12_knows_7  : Nat → Int32 → Mem → Int32 × Mem
  | 0, _, M => (0, M)
  | n + 1, x1, M => if (6 : Int32) < x1 then (((-1), M)) else (if (G_12_isKnown M 8 (F_12_fitsNow_0 M) x1) = 0 then ((F_12_knows_7 n) (x1 + 1) M) else ((x1, M)))
def P_12_knows_7  : Nat → Int32 → Mem → Prop
  | 0, _, _ => False
  | n + 1, x1, M => (((6 : Int32) < x1 → True) ∧ (¬ (6 : Int32) < x1 → ((P_12_fitsNow_0 M) ∧ (((H_12_isKnown M 8 (F_12_fitsNow_0 M) x1) ∧ ((((G_12_isKnown M 8 (F_12_fitsNow_0 M) x1) = 0 → ((P_12_knows_7 n) (x1 + 1) M)) ∧ (¬ (G_12_isKnown M 8 (F_12_fitsNow_0 M) x1) = 0 → True))))))))
theorem T_12_knows_7 {g : Gl} : ∀ (n : Nat) (x1 : Int32) (M : Mem) (hp : P_12_knows_7 n x1 M), Rn g 17 m12_knows 7 [some (.ref 0), some (.int x1)] [] M (some (.int (F_12_knows_7 n x1 M).1)) ((F_12_knows_7 n x1 M).2) := by
  intro n
  induction n with
  | zero => intro x1 M hp; exact hp.elim
  | succ n ih =>
    intro x1 M hp
    rw [F_12_knows_7]
    rw [P_12_knows_7] at hp
    refine b12_knows_7  (fun h => ?_) (fun h => ?_)
    · rw [if_pos h]
      exact b12_knows_33  rfl rfl
    · rw [if_neg h]
      have hp := hp.2 h
      obtain ⟨hc, hp⟩ := hp
      refine b12_knows_13  (C_12_fitsNow  M hc) (Nat.le_of_ble_eq_true rfl) ?_
      obtain ⟨hc, hp⟩ := hp
      refine b12_knows_18  (D_12_isKnown M 8 (F_12_fitsNow_0 M) x1 hc) (Nat.le_of_ble_eq_true rfl) ?_
      refine b12_knows_22  (fun h => ?_) (fun h => ?_)
      · rw [if_pos h]
        have hp := hp.1 h
        refine b12_knows_27  ?_
        exact ih (x1 + 1) M hp
      · rw [if_neg h]
        exact b12_knows_25  rfl rfl
def F_12_knows_0 (M : Mem) : Int32 × Mem := F_12_knows_7 FU 0 (wr M 0 0 0)
def P_12_knows_0 (M : Mem) : Prop := (P_12_knows_7 FU 0 (wr M 0 0 0))
theorem T_12_knows_0 {g : Gl} (M : Mem) (hp : P_12_knows_0 M) : Rn g 17 m12_knows 0 [some (.ref 0), none] [] M (some (.int (F_12_knows_0 M).1)) ((F_12_knows_0 M).2) := by
  rw [F_12_knows_0]
  rw [P_12_knows_0] at hp
  refine b12_knows_0  ?_
  exact T_12_knows_7 FU 0 (wr M 0 0 0) hp
theorem C_12_knows {g : Gl}   (M : Mem) (hp : P_12_knows_0 M) : Ms g 17 m12_knows [.ref 0] M (some (.int (F_12_knows_0 M).1)) ((F_12_knows_0 M).2) := Ms.of okM_m12_knows (Nat.le_of_ble_eq_true rfl) (R_wk (lc rfl (ln l0)) (T_12_knows_0 M hp))
def F_12_laysSlips_199 (k7 : Int32 → Mem → Mem) (k13 : Int32 → Int32 → Mem → Mem) (k70 : Int32 → Int32 → Int32 → Int32 → Int32 → Int32 → Mem → Mem) (x1 : Int32) (x2 : Int32) (x3 : Int32) (x4 : Int32) (x5 : Int32) (x6 : Int32) (M : Mem) : Mem := k70 x1 x2 x3 x4 x5 (x6 + 1) M
def P_12_laysSlips_199 (pk7 : Int32 → Mem → Prop) (pk13 : Int32 → Int32 → Mem → Prop) (pk70 : Int32 → Int32 → Int32 → Int32 → Int32 → Int32 → Mem → Prop) (x1 : Int32) (x2 : Int32) (x3 : Int32) (x4 : Int32) (x5 : Int32) (x6 : Int32) (M : Mem) : Prop := (pk70 x1 x2 x3 x4 x5 (x6 + 1) M)
theorem T_12_laysSlips_199 {g : Gl} (k7 : Int32 → Mem → Mem) (k13 : Int32 → Int32 → Mem → Mem) (k70 : Int32 → Int32 → Int32 → Int32 → Int32 → Int32 → Mem → Mem) (pk7 : Int32 → Mem → Prop) (pk13 : Int32 → Int32 → Mem → Prop) (pk70 : Int32 → Int32 → Int32 → Int32 → Int32 → Int32 → Mem → Prop) (ih7 : ∀ (x1 : Int32) (M : Mem), pk7 x1 M → Rn g 1 m12_laysSlips 7 [some (.ref 0), some (.int x1), none, none, none, none, none, none, none] [] M (none) ((k7 x1 M))) (ih13 : ∀ (x1 : Int32) (x2 : Int32) (M : Mem), pk13 x1 x2 M → Rn g 1 m12_laysSlips 13 [some (.ref 0), some (.int x1), some (.int x2), none, none, none, none, none, none] [] M (none) ((k13 x1 x2 M))) (ih70 : ∀ (x1 : Int32) (x2 : Int32) (x3 : Int32) (x4 : Int32) (x5 : Int32) (x6 : Int32) (M : Mem), pk70 x1 x2 x3 x4 x5 x6 M → Rn g 1 m12_laysSlips 70 [some (.ref 0), some (.int x1), some (.int x2), some (.int x3), some (.int x4), some (.int x5), some (.int x6), none, none] [] M (none) ((k70 x1 x2 x3 x4 x5 x6 M))) (x1 : Int32) (x2 : Int32) (x3 : Int32) (x4 : Int32) (x5 : Int32) (x6 : Int32) (M : Mem) (hp : P_12_laysSlips_199 pk7 pk13 pk70 x1 x2 x3 x4 x5 x6 M) : Rn g 1 m12_laysSlips 199 [some (.ref 0), some (.int x1), some (.int x2), some (.int x3), some (.int x4), some (.int x5), some (.int x6), none, none] [] M (none) ((F_12_laysSlips_199 k7 k13 k70 x1 x2 x3 x4 x5 x6 M)) := by
  rw [F_12_laysSlips_199]
  rw [P_12_laysSlips_199] at hp
  refine b12_laysSlips_199  ?_
  exact ih70 x1 x2 x3 x4 x5 (x6 + 1) M hp
def F_12_laysSlips_190 (k7 : Int32 → Mem → Mem) (k13 : Int32 → Int32 → Mem → Mem) (k70 : Int32 → Int32 → Int32 → Int32 → Int32 → Int32 → Mem → Mem) (x1 : Int32) (x2 : Int32) (x3 : Int32) (x5 : Int32) (x6 : Int32) (x8 : Int32) (xs0 : Int32) (M : Mem) : Mem := F_12_laysSlips_199 k7 k13 k70 x1 x2 (F_12_less_0 M x3 x8) xs0 x5 x6 M
def P_12_laysSlips_190 (pk7 : Int32 → Mem → Prop) (pk13 : Int32 → Int32 → Mem → Prop) (pk70 : Int32 → Int32 → Int32 → Int32 → Int32 → Int32 → Mem → Prop) (x1 : Int32) (x2 : Int32) (x3 : Int32) (x5 : Int32) (x6 : Int32) (x8 : Int32) (xs0 : Int32) (M : Mem) : Prop := (((P_12_laysSlips_199 pk7 pk13 pk70 x1 x2 (F_12_less_0 M x3 x8) xs0 x5 x6 M)))
theorem T_12_laysSlips_190 {g : Gl} (k7 : Int32 → Mem → Mem) (k13 : Int32 → Int32 → Mem → Mem) (k70 : Int32 → Int32 → Int32 → Int32 → Int32 → Int32 → Mem → Mem) (pk7 : Int32 → Mem → Prop) (pk13 : Int32 → Int32 → Mem → Prop) (pk70 : Int32 → Int32 → Int32 → Int32 → Int32 → Int32 → Mem → Prop) (ih7 : ∀ (x1 : Int32) (M : Mem), pk7 x1 M → Rn g 1 m12_laysSlips 7 [some (.ref 0), some (.int x1), none, none, none, none, none, none, none] [] M (none) ((k7 x1 M))) (ih13 : ∀ (x1 : Int32) (x2 : Int32) (M : Mem), pk13 x1 x2 M → Rn g 1 m12_laysSlips 13 [some (.ref 0), some (.int x1), some (.int x2), none, none, none, none, none, none] [] M (none) ((k13 x1 x2 M))) (ih70 : ∀ (x1 : Int32) (x2 : Int32) (x3 : Int32) (x4 : Int32) (x5 : Int32) (x6 : Int32) (M : Mem), pk70 x1 x2 x3 x4 x5 x6 M → Rn g 1 m12_laysSlips 70 [some (.ref 0), some (.int x1), some (.int x2), some (.int x3), some (.int x4), some (.int x5), some (.int x6), none, none] [] M (none) ((k70 x1 x2 x3 x4 x5 x6 M))) (x1 : Int32) (x2 : Int32) (x3 : Int32) (x5 : Int32) (x6 : Int32) (x8 : Int32) (xs0 : Int32) (M : Mem) (hp : P_12_laysSlips_190 pk7 pk13 pk70 x1 x2 x3 x5 x6 x8 xs0 M) : Rn g 1 m12_laysSlips 190 [some (.ref 0), some (.int x1), some (.int x2), some (.int x3), none, some (.int x5), some (.int x6), none, some (.int x8)] [.int xs0] M (none) ((F_12_laysSlips_190 k7 k13 k70 x1 x2 x3 x5 x6 x8 xs0 M)) := by
  rw [F_12_laysSlips_190]
  rw [P_12_laysSlips_190] at hp
  refine b12_laysSlips_190  (C_12_less x3 x8 M) (Nat.le_of_ble_eq_true rfl) ?_
  refine b12_laysSlips_198  ?_
  exact T_12_laysSlips_199 k7 k13 k70 pk7 pk13 pk70 ih7 ih13 ih70 x1 x2 (F_12_less_0 M x3 x8) xs0 x5 x6 M hp
def F_12_laysSlips_236 (k7 : Int32 → Mem → Mem) (k13 : Int32 → Int32 → Mem → Mem) (x1 : Int32) (x2 : Int32) (xs0 : Int32) (xs1 : Int32) (qs2 : Nat) (M : Mem) : Mem := k13 x1 (x2 + 1) (wr M (520 + qs2) xs1.toNatClampNeg xs0)
def P_12_laysSlips_236 (pk7 : Int32 → Mem → Prop) (pk13 : Int32 → Int32 → Mem → Prop) (x1 : Int32) (x2 : Int32) (xs0 : Int32) (xs1 : Int32) (qs2 : Nat) (M : Mem) : Prop := (qs2 < 13) ∧ ((vp_in xs1 10) ∧ (pk13 x1 (x2 + 1) (wr M (520 + qs2) xs1.toNatClampNeg xs0)))
theorem T_12_laysSlips_236 {g : Gl} (k7 : Int32 → Mem → Mem) (k13 : Int32 → Int32 → Mem → Mem) (pk7 : Int32 → Mem → Prop) (pk13 : Int32 → Int32 → Mem → Prop) (ih7 : ∀ (x1 : Int32) (M : Mem), pk7 x1 M → Rn g 1 m12_laysSlips 7 [some (.ref 0), some (.int x1), none, none, none, none, none, none, none] [] M (none) ((k7 x1 M))) (ih13 : ∀ (x1 : Int32) (x2 : Int32) (M : Mem), pk13 x1 x2 M → Rn g 1 m12_laysSlips 13 [some (.ref 0), some (.int x1), some (.int x2), none, none, none, none, none, none] [] M (none) ((k13 x1 x2 M))) (x1 : Int32) (x2 : Int32) (xs0 : Int32) (xs1 : Int32) (qs2 : Nat) (M : Mem) (hp : P_12_laysSlips_236 pk7 pk13 x1 x2 xs0 xs1 qs2 M) : Rn g 1 m12_laysSlips 236 [some (.ref 0), some (.int x1), some (.int x2), none, none, none, none, none, none] [.int xs0, .int xs1, .ref (520 + qs2)] M (none) ((F_12_laysSlips_236 k7 k13 x1 x2 xs0 xs1 qs2 M)) := by
  rw [F_12_laysSlips_236]
  rw [P_12_laysSlips_236] at hp
  obtain ⟨hqs2, hp⟩ := hp
  obtain ⟨p0, hp⟩ := hp
  refine b12_laysSlips_236 hqs2 p0 ?_
  exact ih13 x1 (x2 + 1) (wr M (520 + qs2) xs1.toNatClampNeg xs0) hp
def F_12_laysSlips_205 (k7 : Int32 → Mem → Mem) (k13 : Int32 → Int32 → Mem → Mem) (x1 : Int32) (x2 : Int32) (x3 : Int32) (x4 : Int32) (x5 : Int32) (M : Mem) : Mem := if x5 = 1 then (F_12_laysSlips_236 k7 k13 x1 x2 x1 x2 (x1.toNatClampNeg) (wr M (507 + x1.toNatClampNeg) x2.toNatClampNeg (x3 + x5))) else (F_12_laysSlips_236 k7 k13 x1 x2 x4 x2 (x1.toNatClampNeg) (wr M (507 + x1.toNatClampNeg) x2.toNatClampNeg (x3 + x5)))
def P_12_laysSlips_205 (pk7 : Int32 → Mem → Prop) (pk13 : Int32 → Int32 → Mem → Prop) (x1 : Int32) (x2 : Int32) (x3 : Int32) (x4 : Int32) (x5 : Int32) (M : Mem) : Prop := (vp_in x1 13) ∧ (vp_in x2 10) ∧ ((¬ x5 = 1 → (P_12_laysSlips_236 pk7 pk13 x1 x2 x4 x2 (x1.toNatClampNeg) (wr M (507 + x1.toNatClampNeg) x2.toNatClampNeg (x3 + x5)))) ∧ (x5 = 1 → (P_12_laysSlips_236 pk7 pk13 x1 x2 x1 x2 (x1.toNatClampNeg) (wr M (507 + x1.toNatClampNeg) x2.toNatClampNeg (x3 + x5)))))
theorem T_12_laysSlips_205 {g : Gl} (k7 : Int32 → Mem → Mem) (k13 : Int32 → Int32 → Mem → Mem) (pk7 : Int32 → Mem → Prop) (pk13 : Int32 → Int32 → Mem → Prop) (ih7 : ∀ (x1 : Int32) (M : Mem), pk7 x1 M → Rn g 1 m12_laysSlips 7 [some (.ref 0), some (.int x1), none, none, none, none, none, none, none] [] M (none) ((k7 x1 M))) (ih13 : ∀ (x1 : Int32) (x2 : Int32) (M : Mem), pk13 x1 x2 M → Rn g 1 m12_laysSlips 13 [some (.ref 0), some (.int x1), some (.int x2), none, none, none, none, none, none] [] M (none) ((k13 x1 x2 M))) (x1 : Int32) (x2 : Int32) (x3 : Int32) (x4 : Int32) (x5 : Int32) (M : Mem) (hp : P_12_laysSlips_205 pk7 pk13 x1 x2 x3 x4 x5 M) : Rn g 1 m12_laysSlips 205 [some (.ref 0), some (.int x1), some (.int x2), some (.int x3), some (.int x4), some (.int x5), none, none, none] [] M (none) ((F_12_laysSlips_205 k7 k13 x1 x2 x3 x4 x5 M)) := by
  rw [F_12_laysSlips_205]
  rw [P_12_laysSlips_205] at hp
  obtain ⟨p0, p1, hp⟩ := hp
  refine b12_laysSlips_205 p0 p1 (fun h => ?_) (fun h => ?_)
  · rw [if_neg h]
    have hp := hp.1 h
    refine b12_laysSlips_234 ((vp_lt p0)) ?_
    exact T_12_laysSlips_236 k7 k13 pk7 pk13 ih7 ih13 x1 x2 x4 x2 (x1.toNatClampNeg) (wr M (507 + x1.toNatClampNeg) x2.toNatClampNeg (x3 + x5)) hp
  · rw [if_pos h]
    have hp := hp.2 h
    refine b12_laysSlips_230 ((vp_lt p0)) ?_
    exact T_12_laysSlips_236 k7 k13 pk7 pk13 ih7 ih13 x1 x2 x1 x2 (x1.toNatClampNeg) (wr M (507 + x1.toNatClampNeg) x2.toNatClampNeg (x3 + x5)) hp
def F_12_laysSlips_70 (k7 : Int32 → Mem → Mem) (k13 : Int32 → Int32 → Mem → Mem) : Nat → Int32 → Int32 → Int32 → Int32 → Int32 → Int32 → Mem → Mem
  | 0, _, _, _, _, _, _, M => M
  | n + 1, x1, x2, x3, x4, x5, x6, M => if (rd M 4 ((1 : Int32).toNatClampNeg)) ≤ x6 then (F_12_laysSlips_205 k7 k13 x1 x2 x3 x4 x5 M) else (if ((rd M 0 35) - 1) ≤ x1 then (F_12_laysSlips_205 k7 k13 x1 x2 x3 x4 x5 M) else (if (rd M (54 + x6.toNatClampNeg) ((0 : Int32).toNatClampNeg)) = x2 then (if (F_12_isBarred_0 M x6) = 0 then (if x3 ≤ (rd M (507 + (x1 + 1).toNatClampNeg) ((rd M (54 + x6.toNatClampNeg) ((1 : Int32).toNatClampNeg)).toNatClampNeg)) then (if (rd M (507 + (x1 + 1).toNatClampNeg) ((rd M (54 + x6.toNatClampNeg) ((1 : Int32).toNatClampNeg)).toNatClampNeg)) = x3 then (F_12_laysSlips_190 k7 k13 (F_12_laysSlips_70 k7 k13 n) x1 x2 x3 x5 x6 (rd M (507 + (x1 + 1).toNatClampNeg) ((rd M (54 + x6.toNatClampNeg) ((1 : Int32).toNatClampNeg)).toNatClampNeg)) (F_12_more_0 M x4 (rd M (520 + (x1 + 1).toNatClampNeg) (rd M (54 + x6.toNatClampNeg) ((1 : Int32).toNatClampNeg)).toNatClampNeg)) M) else (F_12_laysSlips_190 k7 k13 (F_12_laysSlips_70 k7 k13 n) x1 x2 x3 x5 x6 (rd M (507 + (x1 + 1).toNatClampNeg) ((rd M (54 + x6.toNatClampNeg) ((1 : Int32).toNatClampNeg)).toNatClampNeg)) x4 M)) else (F_12_laysSlips_190 k7 k13 (F_12_laysSlips_70 k7 k13 n) x1 x2 x3 x5 x6 (rd M (507 + (x1 + 1).toNatClampNeg) ((rd M (54 + x6.toNatClampNeg) ((1 : Int32).toNatClampNeg)).toNatClampNeg)) (rd M (520 + (x1 + 1).toNatClampNeg) (rd M (54 + x6.toNatClampNeg) ((1 : Int32).toNatClampNeg)).toNatClampNeg) M)) else (F_12_laysSlips_199 k7 k13 (F_12_laysSlips_70 k7 k13 n) x1 x2 x3 x4 x5 x6 M)) else (F_12_laysSlips_199 k7 k13 (F_12_laysSlips_70 k7 k13 n) x1 x2 x3 x4 x5 x6 M)))
def P_12_laysSlips_70 (pk7 : Int32 → Mem → Prop) (pk13 : Int32 → Int32 → Mem → Prop) : Nat → Int32 → Int32 → Int32 → Int32 → Int32 → Int32 → Mem → Prop
  | 0, _, _, _, _, _, _, _ => False
  | n + 1, x1, x2, x3, x4, x5, x6, M => (((rd M 4 ((1 : Int32).toNatClampNeg)) ≤ x6 → P_12_laysSlips_205 pk7 pk13 x1 x2 x3 x4 x5 M) ∧ (¬ (rd M 4 ((1 : Int32).toNatClampNeg)) ≤ x6 → ((((rd M 0 35) - 1) ≤ x1 → P_12_laysSlips_205 pk7 pk13 x1 x2 x3 x4 x5 M) ∧ (¬ ((rd M 0 35) - 1) ≤ x1 → (vp_in x6 24) ∧ ((¬ (rd M (54 + x6.toNatClampNeg) ((0 : Int32).toNatClampNeg)) = x2 → P_12_laysSlips_199 pk7 pk13 (P_12_laysSlips_70 pk7 pk13 n) x1 x2 x3 x4 x5 x6 M) ∧ ((rd M (54 + x6.toNatClampNeg) ((0 : Int32).toNatClampNeg)) = x2 → ((P_12_isBarred_0 M x6) ∧ ((((F_12_isBarred_0 M x6) = 0 → (vp_in x6 24) ∧ (vp_in (x1 + 1) 13) ∧ (vp_in (rd M (54 + x6.toNatClampNeg) ((1 : Int32).toNatClampNeg)) 10) ∧ ((x3 ≤ (rd M (507 + (x1 + 1).toNatClampNeg) ((rd M (54 + x6.toNatClampNeg) ((1 : Int32).toNatClampNeg)).toNatClampNeg)) → ((¬ (rd M (507 + (x1 + 1).toNatClampNeg) ((rd M (54 + x6.toNatClampNeg) ((1 : Int32).toNatClampNeg)).toNatClampNeg)) = x3 → (P_12_laysSlips_190 pk7 pk13 (P_12_laysSlips_70 pk7 pk13 n) x1 x2 x3 x5 x6 (rd M (507 + (x1 + 1).toNatClampNeg) ((rd M (54 + x6.toNatClampNeg) ((1 : Int32).toNatClampNeg)).toNatClampNeg)) x4 M)) ∧ ((rd M (507 + (x1 + 1).toNatClampNeg) ((rd M (54 + x6.toNatClampNeg) ((1 : Int32).toNatClampNeg)).toNatClampNeg)) = x3 → (vp_in (x1 + 1) 13) ∧ (vp_in (rd M (54 + x6.toNatClampNeg) ((1 : Int32).toNatClampNeg)) 10) ∧ (((P_12_laysSlips_190 pk7 pk13 (P_12_laysSlips_70 pk7 pk13 n) x1 x2 x3 x5 x6 (rd M (507 + (x1 + 1).toNatClampNeg) ((rd M (54 + x6.toNatClampNeg) ((1 : Int32).toNatClampNeg)).toNatClampNeg)) (F_12_more_0 M x4 (rd M (520 + (x1 + 1).toNatClampNeg) (rd M (54 + x6.toNatClampNeg) ((1 : Int32).toNatClampNeg)).toNatClampNeg)) M)))))) ∧ (¬ x3 ≤ (rd M (507 + (x1 + 1).toNatClampNeg) ((rd M (54 + x6.toNatClampNeg) ((1 : Int32).toNatClampNeg)).toNatClampNeg)) → (vp_in (x1 + 1) 13) ∧ (vp_in (rd M (54 + x6.toNatClampNeg) ((1 : Int32).toNatClampNeg)) 10) ∧ (P_12_laysSlips_190 pk7 pk13 (P_12_laysSlips_70 pk7 pk13 n) x1 x2 x3 x5 x6 (rd M (507 + (x1 + 1).toNatClampNeg) ((rd M (54 + x6.toNatClampNeg) ((1 : Int32).toNatClampNeg)).toNatClampNeg)) (rd M (520 + (x1 + 1).toNatClampNeg) (rd M (54 + x6.toNatClampNeg) ((1 : Int32).toNatClampNeg)).toNatClampNeg) M)))) ∧ (¬ (F_12_isBarred_0 M x6) = 0 → (P_12_laysSlips_199 pk7 pk13 (P_12_laysSlips_70 pk7 pk13 n) x1 x2 x3 x4 x5 x6 M)))))))))))
theorem T_12_laysSlips_70 {g : Gl} (k7 : Int32 → Mem → Mem) (k13 : Int32 → Int32 → Mem → Mem) (pk7 : Int32 → Mem → Prop) (pk13 : Int32 → Int32 → Mem → Prop) (ih7 : ∀ (x1 : Int32) (M : Mem), pk7 x1 M → Rn g 1 m12_laysSlips 7 [some (.ref 0), some (.int x1), none, none, none, none, none, none, none] [] M (none) ((k7 x1 M))) (ih13 : ∀ (x1 : Int32) (x2 : Int32) (M : Mem), pk13 x1 x2 M → Rn g 1 m12_laysSlips 13 [some (.ref 0), some (.int x1), some (.int x2), none, none, none, none, none, none] [] M (none) ((k13 x1 x2 M))) : ∀ (n : Nat) (x1 : Int32) (x2 : Int32) (x3 : Int32) (x4 : Int32) (x5 : Int32) (x6 : Int32) (M : Mem) (hp : P_12_laysSlips_70 pk7 pk13 n x1 x2 x3 x4 x5 x6 M), Rn g 1 m12_laysSlips 70 [some (.ref 0), some (.int x1), some (.int x2), some (.int x3), some (.int x4), some (.int x5), some (.int x6), none, none] [] M (none) ((F_12_laysSlips_70 k7 k13 n x1 x2 x3 x4 x5 x6 M)) := by
  intro n
  induction n with
  | zero => intro x1 x2 x3 x4 x5 x6 M hp; exact hp.elim
  | succ n ih =>
    intro x1 x2 x3 x4 x5 x6 M hp
    rw [F_12_laysSlips_70]
    rw [P_12_laysSlips_70] at hp
    refine b12_laysSlips_70 (vpl (by decide)) (fun h => ?_) (fun h => ?_)
    · rw [if_pos h]
      have hp := hp.1 h
      exact T_12_laysSlips_205 k7 k13 pk7 pk13 ih7 ih13 x1 x2 x3 x4 x5 M hp
    · rw [if_neg h]
      have hp := hp.2 h
      refine b12_laysSlips_81  (fun h => ?_) (fun h => ?_)
      · rw [if_pos h]
        have hp := hp.1 h
        exact T_12_laysSlips_205 k7 k13 pk7 pk13 ih7 ih13 x1 x2 x3 x4 x5 M hp
      · rw [if_neg h]
        have hp := hp.2 h
        obtain ⟨p0, hp⟩ := hp
        refine b12_laysSlips_91 p0 (vpl (by decide)) (fun h => ?_) (fun h => ?_)
        · rw [if_neg h]
          have hp := hp.1 h
          exact T_12_laysSlips_199 k7 k13 (F_12_laysSlips_70 k7 k13 n) pk7 pk13 (P_12_laysSlips_70 pk7 pk13 n) ih7 ih13 ih x1 x2 x3 x4 x5 x6 M hp
        · rw [if_pos h]
          have hp := hp.2 h
          obtain ⟨hc, hp⟩ := hp
          refine b12_laysSlips_104  (C_12_isBarred x6 M hc) (Nat.le_of_ble_eq_true rfl) ?_
          refine b12_laysSlips_113  (fun h => ?_) (fun h => ?_)
          · rw [if_pos h]
            have hp := hp.1 h
            obtain ⟨p1, p2, p3, hp⟩ := hp
            refine b12_laysSlips_119 p1 (vpl (by decide)) p2 p3 (fun h => ?_) (fun h => ?_)
            · rw [if_pos h]
              have hp := hp.1 h
              refine b12_laysSlips_163  (fun h => ?_) (fun h => ?_)
              · rw [if_neg h]
                have hp := hp.1 h
                refine b12_laysSlips_188  ?_
                exact T_12_laysSlips_190 k7 k13 (F_12_laysSlips_70 k7 k13 n) pk7 pk13 (P_12_laysSlips_70 pk7 pk13 n) ih7 ih13 ih x1 x2 x3 x5 x6 (rd M (507 + (x1 + 1).toNatClampNeg) ((rd M (54 + x6.toNatClampNeg) ((1 : Int32).toNatClampNeg)).toNatClampNeg)) x4 M hp
              · rw [if_pos h]
                have hp := hp.2 h
                obtain ⟨p4, p5, hp⟩ := hp
                refine b12_laysSlips_169 p4 p5 (C_12_more x4 (rd M (520 + (x1 + 1).toNatClampNeg) (rd M (54 + x6.toNatClampNeg) ((1 : Int32).toNatClampNeg)).toNatClampNeg) M) (Nat.le_of_ble_eq_true rfl) ?_
                refine b12_laysSlips_185  ?_
                exact T_12_laysSlips_190 k7 k13 (F_12_laysSlips_70 k7 k13 n) pk7 pk13 (P_12_laysSlips_70 pk7 pk13 n) ih7 ih13 ih x1 x2 x3 x5 x6 (rd M (507 + (x1 + 1).toNatClampNeg) ((rd M (54 + x6.toNatClampNeg) ((1 : Int32).toNatClampNeg)).toNatClampNeg)) (F_12_more_0 M x4 (rd M (520 + (x1 + 1).toNatClampNeg) (rd M (54 + x6.toNatClampNeg) ((1 : Int32).toNatClampNeg)).toNatClampNeg)) M hp
            · rw [if_neg h]
              have hp := hp.2 h
              obtain ⟨p6, p7, hp⟩ := hp
              refine b12_laysSlips_149 p6 p7 ?_
              exact T_12_laysSlips_190 k7 k13 (F_12_laysSlips_70 k7 k13 n) pk7 pk13 (P_12_laysSlips_70 pk7 pk13 n) ih7 ih13 ih x1 x2 x3 x5 x6 (rd M (507 + (x1 + 1).toNatClampNeg) ((rd M (54 + x6.toNatClampNeg) ((1 : Int32).toNatClampNeg)).toNatClampNeg)) (rd M (520 + (x1 + 1).toNatClampNeg) (rd M (54 + x6.toNatClampNeg) ((1 : Int32).toNatClampNeg)).toNatClampNeg) M hp
          · rw [if_neg h]
            have hp := hp.2 h
            refine b12_laysSlips_116  ?_
            exact T_12_laysSlips_199 k7 k13 (F_12_laysSlips_70 k7 k13 n) pk7 pk13 (P_12_laysSlips_70 pk7 pk13 n) ih7 ih13 ih x1 x2 x3 x4 x5 x6 M hp
def F_12_laysSlips_65 (k7 : Int32 → Mem → Mem) (k13 : Int32 → Int32 → Mem → Mem) (x1 : Int32) (x2 : Int32) (x3 : Int32) (x4 : Int32) (xs0 : Int32) (M : Mem) : Mem := F_12_laysSlips_70 k7 k13 FU x1 x2 x3 x4 xs0 0 M
def P_12_laysSlips_65 (pk7 : Int32 → Mem → Prop) (pk13 : Int32 → Int32 → Mem → Prop) (x1 : Int32) (x2 : Int32) (x3 : Int32) (x4 : Int32) (xs0 : Int32) (M : Mem) : Prop := (P_12_laysSlips_70 pk7 pk13 FU x1 x2 x3 x4 xs0 0 M)
theorem T_12_laysSlips_65 {g : Gl} (k7 : Int32 → Mem → Mem) (k13 : Int32 → Int32 → Mem → Mem) (pk7 : Int32 → Mem → Prop) (pk13 : Int32 → Int32 → Mem → Prop) (ih7 : ∀ (x1 : Int32) (M : Mem), pk7 x1 M → Rn g 1 m12_laysSlips 7 [some (.ref 0), some (.int x1), none, none, none, none, none, none, none] [] M (none) ((k7 x1 M))) (ih13 : ∀ (x1 : Int32) (x2 : Int32) (M : Mem), pk13 x1 x2 M → Rn g 1 m12_laysSlips 13 [some (.ref 0), some (.int x1), some (.int x2), none, none, none, none, none, none] [] M (none) ((k13 x1 x2 M))) (x1 : Int32) (x2 : Int32) (x3 : Int32) (x4 : Int32) (xs0 : Int32) (M : Mem) (hp : P_12_laysSlips_65 pk7 pk13 x1 x2 x3 x4 xs0 M) : Rn g 1 m12_laysSlips 65 [some (.ref 0), some (.int x1), some (.int x2), some (.int x3), some (.int x4), none, none, none, none] [.int xs0] M (none) ((F_12_laysSlips_65 k7 k13 x1 x2 x3 x4 xs0 M)) := by
  rw [F_12_laysSlips_65]
  rw [P_12_laysSlips_65] at hp
  refine b12_laysSlips_65  ?_
  exact T_12_laysSlips_70 k7 k13 pk7 pk13 ih7 ih13 FU x1 x2 x3 x4 xs0 0 M hp
def F_12_laysSlips_40 (k7 : Int32 → Mem → Mem) (k13 : Int32 → Int32 → Mem → Mem) (x1 : Int32) (x2 : Int32) (xs0 : Int32) (M : Mem) : Mem := if (rd M 6 x2.toNatClampNeg) = (rd M 17 x1.toNatClampNeg) then (F_12_laysSlips_65 k7 k13 x1 x2 xs0 12 0 M) else (F_12_laysSlips_65 k7 k13 x1 x2 xs0 12 1 M)
def P_12_laysSlips_40 (pk7 : Int32 → Mem → Prop) (pk13 : Int32 → Int32 → Mem → Prop) (x1 : Int32) (x2 : Int32) (xs0 : Int32) (M : Mem) : Prop := (vp_in x2 10) ∧ (vp_in x1 12) ∧ ((¬ (rd M 6 x2.toNatClampNeg) = (rd M 17 x1.toNatClampNeg) → (P_12_laysSlips_65 pk7 pk13 x1 x2 xs0 12 1 M)) ∧ ((rd M 6 x2.toNatClampNeg) = (rd M 17 x1.toNatClampNeg) → (P_12_laysSlips_65 pk7 pk13 x1 x2 xs0 12 0 M)))
theorem T_12_laysSlips_40 {g : Gl} (k7 : Int32 → Mem → Mem) (k13 : Int32 → Int32 → Mem → Mem) (pk7 : Int32 → Mem → Prop) (pk13 : Int32 → Int32 → Mem → Prop) (ih7 : ∀ (x1 : Int32) (M : Mem), pk7 x1 M → Rn g 1 m12_laysSlips 7 [some (.ref 0), some (.int x1), none, none, none, none, none, none, none] [] M (none) ((k7 x1 M))) (ih13 : ∀ (x1 : Int32) (x2 : Int32) (M : Mem), pk13 x1 x2 M → Rn g 1 m12_laysSlips 13 [some (.ref 0), some (.int x1), some (.int x2), none, none, none, none, none, none] [] M (none) ((k13 x1 x2 M))) (x1 : Int32) (x2 : Int32) (xs0 : Int32) (M : Mem) (hp : P_12_laysSlips_40 pk7 pk13 x1 x2 xs0 M) : Rn g 1 m12_laysSlips 40 [some (.ref 0), some (.int x1), some (.int x2), none, none, none, none, none, none] [.int xs0] M (none) ((F_12_laysSlips_40 k7 k13 x1 x2 xs0 M)) := by
  rw [F_12_laysSlips_40]
  rw [P_12_laysSlips_40] at hp
  obtain ⟨p0, p1, hp⟩ := hp
  refine b12_laysSlips_40 p0 p1 (fun h => ?_) (fun h => ?_)
  · rw [if_neg h]
    have hp := hp.1 h
    refine b12_laysSlips_64  ?_
    exact T_12_laysSlips_65 k7 k13 pk7 pk13 ih7 ih13 x1 x2 xs0 12 1 M hp
  · rw [if_pos h]
    have hp := hp.2 h
    refine b12_laysSlips_60  ?_
    exact T_12_laysSlips_65 k7 k13 pk7 pk13 ih7 ih13 x1 x2 xs0 12 0 M hp
def F_12_laysSlips_13 (k7 : Int32 → Mem → Mem) : Nat → Int32 → Int32 → Mem → Mem
  | 0, _, _, M => M
  | n + 1, x1, x2, M => if (rd M 4 ((0 : Int32).toNatClampNeg)) ≤ x2 then (k7 (x1 + (-1)) M) else (if x1 = ((rd M 0 35) - 1) then (F_12_laysSlips_40 k7 (F_12_laysSlips_13 k7 n) x1 x2 0 M) else (F_12_laysSlips_40 k7 (F_12_laysSlips_13 k7 n) x1 x2 999 M))
def P_12_laysSlips_13 (pk7 : Int32 → Mem → Prop) : Nat → Int32 → Int32 → Mem → Prop
  | 0, _, _, _ => False
  | n + 1, x1, x2, M => (((rd M 4 ((0 : Int32).toNatClampNeg)) ≤ x2 → (pk7 (x1 + (-1)) M)) ∧ (¬ (rd M 4 ((0 : Int32).toNatClampNeg)) ≤ x2 → ((¬ x1 = ((rd M 0 35) - 1) → (P_12_laysSlips_40 pk7 (P_12_laysSlips_13 pk7 n) x1 x2 999 M)) ∧ (x1 = ((rd M 0 35) - 1) → (P_12_laysSlips_40 pk7 (P_12_laysSlips_13 pk7 n) x1 x2 0 M)))))
theorem T_12_laysSlips_13 {g : Gl} (k7 : Int32 → Mem → Mem) (pk7 : Int32 → Mem → Prop) (ih7 : ∀ (x1 : Int32) (M : Mem), pk7 x1 M → Rn g 1 m12_laysSlips 7 [some (.ref 0), some (.int x1), none, none, none, none, none, none, none] [] M (none) ((k7 x1 M))) : ∀ (n : Nat) (x1 : Int32) (x2 : Int32) (M : Mem) (hp : P_12_laysSlips_13 pk7 n x1 x2 M), Rn g 1 m12_laysSlips 13 [some (.ref 0), some (.int x1), some (.int x2), none, none, none, none, none, none] [] M (none) ((F_12_laysSlips_13 k7 n x1 x2 M)) := by
  intro n
  induction n with
  | zero => intro x1 x2 M hp; exact hp.elim
  | succ n ih =>
    intro x1 x2 M hp
    rw [F_12_laysSlips_13]
    rw [P_12_laysSlips_13] at hp
    refine b12_laysSlips_13 (vpl (by decide)) (fun h => ?_) (fun h => ?_)
    · rw [if_pos h]
      have hp := hp.1 h
      refine b12_laysSlips_243  ?_
      exact ih7 (x1 + (-1)) M hp
    · rw [if_neg h]
      have hp := hp.2 h
      refine b12_laysSlips_23  (fun h => ?_) (fun h => ?_)
      · rw [if_neg h]
        have hp := hp.1 h
        refine b12_laysSlips_37  ?_
        exact T_12_laysSlips_40 k7 (F_12_laysSlips_13 k7 n) pk7 (P_12_laysSlips_13 pk7 n) ih7 ih x1 x2 999 M hp
      · rw [if_pos h]
        have hp := hp.2 h
        refine b12_laysSlips_33  ?_
        exact T_12_laysSlips_40 k7 (F_12_laysSlips_13 k7 n) pk7 (P_12_laysSlips_13 pk7 n) ih7 ih x1 x2 0 M hp
def F_12_laysSlips_7  : Nat → Int32 → Mem → Mem
  | 0, _, M => M
  | n + 1, x1, M => if x1 < 0 then (M) else (F_12_laysSlips_13 (F_12_laysSlips_7 n) FU x1 0 M)
def P_12_laysSlips_7  : Nat → Int32 → Mem → Prop
  | 0, _, _ => False
  | n + 1, x1, M => ((x1 < 0 → True) ∧ (¬ x1 < 0 → (P_12_laysSlips_13 (P_12_laysSlips_7 n) FU x1 0 M)))
theorem T_12_laysSlips_7 {g : Gl} : ∀ (n : Nat) (x1 : Int32) (M : Mem) (hp : P_12_laysSlips_7 n x1 M), Rn g 1 m12_laysSlips 7 [some (.ref 0), some (.int x1), none, none, none, none, none, none, none] [] M (none) ((F_12_laysSlips_7 n x1 M)) := by
  intro n
  induction n with
  | zero => intro x1 M hp; exact hp.elim
  | succ n ih =>
    intro x1 M hp
    rw [F_12_laysSlips_7]
    rw [P_12_laysSlips_7] at hp
    refine b12_laysSlips_7  (fun h => ?_) (fun h => ?_)
    · rw [if_pos h]
      exact b12_laysSlips_249  rfl rfl
    · rw [if_neg h]
      have hp := hp.2 h
      refine b12_laysSlips_11  ?_
      exact T_12_laysSlips_13 (F_12_laysSlips_7 n) (P_12_laysSlips_7 n) ih FU x1 0 M hp
def F_12_laysSlips_0 (M : Mem) : Mem := F_12_laysSlips_7 FU ((rd M 0 35) - 1) M
def P_12_laysSlips_0 (M : Mem) : Prop := (P_12_laysSlips_7 FU ((rd M 0 35) - 1) M)
theorem T_12_laysSlips_0 {g : Gl} (M : Mem) (hp : P_12_laysSlips_0 M) : Rn g 1 m12_laysSlips 0 [some (.ref 0), none, none, none, none, none, none, none, none] [] M (none) ((F_12_laysSlips_0 M)) := by
  rw [F_12_laysSlips_0]
  rw [P_12_laysSlips_0] at hp
  refine b12_laysSlips_0  ?_
  exact T_12_laysSlips_7 FU ((rd M 0 35) - 1) M hp
theorem C_12_laysSlips {g : Gl}   (M : Mem) (hp : P_12_laysSlips_0 M) : Ms g 1 m12_laysSlips [.ref 0] M (none) ((F_12_laysSlips_0 M)) := Ms.of okM_m12_laysSlips (Nat.le_of_ble_eq_true rfl) (R_wk (lc rfl (ln (ln (ln (ln (ln (ln (ln (ln l0))))))))) (T_12_laysSlips_0 M hp))
def F_12_slips_123 (k60 : Int32 → Int32 → Int32 → Int32 → Mem → Int32 × Mem) (x1 : Int32) (x2 : Int32) (x4 : Int32) (x5 : Int32) (xs0 : Int32) (M : Mem) : Int32 × Mem := k60 x1 (F_12_less_0 M x2 x5) xs0 (x4 + 1) M
def P_12_slips_123 (pk60 : Int32 → Int32 → Int32 → Int32 → Mem → Prop) (x1 : Int32) (x2 : Int32) (x4 : Int32) (x5 : Int32) (xs0 : Int32) (M : Mem) : Prop := (((pk60 x1 (F_12_less_0 M x2 x5) xs0 (x4 + 1) M)))
theorem T_12_slips_123 {g : Gl} (k60 : Int32 → Int32 → Int32 → Int32 → Mem → Int32 × Mem) (pk60 : Int32 → Int32 → Int32 → Int32 → Mem → Prop) (ih60 : ∀ (x1 : Int32) (x2 : Int32) (x3 : Int32) (x4 : Int32) (M : Mem), pk60 x1 x2 x3 x4 M → Rn g 2 m12_slips 60 [some (.ref 0), some (.int x1), some (.int x2), some (.int x3), some (.int x4), none] [] M (some (.int (k60 x1 x2 x3 x4 M).1)) ((k60 x1 x2 x3 x4 M).2)) (x1 : Int32) (x2 : Int32) (x4 : Int32) (x5 : Int32) (xs0 : Int32) (M : Mem) (hp : P_12_slips_123 pk60 x1 x2 x4 x5 xs0 M) : Rn g 2 m12_slips 123 [some (.ref 0), some (.int x1), some (.int x2), none, some (.int x4), some (.int x5)] [.int xs0] M (some (.int (F_12_slips_123 k60 x1 x2 x4 x5 xs0 M).1)) ((F_12_slips_123 k60 x1 x2 x4 x5 xs0 M).2) := by
  rw [F_12_slips_123]
  rw [P_12_slips_123] at hp
  refine b12_slips_123  (C_12_less x2 x5 M) (Nat.le_of_ble_eq_true rfl) ?_
  refine b12_slips_130  ?_
  exact ih60 x1 (F_12_less_0 M x2 x5) xs0 (x4 + 1) M hp
def F_12_slips_60  : Nat → Int32 → Int32 → Int32 → Int32 → Mem → Int32 × Mem
  | 0, _, _, _, _, M => (0, M)
  | n + 1, x1, x2, x3, x4, M => if (rd M 4 ((0 : Int32).toNatClampNeg)) ≤ x4 then (if x2 < 999 then (if x1 = 0 then ((x2, M)) else (if x2 = 0 then (((-1), M)) else ((x3, M)))) else (((-1), M))) else (if x2 ≤ (rd M (507 + (0 : Int32).toNatClampNeg) x4.toNatClampNeg) then (if (rd M (507 + (0 : Int32).toNatClampNeg) x4.toNatClampNeg) = x2 then (F_12_slips_123 (F_12_slips_60 n) x1 x2 x4 (rd M (507 + (0 : Int32).toNatClampNeg) x4.toNatClampNeg) (F_12_more_0 M x3 (rd M (520 + (0 : Int32).toNatClampNeg) x4.toNatClampNeg)) M) else (F_12_slips_123 (F_12_slips_60 n) x1 x2 x4 (rd M (507 + (0 : Int32).toNatClampNeg) x4.toNatClampNeg) x3 M)) else (F_12_slips_123 (F_12_slips_60 n) x1 x2 x4 (rd M (507 + (0 : Int32).toNatClampNeg) x4.toNatClampNeg) (rd M (520 + (0 : Int32).toNatClampNeg) x4.toNatClampNeg) M))
def P_12_slips_60  : Nat → Int32 → Int32 → Int32 → Int32 → Mem → Prop
  | 0, _, _, _, _, _ => False
  | n + 1, x1, x2, x3, x4, M => (((rd M 4 ((0 : Int32).toNatClampNeg)) ≤ x4 → True) ∧ (¬ (rd M 4 ((0 : Int32).toNatClampNeg)) ≤ x4 → (vp_in x4 10) ∧ ((x2 ≤ (rd M (507 + (0 : Int32).toNatClampNeg) x4.toNatClampNeg) → ((¬ (rd M (507 + (0 : Int32).toNatClampNeg) x4.toNatClampNeg) = x2 → (P_12_slips_123 (P_12_slips_60 n) x1 x2 x4 (rd M (507 + (0 : Int32).toNatClampNeg) x4.toNatClampNeg) x3 M)) ∧ ((rd M (507 + (0 : Int32).toNatClampNeg) x4.toNatClampNeg) = x2 → (vp_in x4 10) ∧ (((P_12_slips_123 (P_12_slips_60 n) x1 x2 x4 (rd M (507 + (0 : Int32).toNatClampNeg) x4.toNatClampNeg) (F_12_more_0 M x3 (rd M (520 + (0 : Int32).toNatClampNeg) x4.toNatClampNeg)) M)))))) ∧ (¬ x2 ≤ (rd M (507 + (0 : Int32).toNatClampNeg) x4.toNatClampNeg) → (vp_in x4 10) ∧ (P_12_slips_123 (P_12_slips_60 n) x1 x2 x4 (rd M (507 + (0 : Int32).toNatClampNeg) x4.toNatClampNeg) (rd M (520 + (0 : Int32).toNatClampNeg) x4.toNatClampNeg) M)))))
theorem T_12_slips_60 {g : Gl} : ∀ (n : Nat) (x1 : Int32) (x2 : Int32) (x3 : Int32) (x4 : Int32) (M : Mem) (hp : P_12_slips_60 n x1 x2 x3 x4 M), Rn g 2 m12_slips 60 [some (.ref 0), some (.int x1), some (.int x2), some (.int x3), some (.int x4), none] [] M (some (.int (F_12_slips_60 n x1 x2 x3 x4 M).1)) ((F_12_slips_60 n x1 x2 x3 x4 M).2) := by
  intro n
  induction n with
  | zero => intro x1 x2 x3 x4 M hp; exact hp.elim
  | succ n ih =>
    intro x1 x2 x3 x4 M hp
    rw [F_12_slips_60]
    rw [P_12_slips_60] at hp
    refine b12_slips_60 (vpl (by decide)) (fun h => ?_) (fun h => ?_)
    · rw [if_pos h]
      refine b12_slips_137  (fun h => ?_) (fun h => ?_)
      · rw [if_pos h]
        refine b12_slips_146  (fun h => ?_) (fun h => ?_)
        · rw [if_neg h]
          refine b12_slips_154  (fun h => ?_) (fun h => ?_)
          · rw [if_neg h]
            refine b12_slips_162  ?_
            exact b12_slips_163  rfl rfl
          · rw [if_pos h]
            refine b12_slips_158  ?_
            exact b12_slips_163  rfl rfl
        · rw [if_pos h]
          refine b12_slips_150  ?_
          exact b12_slips_163  rfl rfl
      · rw [if_neg h]
        exact b12_slips_144  rfl rfl
    · rw [if_neg h]
      have hp := hp.2 h
      obtain ⟨p0, hp⟩ := hp
      refine b12_slips_71 (vpl (by decide)) p0 (fun h => ?_) (fun h => ?_)
      · rw [if_pos h]
        have hp := hp.1 h
        refine b12_slips_100  (fun h => ?_) (fun h => ?_)
        · rw [if_neg h]
          have hp := hp.1 h
          refine b12_slips_122  ?_
          exact T_12_slips_123 (F_12_slips_60 n) (P_12_slips_60 n) ih x1 x2 x4 (rd M (507 + (0 : Int32).toNatClampNeg) x4.toNatClampNeg) x3 M hp
        · rw [if_pos h]
          have hp := hp.2 h
          obtain ⟨p1, hp⟩ := hp
          refine b12_slips_106 (vpl (by decide)) p1 (C_12_more x3 (rd M (520 + (0 : Int32).toNatClampNeg) x4.toNatClampNeg) M) (Nat.le_of_ble_eq_true rfl) ?_
          refine b12_slips_119  ?_
          exact T_12_slips_123 (F_12_slips_60 n) (P_12_slips_60 n) ih x1 x2 x4 (rd M (507 + (0 : Int32).toNatClampNeg) x4.toNatClampNeg) (F_12_more_0 M x3 (rd M (520 + (0 : Int32).toNatClampNeg) x4.toNatClampNeg)) M hp
      · rw [if_neg h]
        have hp := hp.2 h
        obtain ⟨p2, hp⟩ := hp
        refine b12_slips_88 (vpl (by decide)) p2 ?_
        exact T_12_slips_123 (F_12_slips_60 n) (P_12_slips_60 n) ih x1 x2 x4 (rd M (507 + (0 : Int32).toNatClampNeg) x4.toNatClampNeg) (rd M (520 + (0 : Int32).toNatClampNeg) x4.toNatClampNeg) M hp
def F_12_slips_51 (x1 : Int32) (M : Mem) : Int32 × Mem := F_12_slips_60 FU x1 999 (-1) 0 M
def P_12_slips_51 (x1 : Int32) (M : Mem) : Prop := (P_12_slips_60 FU x1 999 (-1) 0 M)
theorem T_12_slips_51 {g : Gl} (x1 : Int32) (M : Mem) (hp : P_12_slips_51 x1 M) : Rn g 2 m12_slips 51 [some (.ref 0), some (.int x1), none, none, none, none] [] M (some (.int (F_12_slips_51 x1 M).1)) ((F_12_slips_51 x1 M).2) := by
  rw [F_12_slips_51]
  rw [P_12_slips_51] at hp
  refine b12_slips_51  ?_
  exact T_12_slips_60 FU x1 999 (-1) 0 M hp
def F_12_slips_25 (x1 : Int32) (xs0 : Int32) (M : Mem) : Int32 × Mem := if xs0 = 0 then (if (rd M 0 35) = 0 then (if x1 = 0 then ((0, M)) else (((-1), M))) else (F_12_slips_51 x1 (F_12_laysSlips_0 M))) else ((0, M))
def P_12_slips_25 (x1 : Int32) (xs0 : Int32) (M : Mem) : Prop := ((xs0 = 0 → ((¬ (rd M 0 35) = 0 → ((P_12_laysSlips_0 M) ∧ (P_12_slips_51 x1 (F_12_laysSlips_0 M)))) ∧ ((rd M 0 35) = 0 → True))) ∧ (¬ xs0 = 0 → True))
theorem T_12_slips_25 {g : Gl} (x1 : Int32) (xs0 : Int32) (M : Mem) (hp : P_12_slips_25 x1 xs0 M) : Rn g 2 m12_slips 25 [some (.ref 0), some (.int x1), none, none, none, none] [.int xs0] M (some (.int (F_12_slips_25 x1 xs0 M).1)) ((F_12_slips_25 x1 xs0 M).2) := by
  rw [F_12_slips_25]
  rw [P_12_slips_25] at hp
  refine b12_slips_25  (fun h => ?_) (fun h => ?_)
  · rw [if_pos h]
    have hp := hp.1 h
    refine b12_slips_30  (fun h => ?_) (fun h => ?_)
    · rw [if_neg h]
      have hp := hp.1 h
      obtain ⟨hc, hp⟩ := hp
      refine b12_slips_47  (C_12_laysSlips  M hc) (Nat.le_of_ble_eq_true rfl) ?_
      exact T_12_slips_51 x1 (F_12_laysSlips_0 M) hp
    · rw [if_pos h]
      refine b12_slips_37  (fun h => ?_) (fun h => ?_)
      · rw [if_neg h]
        refine b12_slips_45  ?_
        exact b12_slips_46  rfl rfl
      · rw [if_pos h]
        refine b12_slips_41  ?_
        exact b12_slips_46  rfl rfl
  · rw [if_neg h]
    exact b12_slips_28  rfl rfl
def F_12_slips_20 (x1 : Int32) (xs0 : Int32) (M : Mem) : Int32 × Mem := F_12_slips_25 x1 ((F_12_bad_0 xs0 1 1 M).1) ((F_12_bad_0 xs0 1 1 M).2)
def P_12_slips_20 (x1 : Int32) (xs0 : Int32) (M : Mem) : Prop := ((P_12_bad_0 xs0 1 1 M) ∧ (P_12_slips_25 x1 ((F_12_bad_0 xs0 1 1 M).1) ((F_12_bad_0 xs0 1 1 M).2)))
theorem T_12_slips_20 {g : Gl} (x1 : Int32) (xs0 : Int32) (M : Mem) (hp : P_12_slips_20 x1 xs0 M) : Rn g 2 m12_slips 20 [some (.ref 0), some (.int x1), none, none, none, none] [.int xs0, .ref 0] M (some (.int (F_12_slips_20 x1 xs0 M).1)) ((F_12_slips_20 x1 xs0 M).2) := by
  rw [F_12_slips_20]
  rw [P_12_slips_20] at hp
  obtain ⟨hc, hp⟩ := hp
  refine b12_slips_20  (C_12_bad xs0 1 1 M hc) (Nat.le_of_ble_eq_true rfl) ?_
  exact T_12_slips_25 x1 ((F_12_bad_0 xs0 1 1 M).1) ((F_12_bad_0 xs0 1 1 M).2) hp
def F_12_slips_0 (x1 : Int32) (M : Mem) : Int32 × Mem := if (F_12_in_0 (wr M 0 0 0) x1 0 1) = 0 then (F_12_slips_20 x1 1 (wr M 0 0 0)) else (F_12_slips_20 x1 0 (wr M 0 0 0))
def P_12_slips_0 (x1 : Int32) (M : Mem) : Prop := ((((¬ (F_12_in_0 (wr M 0 0 0) x1 0 1) = 0 → (P_12_slips_20 x1 0 (wr M 0 0 0))) ∧ ((F_12_in_0 (wr M 0 0 0) x1 0 1) = 0 → (P_12_slips_20 x1 1 (wr M 0 0 0))))))
theorem T_12_slips_0 {g : Gl} (x1 : Int32) (M : Mem) (hp : P_12_slips_0 x1 M) : Rn g 2 m12_slips 0 [some (.ref 0), some (.int x1), none, none, none, none] [] M (some (.int (F_12_slips_0 x1 M).1)) ((F_12_slips_0 x1 M).2) := by
  rw [F_12_slips_0]
  rw [P_12_slips_0] at hp
  refine b12_slips_0  (C_12_in x1 0 1 (wr M 0 0 0)) (Nat.le_of_ble_eq_true rfl) ?_
  refine b12_slips_12  (fun h => ?_) (fun h => ?_)
  · rw [if_neg h]
    have hp := hp.1 h
    refine b12_slips_19  ?_
    exact T_12_slips_20 x1 0 (wr M 0 0 0) hp
  · rw [if_pos h]
    have hp := hp.2 h
    refine b12_slips_15  ?_
    exact T_12_slips_20 x1 1 (wr M 0 0 0) hp
theorem C_12_slips {g : Gl}  (x1 : Int32) (M : Mem) (hp : P_12_slips_0 x1 M) : Ms g 2 m12_slips [.ref 0, .int x1] M (some (.int (F_12_slips_0 x1 M).1)) ((F_12_slips_0 x1 M).2) := Ms.of okM_m12_slips (Nat.le_of_ble_eq_true rfl) (R_wk (lc rfl (lc rfl (ln (ln (ln (ln l0)))))) (T_12_slips_0 x1 M hp))
