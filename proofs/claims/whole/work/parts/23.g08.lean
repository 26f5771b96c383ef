def F_11_loop_12 (x1 : Int32) (M : Mem) : Oc := if (F_0_fewestDoors_0 M (F_0_oneAhead_0 M ((1 : Int32) <<< (x1 &&& 31))) ((1 : Int32) <<< (x1 &&& 31))) = (-1) then (.inl (some (.int (-1)), M)) else (.inl (some (.int ((F_0_fewestDoors_0 M (F_0_oneAhead_0 M ((1 : Int32) <<< (x1 &&& 31))) ((1 : Int32) <<< (x1 &&& 31))) + 1)), M))
def P_11_loop_12 (x1 : Int32) (M : Mem) : Prop := ((P_0_oneAhead_0 M ((1 : Int32) <<< (x1 &&& 31))) ∧ (((P_0_fewestDoors_0 M (F_0_oneAhead_0 M ((1 : Int32) <<< (x1 &&& 31))) ((1 : Int32) <<< (x1 &&& 31))))))
theorem T_11_loop_12 {g : Gl} (x1 : Int32) (M : Mem) (hp : P_11_loop_12 x1 M) : Rc g 7 0 m11_loop 12 [some (.ref 1558), some (.int x1), none] [] M ((F_11_loop_12 x1 M)) := by
  rw [F_11_loop_12]
  rw [P_11_loop_12] at hp
  obtain ⟨hc, hp⟩ := hp
  refine b11_loop_12  (C_0_oneAhead ((1 : Int32) <<< (x1 &&& 31)) M hc) (Nat.le_of_ble_eq_true rfl) ?_
  have hc := hp
  refine b11_loop_26  (C_0_fewestDoors (F_0_oneAhead_0 M ((1 : Int32) <<< (x1 &&& 31))) ((1 : Int32) <<< (x1 &&& 31)) M hc) (Nat.le_of_ble_eq_true rfl) ?_
  refine b11_loop_32  (fun h => ?_) (fun h => ?_)
  · rw [if_neg h]
    refine b11_loop_42  ?_
    exact b11_loop_45  rfl
  · rw [if_pos h]
    refine b11_loop_38  ?_
    exact b11_loop_45  rfl
def F_11_loop_0 (x1 : Int32) (M : Mem) : Oc := if 0 ≤ x1 ∧ x1 < rd M 1561 0 then (F_11_loop_12 x1 (F_0_renew_0 M)) else (.inr ("java/util/NoSuchElementException", wr M 1558 3 (rd M 1558 3 + 1)))
def P_11_loop_0 (x1 : Int32) (M : Mem) : Prop := ((0 ≤ x1 ∧ x1 < rd M 1561 0 → ((P_0_renew_0 M) ∧ (P_11_loop_12 x1 (F_0_renew_0 M)))))
theorem T_11_loop_0 {g : Gl} (x1 : Int32) (M : Mem) (hp : P_11_loop_0 x1 M) : Rc g 7 1 m11_loop 0 [some (.ref 1558), some (.int x1), none] [] M ((F_11_loop_0 x1 M)) := by
  rw [F_11_loop_0]
  rw [P_11_loop_0] at hp
  refine b11_loop_0  (C_needRoom x1 M) (Nat.le_of_ble_eq_true rfl) (fun h => ?_) (fun h => ?_)
  · rw [if_pos h]
    have hp := hp h
    obtain ⟨hc, hp⟩ := hp
    refine b11_loop_5  (C_0_renew  M hc) (Nat.le_of_ble_eq_true rfl) ?_
    exact R_cw (Nat.le_of_ble_eq_true rfl) (T_11_loop_12 x1 (F_0_renew_0 M) hp)
  · rw [if_neg h]
theorem C_11_loop {g : Gl} (x1 : Int32) (M : Mem) (hp : P_11_loop_0 x1 M) : MsX g 7 1 m11_loop [.ref 1558, .int x1] M (F_11_loop_0 x1 M) := MsX.of okM_m11_loop (Nat.le_of_ble_eq_true rfl) (R_wk (lc rfl (lc rfl (ln l0))) (T_11_loop_0 x1 M hp))
def F_11_closed_106 (k49 : Int32 → Int32 → Int32 → Int32 → Mem → Oc) (x2 : Int32) (x3 : Int32) (x4 : Int32) (x5 : Int32) (M : Mem) : Oc := k49 x2 x3 x4 (x5 + 1) M
def P_11_closed_106 (pk49 : Int32 → Int32 → Int32 → Int32 → Mem → Prop) (x2 : Int32) (x3 : Int32) (x4 : Int32) (x5 : Int32) (M : Mem) : Prop := (pk49 x2 x3 x4 (x5 + 1) M)
theorem T_11_closed_106 {g : Gl} (k49 : Int32 → Int32 → Int32 → Int32 → Mem → Oc) (pk49 : Int32 → Int32 → Int32 → Int32 → Mem → Prop) (ih49 : ∀ (x2 : Int32) (x3 : Int32) (x4 : Int32) (x5 : Int32) (M : Mem), pk49 x2 x3 x4 x5 M → Rc g 7 0 m11_closed 49 [some (.ref 1558), none, some (.int x2), some (.int x3), some (.int x4), some (.int x5), none] [] M ((k49 x2 x3 x4 x5 M))) (x2 : Int32) (x3 : Int32) (x4 : Int32) (x5 : Int32) (M : Mem) (hp : P_11_closed_106 pk49 x2 x3 x4 x5 M) : Rc g 7 0 m11_closed 106 [some (.ref 1558), none, some (.int x2), some (.int x3), some (.int x4), some (.int x5), none] [] M ((F_11_closed_106 k49 x2 x3 x4 x5 M)) := by
  rw [F_11_closed_106]
  rw [P_11_closed_106] at hp
  refine b11_closed_106  ?_
  exact R_cw (Nat.le_of_ble_eq_true rfl) (ih49 x2 x3 x4 (x5 + 1) M hp)
def F_11_closed_88 (k49 : Int32 → Int32 → Int32 → Int32 → Mem → Oc) (x2 : Int32) (x3 : Int32) (x4 : Int32) (x5 : Int32) (xs0 : Int32) (M : Mem) : Oc := if (xs0 &&& x3) = 0 then (F_11_closed_106 k49 x2 x3 (x4 ||| ((1 : Int32) <<< (x5 &&& 31))) x5 M) else (F_11_closed_106 k49 x2 x3 x4 x5 M)
def P_11_closed_88 (pk49 : Int32 → Int32 → Int32 → Int32 → Mem → Prop) (x2 : Int32) (x3 : Int32) (x4 : Int32) (x5 : Int32) (xs0 : Int32) (M : Mem) : Prop := ((¬ (xs0 &&& x3) = 0 → P_11_closed_106 pk49 x2 x3 x4 x5 M) ∧ ((xs0 &&& x3) = 0 → (P_11_closed_106 pk49 x2 x3 (x4 ||| ((1 : Int32) <<< (x5 &&& 31))) x5 M)))
theorem T_11_closed_88 {g : Gl} (k49 : Int32 → Int32 → Int32 → Int32 → Mem → Oc) (pk49 : Int32 → Int32 → Int32 → Int32 → Mem → Prop) (ih49 : ∀ (x2 : Int32) (x3 : Int32) (x4 : Int32) (x5 : Int32) (M : Mem), pk49 x2 x3 x4 x5 M → Rc g 7 0 m11_closed 49 [some (.ref 1558), none, some (.int x2), some (.int x3), some (.int x4), some (.int x5), none] [] M ((k49 x2 x3 x4 x5 M))) (x2 : Int32) (x3 : Int32) (x4 : Int32) (x5 : Int32) (xs0 : Int32) (M : Mem) (hp : P_11_closed_88 pk49 x2 x3 x4 x5 xs0 M) : Rc g 7 0 m11_closed 88 [some (.ref 1558), none, some (.int x2), some (.int x3), some (.int x4), some (.int x5), none] [.int xs0] M ((F_11_closed_88 k49 x2 x3 x4 x5 xs0 M)) := by
  rw [F_11_closed_88]
  rw [P_11_closed_88] at hp
  refine b11_closed_88  (fun h => ?_) (fun h => ?_)
  · rw [if_neg h]
    have hp := hp.1 h
    exact R_cw (Nat.le_of_ble_eq_true rfl) (T_11_closed_106 k49 pk49 ih49 x2 x3 x4 x5 M hp)
  · rw [if_pos h]
    have hp := hp.2 h
    refine b11_closed_97  ?_
    exact R_cw (Nat.le_of_ble_eq_true rfl) (T_11_closed_106 k49 pk49 ih49 x2 x3 (x4 ||| ((1 : Int32) <<< (x5 &&& 31))) x5 M hp)
def F_11_closed_49  : Nat → Int32 → Int32 → Int32 → Int32 → Mem → Oc
  | 0, _, _, _, _, M => .inl (none, M)
  | n + 1, x2, x3, x4, x5, M => if (rd M 1561 0) ≤ x5 then (.inl (some (.int x4), M)) else (if x2 = 0 then (F_11_closed_88 (F_11_closed_49 n) x2 x3 x4 x5 (rd M 1564 x5.toNatClampNeg) M) else (F_11_closed_88 (F_11_closed_49 n) x2 x3 x4 x5 (rd M 1565 x5.toNatClampNeg) M))
def P_11_closed_49  : Nat → Int32 → Int32 → Int32 → Int32 → Mem → Prop
  | 0, _, _, _, _, _ => False
  | n + 1, x2, x3, x4, x5, M => (((rd M 1561 0) ≤ x5 → True) ∧ (¬ (rd M 1561 0) ≤ x5 → ((¬ x2 = 0 → (vp_in x5 10) ∧ (P_11_closed_88 (P_11_closed_49 n) x2 x3 x4 x5 (rd M 1565 x5.toNatClampNeg) M)) ∧ (x2 = 0 → (vp_in x5 10) ∧ (P_11_closed_88 (P_11_closed_49 n) x2 x3 x4 x5 (rd M 1564 x5.toNatClampNeg) M)))))
theorem T_11_closed_49 {g : Gl} : ∀ (n : Nat) (x2 : Int32) (x3 : Int32) (x4 : Int32) (x5 : Int32) (M : Mem) (hp : P_11_closed_49 n x2 x3 x4 x5 M), Rc g 7 0 m11_closed 49 [some (.ref 1558), none, some (.int x2), some (.int x3), some (.int x4), some (.int x5), none] [] M ((F_11_closed_49 n x2 x3 x4 x5 M)) := by
  intro n
  induction n with
  | zero => intro x2 x3 x4 x5 M hp; exact hp.elim
  | succ n ih =>
    intro x2 x3 x4 x5 M hp
    rw [F_11_closed_49]
    rw [P_11_closed_49] at hp
    refine b11_closed_49  (fun h => ?_) (fun h => ?_)
    · rw [if_pos h]
      exact b11_closed_112  rfl
    · rw [if_neg h]
      have hp := hp.2 h
      refine b11_closed_61  (fun h => ?_) (fun h => ?_)
      · rw [if_neg h]
        have hp := hp.1 h
        obtain ⟨p0, hp⟩ := hp
        refine b11_closed_78 p0 ?_
        exact R_cw (Nat.le_of_ble_eq_true rfl) (T_11_closed_88 (F_11_closed_49 n) (P_11_closed_49 n) ih x2 x3 x4 x5 (rd M 1565 x5.toNatClampNeg) M hp)
      · rw [if_pos h]
        have hp := hp.2 h
        obtain ⟨p1, hp⟩ := hp
        refine b11_closed_65 p1 ?_
        exact R_cw (Nat.le_of_ble_eq_true rfl) (T_11_closed_88 (F_11_closed_49 n) (P_11_closed_49 n) ih x2 x3 x4 x5 (rd M 1564 x5.toNatClampNeg) M hp)
def F_11_closed_42 (x2 : Int32) (xs0 : Int32) (M : Mem) : Oc := F_11_closed_49 FU x2 xs0 0 0 M
def P_11_closed_42 (x2 : Int32) (xs0 : Int32) (M : Mem) : Prop := (P_11_closed_49 FU x2 xs0 0 0 M)
theorem T_11_closed_42 {g : Gl} (x2 : Int32) (xs0 : Int32) (M : Mem) (hp : P_11_closed_42 x2 xs0 M) : Rc g 7 0 m11_closed 42 [some (.ref 1558), none, some (.int x2), none, none, none, none] [.int xs0] M ((F_11_closed_42 x2 xs0 M)) := by
  rw [F_11_closed_42]
  rw [P_11_closed_42] at hp
  refine b11_closed_42  ?_
  exact R_cw (Nat.le_of_ble_eq_true rfl) (T_11_closed_49 FU x2 xs0 0 0 M hp)
def F_11_closed_0 (x1 : Int32) (x2 : Int32) (M : Mem) : Oc := if 0 ≤ x1 ∧ x1 ≤ 23 then (if 0 ≤ x2 ∧ x2 ≤ 1 then (F_11_closed_42 x2 ((F_1_openDoors_0 (((rd M 1622 0) - ((rd M 1622 0) - (rd M 1622 0) / 24 * 24)) + x1) M).1) ((F_1_openDoors_0 (((rd M 1622 0) - ((rd M 1622 0) - (rd M 1622 0) / 24 * 24)) + x1) M).2)) else (.inr ("java/lang/IllegalArgumentException", wr M 1558 4 (rd M 1558 4 + 1)))) else (.inr ("java/lang/IllegalArgumentException", wr M 1558 4 (rd M 1558 4 + 1)))
def P_11_closed_0 (x1 : Int32) (x2 : Int32) (M : Mem) : Prop := ((0 ≤ x1 ∧ x1 ≤ 23 → ((0 ≤ x2 ∧ x2 ≤ 1 → ((P_1_openDoors_0 (((rd M 1622 0) - ((rd M 1622 0) - (rd M 1622 0) / 24 * 24)) + x1) M) ∧ (P_11_closed_42 x2 ((F_1_openDoors_0 (((rd M 1622 0) - ((rd M 1622 0) - (rd M 1622 0) / 24 * 24)) + x1) M).1) ((F_1_openDoors_0 (((rd M 1622 0) - ((rd M 1622 0) - (rd M 1622 0) / 24 * 24)) + x1) M).2)))))))
theorem T_11_closed_0 {g : Gl} (x1 : Int32) (x2 : Int32) (M : Mem) (hp : P_11_closed_0 x1 x2 M) : Rc g 7 2 m11_closed 0 [some (.ref 1558), some (.int x1), some (.int x2), none, none, none, none] [] M ((F_11_closed_0 x1 x2 M)) := by
  rw [F_11_closed_0]
  rw [P_11_closed_0] at hp
  refine b11_closed_0  (C_needWithin x1 0 23 M) (Nat.le_of_ble_eq_true rfl) (fun h => ?_) (fun h => ?_)
  · rw [if_pos h]
    have hp := hp h
    refine b11_closed_8  (C_needWithin x2 0 1 M) (Nat.le_of_ble_eq_true rfl) (fun h => ?_) (fun h => ?_)
    · rw [if_pos h]
      have hp := hp h
      obtain ⟨hc, hp⟩ := hp
      refine b11_closed_15 (by decide) (C_1_openDoors (((rd M 1622 0) - ((rd M 1622 0) - (rd M 1622 0) / 24 * 24)) + x1) M hc) (Nat.le_of_ble_eq_true rfl) ?_
      exact R_cw (Nat.le_of_ble_eq_true rfl) (T_11_closed_42 x2 ((F_1_openDoors_0 (((rd M 1622 0) - ((rd M 1622 0) - (rd M 1622 0) / 24 * 24)) + x1) M).1) ((F_1_openDoors_0 (((rd M 1622 0) - ((rd M 1622 0) - (rd M 1622 0) / 24 * 24)) + x1) M).2) hp)
    · rw [if_neg h]
  · rw [if_neg h]
theorem C_11_closed {g : Gl} (x1 : Int32) (x2 : Int32) (M : Mem) (hp : P_11_closed_0 x1 x2 M) : MsX g 7 2 m11_closed [.ref 1558, .int x1, .int x2] M (F_11_closed_0 x1 x2 M) := MsX.of okM_m11_closed (Nat.le_of_ble_eq_true rfl) (R_wk (lc rfl (lc rfl (lc rfl (ln (ln (ln (ln l0))))))) (T_11_closed_0 x1 x2 M hp))
def F_11_crowded_56 (k14 : Int32 → Int32 → Int32 → Int32 → Mem → Oc) (x1 : Int32) (x2 : Int32) (x3 : Int32) (x4 : Int32) (M : Mem) : Oc := k14 x1 x2 x3 (x4 + 1) M
def P_11_crowded_56 (pk14 : Int32 → Int32 → Int32 → Int32 → Mem → Prop) (x1 : Int32) (x2 : Int32) (x3 : Int32) (x4 : Int32) (M : Mem) : Prop := (pk14 x1 x2 x3 (x4 + 1) M)
theorem T_11_crowded_56 {g : Gl} (k14 : Int32 → Int32 → Int32 → Int32 → Mem → Oc) (pk14 : Int32 → Int32 → Int32 → Int32 → Mem → Prop) (ih14 : ∀ (x1 : Int32) (x2 : Int32) (x3 : Int32) (x4 : Int32) (M : Mem), pk14 x1 x2 x3 x4 M → Rc g 7 0 m11_crowded 14 [some (.ref 1558), some (.int x1), some (.int x2), some (.int x3), some (.int x4), none] [] M ((k14 x1 x2 x3 x4 M))) (x1 : Int32) (x2 : Int32) (x3 : Int32) (x4 : Int32) (M : Mem) (hp : P_11_crowded_56 pk14 x1 x2 x3 x4 M) : Rc g 7 0 m11_crowded 56 [some (.ref 1558), some (.int x1), some (.int x2), some (.int x3), some (.int x4), none] [] M ((F_11_crowded_56 k14 x1 x2 x3 x4 M)) := by
  rw [F_11_crowded_56]
  rw [P_11_crowded_56] at hp
  refine b11_crowded_56  ?_
  exact R_cw (Nat.le_of_ble_eq_true rfl) (ih14 x1 x2 x3 (x4 + 1) M hp)
def F_11_crowded_14  : Nat → Int32 → Int32 → Int32 → Int32 → Mem → Oc
  | 0, _, _, _, _, M => .inl (none, M)
  | n + 1, x1, x2, x3, x4, M => if (rd M 1561 0) ≤ x4 then (if x2 = (-1) then (.inl (some (.int (-1)), M)) else (if x1 = 0 then (.inl (some (.int x2), M)) else (.inl (some (.int x3), M)))) else (if (F_7_toursIn_0 M x4 (rd M 1561 2)) ≤ x3 then (F_11_crowded_56 (F_11_crowded_14 n) x1 x2 x3 x4 M) else (F_11_crowded_56 (F_11_crowded_14 n) x1 x4 (F_7_toursIn_0 M x4 (rd M 1561 2)) x4 M))
def P_11_crowded_14  : Nat → Int32 → Int32 → Int32 → Int32 → Mem → Prop
  | 0, _, _, _, _, _ => False
  | n + 1, x1, x2, x3, x4, M => (((rd M 1561 0) ≤ x4 → True) ∧ (¬ (rd M 1561 0) ≤ x4 → ((P_7_toursIn_0 M x4 (rd M 1561 2)) ∧ ((((F_7_toursIn_0 M x4 (rd M 1561 2)) ≤ x3 → P_11_crowded_56 (P_11_crowded_14 n) x1 x2 x3 x4 M) ∧ (¬ (F_7_toursIn_0 M x4 (rd M 1561 2)) ≤ x3 → (P_11_crowded_56 (P_11_crowded_14 n) x1 x4 (F_7_toursIn_0 M x4 (rd M 1561 2)) x4 M)))))))
theorem T_11_crowded_14 {g : Gl} : ∀ (n : Nat) (x1 : Int32) (x2 : Int32) (x3 : Int32) (x4 : Int32) (M : Mem) (hp : P_11_crowded_14 n x1 x2 x3 x4 M), Rc g 7 0 m11_crowded 14 [some (.ref 1558), some (.int x1), some (.int x2), some (.int x3), some (.int x4), none] [] M ((F_11_crowded_14 n x1 x2 x3 x4 M)) := by
  intro n
  induction n with
  | zero => intro x1 x2 x3 x4 M hp; exact hp.elim
  | succ n ih =>
    intro x1 x2 x3 x4 M hp
    rw [F_11_crowded_14]
    rw [P_11_crowded_14] at hp
    refine b11_crowded_14  (fun h => ?_) (fun h => ?_)
    · rw [if_pos h]
      refine b11_crowded_62  (fun h => ?_) (fun h => ?_)
      · rw [if_neg h]
        refine b11_crowded_69  (fun h => ?_) (fun h => ?_)
        · rw [if_neg h]
          refine b11_crowded_77  ?_
          exact b11_crowded_78  rfl
        · rw [if_pos h]
          refine b11_crowded_73  ?_
          exact b11_crowded_78  rfl
      · rw [if_pos h]
        exact b11_crowded_67  rfl
    · rw [if_neg h]
      have hp := hp.2 h
      obtain ⟨hc, hp⟩ := hp
      refine b11_crowded_26  (C_7_toursIn x4 (rd M 1561 2) M hc) (Nat.le_of_ble_eq_true rfl) ?_
      refine b11_crowded_42  (fun h => ?_) (fun h => ?_)
      · rw [if_pos h]
        have hp := hp.1 h
        exact R_cw (Nat.le_of_ble_eq_true rfl) (T_11_crowded_56 (F_11_crowded_14 n) (P_11_crowded_14 n) ih x1 x2 x3 x4 M hp)
      · rw [if_neg h]
        have hp := hp.2 h
        refine b11_crowded_50  ?_
        exact R_cw (Nat.le_of_ble_eq_true rfl) (T_11_crowded_56 (F_11_crowded_14 n) (P_11_crowded_14 n) ih x1 x4 (F_7_toursIn_0 M x4 (rd M 1561 2)) x4 M hp)
def F_11_crowded_0 (x1 : Int32) (M : Mem) : Oc := if 0 ≤ x1 ∧ x1 ≤ 1 then (F_11_crowded_14 FU x1 (-1) 0 0 M) else (.inr ("java/lang/IllegalArgumentException", wr M 1558 4 (rd M 1558 4 + 1)))
def P_11_crowded_0 (x1 : Int32) (M : Mem) : Prop := ((0 ≤ x1 ∧ x1 ≤ 1 → (P_11_crowded_14 FU x1 (-1) 0 0 M)))
theorem T_11_crowded_0 {g : Gl} (x1 : Int32) (M : Mem) (hp : P_11_crowded_0 x1 M) : Rc g 7 1 m11_crowded 0 [some (.ref 1558), some (.int x1), none, none, none, none] [] M ((F_11_crowded_0 x1 M)) := by
  rw [F_11_crowded_0]
  rw [P_11_crowded_0] at hp
  refine b11_crowded_0  (C_needWithin x1 0 1 M) (Nat.le_of_ble_eq_true rfl) (fun h => ?_) (fun h => ?_)
  · rw [if_pos h]
    have hp := hp h
    refine b11_crowded_7  ?_
    exact R_cw (Nat.le_of_ble_eq_true rfl) (T_11_crowded_14 FU x1 (-1) 0 0 M hp)
  · rw [if_neg h]
theorem C_11_crowded {g : Gl} (x1 : Int32) (M : Mem) (hp : P_11_crowded_0 x1 M) : MsX g 7 1 m11_crowded [.ref 1558, .int x1] M (F_11_crowded_0 x1 M) := MsX.of okM_m11_crowded (Nat.le_of_ble_eq_true rfl) (R_wk (lc rfl (lc rfl (ln (ln (ln (ln l0)))))) (T_11_crowded_0 x1 M hp))
def F_11_worn_54 (k14 : Int32 → Int32 → Int32 → Int32 → Mem → Oc) (x1 : Int32) (x2 : Int32) (x3 : Int32) (x4 : Int32) (M : Mem) : Oc := k14 x1 x2 x3 (x4 + 1) M
def P_11_worn_54 (pk14 : Int32 → Int32 → Int32 → Int32 → Mem → Prop) (x1 : Int32) (x2 : Int32) (x3 : Int32) (x4 : Int32) (M : Mem) : Prop := (pk14 x1 x2 x3 (x4 + 1) M)
theorem T_11_worn_54 {g : Gl} (k14 : Int32 → Int32 → Int32 → Int32 → Mem → Oc) (pk14 : Int32 → Int32 → Int32 → Int32 → Mem → Prop) (ih14 : ∀ (x1 : Int32) (x2 : Int32) (x3 : Int32) (x4 : Int32) (M : Mem), pk14 x1 x2 x3 x4 M → Rc g 7 0 m11_worn 14 [some (.ref 1558), some (.int x1), some (.int x2), some (.int x3), some (.int x4)] [] M ((k14 x1 x2 x3 x4 M))) (x1 : Int32) (x2 : Int32) (x3 : Int32) (x4 : Int32) (M : Mem) (hp : P_11_worn_54 pk14 x1 x2 x3 x4 M) : Rc g 7 0 m11_worn 54 [some (.ref 1558), some (.int x1), some (.int x2), some (.int x3), some (.int x4)] [] M ((F_11_worn_54 k14 x1 x2 x3 x4 M)) := by
  rw [F_11_worn_54]
  rw [P_11_worn_54] at hp
  refine b11_worn_54  ?_
  exact R_cw (Nat.le_of_ble_eq_true rfl) (ih14 x1 x2 x3 (x4 + 1) M hp)
def F_11_worn_14  : Nat → Int32 → Int32 → Int32 → Int32 → Mem → Oc
  | 0, _, _, _, _, M => .inl (none, M)
  | n + 1, x1, x2, x3, x4, M => if (rd M 1561 1) ≤ x4 then (if x2 = (-1) then (.inl (some (.int (-1)), M)) else (if x1 = 0 then (.inl (some (.int x2), M)) else (.inl (some (.int x3), M)))) else (if (rd M 1623 x4.toNatClampNeg) ≤ x3 then (F_11_worn_54 (F_11_worn_14 n) x1 x2 x3 x4 M) else (F_11_worn_54 (F_11_worn_14 n) x1 x4 (rd M 1623 x4.toNatClampNeg) x4 M))
def P_11_worn_14  : Nat → Int32 → Int32 → Int32 → Int32 → Mem → Prop
  | 0, _, _, _, _, _ => False
  | n + 1, x1, x2, x3, x4, M => (((rd M 1561 1) ≤ x4 → True) ∧ (¬ (rd M 1561 1) ≤ x4 → (vp_in x4 24) ∧ (((rd M 1623 x4.toNatClampNeg) ≤ x3 → P_11_worn_54 (P_11_worn_14 n) x1 x2 x3 x4 M) ∧ (¬ (rd M 1623 x4.toNatClampNeg) ≤ x3 → (vp_in x4 24) ∧ (P_11_worn_54 (P_11_worn_14 n) x1 x4 (rd M 1623 x4.toNatClampNeg) x4 M)))))
theorem T_11_worn_14 {g : Gl} : ∀ (n : Nat) (x1 : Int32) (x2 : Int32) (x3 : Int32) (x4 : Int32) (M : Mem) (hp : P_11_worn_14 n x1 x2 x3 x4 M), Rc g 7 0 m11_worn 14 [some (.ref 1558), some (.int x1), some (.int x2), some (.int x3), some (.int x4)] [] M ((F_11_worn_14 n x1 x2 x3 x4 M)) := by
  intro n
  induction n with
  | zero => intro x1 x2 x3 x4 M hp; exact hp.elim
  | succ n ih =>
    intro x1 x2 x3 x4 M hp
    rw [F_11_worn_14]
    rw [P_11_worn_14] at hp
    refine b11_worn_14  (fun h => ?_) (fun h => ?_)
    · rw [if_pos h]
      refine b11_worn_60  (fun h => ?_) (fun h => ?_)
      · rw [if_neg h]
        refine b11_worn_67  (fun h => ?_) (fun h => ?_)
        · rw [if_neg h]
          refine b11_worn_75  ?_
          exact b11_worn_76  rfl
        · rw [if_pos h]
          refine b11_worn_71  ?_
          exact b11_worn_76  rfl
      · rw [if_pos h]
        exact b11_worn_65  rfl
    · rw [if_neg h]
      have hp := hp.2 h
      obtain ⟨p0, hp⟩ := hp
      refine b11_worn_26 p0 (fun h => ?_) (fun h => ?_)
      · rw [if_pos h]
        have hp := hp.1 h
        exact R_cw (Nat.le_of_ble_eq_true rfl) (T_11_worn_54 (F_11_worn_14 n) (P_11_worn_14 n) ih x1 x2 x3 x4 M hp)
      · rw [if_neg h]
        have hp := hp.2 h
        obtain ⟨p1, hp⟩ := hp
        refine b11_worn_40 p1 ?_
        exact R_cw (Nat.le_of_ble_eq_true rfl) (T_11_worn_54 (F_11_worn_14 n) (P_11_worn_14 n) ih x1 x4 (rd M 1623 x4.toNatClampNeg) x4 M hp)
def F_11_worn_0 (x1 : Int32) (M : Mem) : Oc := if 0 ≤ x1 ∧ x1 ≤ 1 then (F_11_worn_14 FU x1 (-1) 0 0 M) else (.inr ("java/lang/IllegalArgumentException", wr M 1558 4 (rd M 1558 4 + 1)))
def P_11_worn_0 (x1 : Int32) (M : Mem) : Prop := ((0 ≤ x1 ∧ x1 ≤ 1 → (P_11_worn_14 FU x1 (-1) 0 0 M)))
theorem T_11_worn_0 {g : Gl} (x1 : Int32) (M : Mem) (hp : P_11_worn_0 x1 M) : Rc g 7 1 m11_worn 0 [some (.ref 1558), some (.int x1), none, none, none] [] M ((F_11_worn_0 x1 M)) := by
  rw [F_11_worn_0]
  rw [P_11_worn_0] at hp
  refine b11_worn_0  (C_needWithin x1 0 1 M) (Nat.le_of_ble_eq_true rfl) (fun h => ?_) (fun h => ?_)
  · rw [if_pos h]
    have hp := hp h
    refine b11_worn_7  ?_
    exact R_cw (Nat.le_of_ble_eq_true rfl) (T_11_worn_14 FU x1 (-1) 0 0 M hp)
  · rw [if_neg h]
theorem C_11_worn {g : Gl} (x1 : Int32) (M : Mem) (hp : P_11_worn_0 x1 M) : MsX g 7 1 m11_worn [.ref 1558, .int x1] M (F_11_worn_0 x1 M) := MsX.of okM_m11_worn (Nat.le_of_ble_eq_true rfl) (R_wk (lc rfl (lc rfl (ln (ln (ln l0))))) (T_11_worn_0 x1 M hp))
def F_11_sleepwalk_38 (x4 : Int32) (M : Mem) : Oc := (if x4 = 0 then (.inl (some (.int (rd M 1610 6)), M)) else (if x4 = 1 then (.inl (some (.int (F_6_bitCount_0f7a4_0 M (rd M 1610 7))), M)) else (.inl (some (.int (rd M 1610 8)), M))))
theorem T_11_sleepwalk_38 {g : Gl} (x4 : Int32) (M : Mem)  : Rc g 7 0 m11_sleepwalk 38 [some (.ref 1558), none, none, none, some (.int x4)] [] M ((F_11_sleepwalk_38 x4 M)) := by
  rw [F_11_sleepwalk_38]
  by_cases h0 : x4 = 0
  · rw [if_pos h0]
    refine b11_sleepwalk_38_c0  h0 ?_
    exact b11_sleepwalk_68  rfl
  rw [if_neg h0]
  by_cases h1 : x4 = 1
  · rw [if_pos h1]
    refine b11_sleepwalk_38_c1  h1 ?_
    refine b11_sleepwalk_76  (C_6_bitCount_0f7a4 (rd M 1610 7) M) (Nat.le_of_ble_eq_true rfl) ?_
    exact b11_sleepwalk_86  rfl
  rw [if_neg h1]
  refine b11_sleepwalk_38_d  (by show Op.lookupswitch.offset [(Int32.toInt 0, _), (Int32.toInt 1, _)] _ _ = _; rw [lv_osw (k := 0) h0 rfl, lv_osw (k := 1) h1 rfl]; rfl) ?_
  exact b11_sleepwalk_87  rfl
def F_11_sleepwalk_28 (x1 : Int32) (x2 : Int32) (x3 : Int32) (x4 : Int32) (M : Mem) : Oc := F_11_sleepwalk_38 x4 (F_6_sleep_0 x1 x2 x3 M)
def P_11_sleepwalk_28 (x1 : Int32) (x2 : Int32) (x3 : Int32) (x4 : Int32) (M : Mem) : Prop := ((P_6_sleep_0 x1 x2 x3 M))
theorem T_11_sleepwalk_28 {g : Gl} (x1 : Int32) (x2 : Int32) (x3 : Int32) (x4 : Int32) (M : Mem) (hp : P_11_sleepwalk_28 x1 x2 x3 x4 M) : Rc g 7 0 m11_sleepwalk 28 [some (.ref 1558), some (.int x1), some (.int x2), some (.int x3), some (.int x4)] [] M ((F_11_sleepwalk_28 x1 x2 x3 x4 M)) := by
  rw [F_11_sleepwalk_28]
  rw [P_11_sleepwalk_28] at hp
  have hc := hp
  refine b11_sleepwalk_28  (C_6_sleep x1 x2 x3 M hc) (Nat.le_of_ble_eq_true rfl) ?_
  exact R_cw (Nat.le_of_ble_eq_true rfl) (T_11_sleepwalk_38 x4 (F_6_sleep_0 x1 x2 x3 M))
def F_11_sleepwalk_0 (x1 : Int32) (x2 : Int32) (x3 : Int32) (x4 : Int32) (M : Mem) : Oc := if 0 ≤ x2 ∧ x2 < rd M 1561 0 then (if 0 ≤ x3 ∧ x3 ≤ 96 then (if 0 ≤ x4 ∧ x4 ≤ 2 then (F_11_sleepwalk_28 x1 x2 x3 x4 (F_6_lieDown_0 M)) else (.inr ("java/lang/IllegalArgumentException", wr M 1558 4 (rd M 1558 4 + 1)))) else (.inr ("java/lang/IllegalArgumentException", wr M 1558 4 (rd M 1558 4 + 1)))) else (.inr ("java/util/NoSuchElementException", wr M 1558 3 (rd M 1558 3 + 1)))
def P_11_sleepwalk_0 (x1 : Int32) (x2 : Int32) (x3 : Int32) (x4 : Int32) (M : Mem) : Prop := ((0 ≤ x2 ∧ x2 < rd M 1561 0 → ((0 ≤ x3 ∧ x3 ≤ 96 → ((0 ≤ x4 ∧ x4 ≤ 2 → ((P_6_lieDown_0 M) ∧ (P_11_sleepwalk_28 x1 x2 x3 x4 (F_6_lieDown_0 M)))))))))
theorem T_11_sleepwalk_0 {g : Gl} (x1 : Int32) (x2 : Int32) (x3 : Int32) (x4 : Int32) (M : Mem) (hp : P_11_sleepwalk_0 x1 x2 x3 x4 M) : Rc g 7 3 m11_sleepwalk 0 [some (.ref 1558), some (.int x1), some (.int x2), some (.int x3), some (.int x4)] [] M ((F_11_sleepwalk_0 x1 x2 x3 x4 M)) := by
  rw [F_11_sleepwalk_0]
  rw [P_11_sleepwalk_0] at hp
  refine b11_sleepwalk_0  (C_needRoom x2 M) (Nat.le_of_ble_eq_true rfl) (fun h => ?_) (fun h => ?_)
  · rw [if_pos h]
    have hp := hp h
    refine b11_sleepwalk_5  (C_needWithin x3 0 96 M) (Nat.le_of_ble_eq_true rfl) (fun h => ?_) (fun h => ?_)
    · rw [if_pos h]
      have hp := hp h
      refine b11_sleepwalk_13  (C_needWithin x4 0 2 M) (Nat.le_of_ble_eq_true rfl) (fun h => ?_) (fun h => ?_)
      · rw [if_pos h]
        have hp := hp h
        obtain ⟨hc, hp⟩ := hp
        refine b11_sleepwalk_21  (C_6_lieDown  M hc) (Nat.le_of_ble_eq_true rfl) ?_
        exact R_cw (Nat.le_of_ble_eq_true rfl) (T_11_sleepwalk_28 x1 x2 x3 x4 (F_6_lieDown_0 M) hp)
      · rw [if_neg h]
    · rw [if_neg h]
  · rw [if_neg h]
theorem C_11_sleepwalk {g : Gl} (x1 : Int32) (x2 : Int32) (x3 : Int32) (x4 : Int32) (M : Mem) (hp : P_11_sleepwalk_0 x1 x2 x3 x4 M) : MsX g 7 3 m11_sleepwalk [.ref 1558, .int x1, .int x2, .int x3, .int x4] M (F_11_sleepwalk_0 x1 x2 x3 x4 M) := MsX.of okM_m11_sleepwalk (Nat.le_of_ble_eq_true rfl) (R_wk (lc rfl (lc rfl (lc rfl (lc rfl (lc rfl l0))))) (T_11_sleepwalk_0 x1 x2 x3 x4 M hp))
def F_11_span_93 (k49 : Int32 → Int32 → Int32 → Int32 → Int32 → Int32 → Int32 → Int32 → Mem → Oc) (x1 : Int32) (x2 : Int32) (x3 : Int32) (x4 : Int32) (x5 : Int32) (x6 : Int32) (x7 : Int32) (x8 : Int32) (xs0 : Int32) (M : Mem) : Oc := k49 x1 x2 x3 x4 x5 x6 (x7 + ((xs0 >>> (x5 &&& 31)) &&& 1)) (x8 + 1) M
def P_11_span_93 (pk49 : Int32 → Int32 → Int32 → Int32 → Int32 → Int32 → Int32 → Int32 → Mem → Prop) (x1 : Int32) (x2 : Int32) (x3 : Int32) (x4 : Int32) (x5 : Int32) (x6 : Int32) (x7 : Int32) (x8 : Int32) (xs0 : Int32) (M : Mem) : Prop := (pk49 x1 x2 x3 x4 x5 x6 (x7 + ((xs0 >>> (x5 &&& 31)) &&& 1)) (x8 + 1) M)
theorem T_11_span_93 {g : Gl} (k49 : Int32 → Int32 → Int32 → Int32 → Int32 → Int32 → Int32 → Int32 → Mem → Oc) (pk49 : Int32 → Int32 → Int32 → Int32 → Int32 → Int32 → Int32 → Int32 → Mem → Prop) (ih49 : ∀ (x1 : Int32) (x2 : Int32) (x3 : Int32) (x4 : Int32) (x5 : Int32) (x6 : Int32) (x7 : Int32) (x8 : Int32) (M : Mem), pk49 x1 x2 x3 x4 x5 x6 x7 x8 M → Rc g 7 0 m11_span 49 [some (.ref 1558), some (.int x1), some (.int x2), some (.int x3), some (.int x4), some (.int x5), some (.int x6), some (.int x7), some (.int x8), none] [] M ((k49 x1 x2 x3 x4 x5 x6 x7 x8 M))) (x1 : Int32) (x2 : Int32) (x3 : Int32) (x4 : Int32) (x5 : Int32) (x6 : Int32) (x7 : Int32) (x8 : Int32) (xs0 : Int32) (M : Mem) (hp : P_11_span_93 pk49 x1 x2 x3 x4 x5 x6 x7 x8 xs0 M) : Rc g 7 0 m11_span 93 [some (.ref 1558), some (.int x1), some (.int x2), some (.int x3), some (.int x4), some (.int x5), some (.int x6), some (.int x7), some (.int x8), none] [.int xs0] M ((F_11_span_93 k49 x1 x2 x3 x4 x5 x6 x7 x8 xs0 M)) := by
  rw [F_11_span_93]
  rw [P_11_span_93] at hp
  refine b11_span_93  ?_
  exact R_cw (Nat.le_of_ble_eq_true rfl) (ih49 x1 x2 x3 x4 x5 x6 (x7 + ((xs0 >>> (x5 &&& 31)) &&& 1)) (x8 + 1) M hp)
def F_11_span_69 (k49 : Int32 → Int32 → Int32 → Int32 → Int32 → Int32 → Int32 → Int32 → Mem → Oc) (x1 : Int32) (x2 : Int32) (x3 : Int32) (x4 : Int32) (x5 : Int32) (x6 : Int32) (x7 : Int32) (x8 : Int32) (M : Mem) : Oc := if x6 = 0 then (F_11_span_93 k49 x1 x2 x3 x4 x5 x6 x7 x8 ((1 : Int32) <<< ((rd M 1610 6) &&& 31)) M) else (F_11_span_93 k49 x1 x2 x3 x4 x5 x6 x7 x8 (rd M 1610 7) M)
def P_11_span_69 (pk49 : Int32 → Int32 → Int32 → Int32 → Int32 → Int32 → Int32 → Int32 → Mem → Prop) (x1 : Int32) (x2 : Int32) (x3 : Int32) (x4 : Int32) (x5 : Int32) (x6 : Int32) (x7 : Int32) (x8 : Int32) (M : Mem) : Prop := ((¬ x6 = 0 → (P_11_span_93 pk49 x1 x2 x3 x4 x5 x6 x7 x8 (rd M 1610 7) M)) ∧ (x6 = 0 → (P_11_span_93 pk49 x1 x2 x3 x4 x5 x6 x7 x8 ((1 : Int32) <<< ((rd M 1610 6) &&& 31)) M)))
theorem T_11_span_69 {g : Gl} (k49 : Int32 → Int32 → Int32 → Int32 → Int32 → Int32 → Int32 → Int32 → Mem → Oc) (pk49 : Int32 → Int32 → Int32 → Int32 → Int32 → Int32 → Int32 → Int32 → Mem → Prop) (ih49 : ∀ (x1 : Int32) (x2 : Int32) (x3 : Int32) (x4 : Int32) (x5 : Int32) (x6 : Int32) (x7 : Int32) (x8 : Int32) (M : Mem), pk49 x1 x2 x3 x4 x5 x6 x7 x8 M → Rc g 7 0 m11_span 49 [some (.ref 1558), some (.int x1), some (.int x2), some (.int x3), some (.int x4), some (.int x5), some (.int x6), some (.int x7), some (.int x8), none] [] M ((k49 x1 x2 x3 x4 x5 x6 x7 x8 M))) (x1 : Int32) (x2 : Int32) (x3 : Int32) (x4 : Int32) (x5 : Int32) (x6 : Int32) (x7 : Int32) (x8 : Int32) (M : Mem) (hp : P_11_span_69 pk49 x1 x2 x3 x4 x5 x6 x7 x8 M) : Rc g 7 0 m11_span 69 [some (.ref 1558), some (.int x1), some (.int x2), some (.int x3), some (.int x4), some (.int x5), some (.int x6), some (.int x7), some (.int x8), none] [] M ((F_11_span_69 k49 x1 x2 x3 x4 x5 x6 x7 x8 M)) := by
  rw [F_11_span_69]
  rw [P_11_span_69] at hp
  refine b11_span_69  (fun h => ?_) (fun h => ?_)
  · rw [if_neg h]
    have hp := hp.1 h
    refine b11_span_86  ?_
    exact R_cw (Nat.le_of_ble_eq_true rfl) (T_11_span_93 k49 pk49 ih49 x1 x2 x3 x4 x5 x6 x7 x8 (rd M 1610 7) M hp)
  · rw [if_pos h]
    have hp := hp.2 h
    refine b11_span_74  ?_
    exact R_cw (Nat.le_of_ble_eq_true rfl) (T_11_span_93 k49 pk49 ih49 x1 x2 x3 x4 x5 x6 x7 x8 ((1 : Int32) <<< ((rd M 1610 6) &&& 31)) M hp)
def F_11_span_49  : Nat → Int32 → Int32 → Int32 → Int32 → Int32 → Int32 → Int32 → Int32 → Mem → Oc
  | 0, _, _, _, _, _, _, _, _, M => .inl (none, M)
  | n + 1, x1, x2, x3, x4, x5, x6, x7, x8, M => if x2 ≤ x8 then (.inl (some (.int x7), M)) else (F_11_span_69 (F_11_span_49 n) x1 x2 x3 x4 x5 x6 x7 x8 (F_6_sleep_0 (x1 + x8) x3 x4 M))
def P_11_span_49  : Nat → Int32 → Int32 → Int32 → Int32 → Int32 → Int32 → Int32 → Int32 → Mem → Prop
  | 0, _, _, _, _, _, _, _, _, _ => False
  | n + 1, x1, x2, x3, x4, x5, x6, x7, x8, M => ((x2 ≤ x8 → True) ∧ (¬ x2 ≤ x8 → ((P_6_sleep_0 (x1 + x8) x3 x4 M) ∧ (P_11_span_69 (P_11_span_49 n) x1 x2 x3 x4 x5 x6 x7 x8 (F_6_sleep_0 (x1 + x8) x3 x4 M)))))
theorem T_11_span_49 {g : Gl} : ∀ (n : Nat) (x1 : Int32) (x2 : Int32) (x3 : Int32) (x4 : Int32) (x5 : Int32) (x6 : Int32) (x7 : Int32) (x8 : Int32) (M : Mem) (hp : P_11_span_49 n x1 x2 x3 x4 x5 x6 x7 x8 M), Rc g 7 0 m11_span 49 [some (.ref 1558), some (.int x1), some (.int x2), some (.int x3), some (.int x4), some (.int x5), some (.int x6), some (.int x7), some (.int x8), none] [] M ((F_11_span_49 n x1 x2 x3 x4 x5 x6 x7 x8 M)) := by
  intro n
  induction n with
  | zero => intro x1 x2 x3 x4 x5 x6 x7 x8 M hp; exact hp.elim
  | succ n ih =>
    intro x1 x2 x3 x4 x5 x6 x7 x8 M hp
    rw [F_11_span_49]
    rw [P_11_span_49] at hp
    refine b11_span_49  (fun h => ?_) (fun h => ?_)
    · rw [if_pos h]
      exact b11_span_113  rfl
    · rw [if_neg h]
      have hp := hp.2 h
      obtain ⟨hc, hp⟩ := hp
      refine b11_span_55  (C_6_sleep (x1 + x8) x3 x4 M hc) (Nat.le_of_ble_eq_true rfl) ?_
      exact R_cw (Nat.le_of_ble_eq_true rfl) (T_11_span_69 (F_11_span_49 n) (P_11_span_49 n) ih x1 x2 x3 x4 x5 x6 x7 x8 (F_6_sleep_0 (x1 + x8) x3 x4 M) hp)
def F_11_span_43 (x1 : Int32) (x2 : Int32) (x3 : Int32) (x4 : Int32) (x5 : Int32) (x6 : Int32) (M : Mem) : Oc := F_11_span_49 FU x1 x2 x3 x4 x5 x6 0 0 M
def P_11_span_43 (x1 : Int32) (x2 : Int32) (x3 : Int32) (x4 : Int32) (x5 : Int32) (x6 : Int32) (M : Mem) : Prop := (P_11_span_49 FU x1 x2 x3 x4 x5 x6 0 0 M)
theorem T_11_span_43 {g : Gl} (x1 : Int32) (x2 : Int32) (x3 : Int32) (x4 : Int32) (x5 : Int32) (x6 : Int32) (M : Mem) (hp : P_11_span_43 x1 x2 x3 x4 x5 x6 M) : Rc g 7 0 m11_span 43 [some (.ref 1558), some (.int x1), some (.int x2), some (.int x3), some (.int x4), some (.int x5), some (.int x6), none, none, none] [] M ((F_11_span_43 x1 x2 x3 x4 x5 x6 M)) := by
  rw [F_11_span_43]
  rw [P_11_span_43] at hp
  refine b11_span_43  ?_
  exact R_cw (Nat.le_of_ble_eq_true rfl) (T_11_span_49 FU x1 x2 x3 x4 x5 x6 0 0 M hp)
def F_11_span_0 (x1 : Int32) (x2 : Int32) (x3 : Int32) (x4 : Int32) (x5 : Int32) (x6 : Int32) (M : Mem) : Oc := if 0 ≤ x3 ∧ x3 < rd M 1561 0 then (if 0 ≤ x5 ∧ x5 < rd M 1561 0 then (if 1 ≤ x2 ∧ x2 ≤ 40 then (if 0 ≤ x4 ∧ x4 ≤ 96 then (if 0 ≤ x6 ∧ x6 ≤ 1 then (F_11_span_43 x1 x2 x3 x4 x5 x6 (F_6_lieDown_0 M)) else (.inr ("java/lang/IllegalArgumentException", wr M 1558 4 (rd M 1558 4 + 1)))) else (.inr ("java/lang/IllegalArgumentException", wr M 1558 4 (rd M 1558 4 + 1)))) else (.inr ("java/lang/IllegalArgumentException", wr M 1558 4 (rd M 1558 4 + 1)))) else (.inr ("java/util/NoSuchElementException", wr M 1558 3 (rd M 1558 3 + 1)))) else (.inr ("java/util/NoSuchElementException", wr M 1558 3 (rd M 1558 3 + 1)))
def P_11_span_0 (x1 : Int32) (x2 : Int32) (x3 : Int32) (x4 : Int32) (x5 : Int32) (x6 : Int32) (M : Mem) : Prop := ((0 ≤ x3 ∧ x3 < rd M 1561 0 → ((0 ≤ x5 ∧ x5 < rd M 1561 0 → ((1 ≤ x2 ∧ x2 ≤ 40 → ((0 ≤ x4 ∧ x4 ≤ 96 → ((0 ≤ x6 ∧ x6 ≤ 1 → ((P_6_lieDown_0 M) ∧ (P_11_span_43 x1 x2 x3 x4 x5 x6 (F_6_lieDown_0 M)))))))))))))
theorem T_11_span_0 {g : Gl} (x1 : Int32) (x2 : Int32) (x3 : Int32) (x4 : Int32) (x5 : Int32) (x6 : Int32) (M : Mem) (hp : P_11_span_0 x1 x2 x3 x4 x5 x6 M) : Rc g 7 5 m11_span 0 [some (.ref 1558), some (.int x1), some (.int x2), some (.int x3), some (.int x4), some (.int x5), some (.int x6), none, none, none] [] M ((F_11_span_0 x1 x2 x3 x4 x5 x6 M)) := by
  rw [F_11_span_0]
  rw [P_11_span_0] at hp
  refine b11_span_0  (C_needRoom x3 M) (Nat.le_of_ble_eq_true rfl) (fun h => ?_) (fun h => ?_)
  · rw [if_pos h]
    have hp := hp h
    refine b11_span_5  (C_needRoom x5 M) (Nat.le_of_ble_eq_true rfl) (fun h => ?_) (fun h => ?_)
    · rw [if_pos h]
      have hp := hp h
      refine b11_span_11  (C_needWithin x2 1 40 M) (Nat.le_of_ble_eq_true rfl) (fun h => ?_) (fun h => ?_)
      · rw [if_pos h]
        have hp := hp h
        refine b11_span_19  (C_needWithin x4 0 96 M) (Nat.le_of_ble_eq_true rfl) (fun h => ?_) (fun h => ?_)
        · rw [if_pos h]
          have hp := hp h
          refine b11_span_28  (C_needWithin x6 0 1 M) (Nat.le_of_ble_eq_true rfl) (fun h => ?_) (fun h => ?_)
          · rw [if_pos h]
            have hp := hp h
            obtain ⟨hc, hp⟩ := hp
            refine b11_span_36  (C_6_lieDown  M hc) (Nat.le_of_ble_eq_true rfl) ?_
            exact R_cw (Nat.le_of_ble_eq_true rfl) (T_11_span_43 x1 x2 x3 x4 x5 x6 (F_6_lieDown_0 M) hp)
          · rw [if_neg h]
        · rw [if_neg h]
      · rw [if_neg h]
    · rw [if_neg h]
  · rw [if_neg h]
theorem C_11_span {g : Gl} (x1 : Int32) (x2 : Int32) (x3 : Int32) (x4 : Int32) (x5 : Int32) (x6 : Int32) (M : Mem) (hp : P_11_span_0 x1 x2 x3 x4 x5 x6 M) : MsX g 7 5 m11_span [.ref 1558, .int x1, .int x2, .int x3, .int x4, .int x5, .int x6] M (F_11_span_0 x1 x2 x3 x4 x5 x6 M) := MsX.of okM_m11_span (Nat.le_of_ble_eq_true rfl) (R_wk (lc rfl (lc rfl (lc rfl (lc rfl (lc rfl (lc rfl (lc rfl (ln (ln (ln l0)))))))))) (T_11_span_0 x1 x2 x3 x4 x5 x6 M hp))
def F_11_status_0 (M : Mem) (x1 : Int32) : Int32 := if x1 = 0 then ((rd M 1558 3)) else (if x1 = 1 then ((rd M 1558 4)) else ((-1)))
theorem T_11_status_0 {g : Gl} (M : Mem) (x1 : Int32)  : Rn g 0 m11_status 0 [some (.ref 1558), some (.int x1)] [] M (some (.int (F_11_status_0 M x1))) (M) := by
  rw [F_11_status_0]
  refine b11_status_0  (fun h => ?_) (fun h => ?_)
  · rw [if_neg h]
    refine b11_status_9  (fun h => ?_) (fun h => ?_)
    · rw [if_neg h]
      refine b11_status_21  ?_
      exact b11_status_22  rfl rfl
    · rw [if_pos h]
      refine b11_status_14  ?_
      exact b11_status_22  rfl rfl
  · rw [if_pos h]
    exact b11_status_4  rfl rfl
theorem C_11_status {g : Gl}  (x1 : Int32) (M : Mem)  : Ms g 0 m11_status [.ref 1558, .int x1] M (some (.int (F_11_status_0 M x1))) (M) := Ms.of okM_m11_status (Nat.le_of_ble_eq_true rfl) (R_wk (lc rfl (lc rfl l0)) (T_11_status_0 M x1))
def F_11_count_0 (M : Mem) (x1 : Int32) : Int32 := (if x1 = 0 then (rd M 1558 14) else (if x1 = 1 then (rd M 1558 1) else (if x1 = 2 then (rd M 1614 2) else (-1))))
theorem T_11_count_0 {g : Gl} (M : Mem) (x1 : Int32)  : Rn g 0 m11_count 0 [some (.ref 1558), some (.int x1)] [] M (some (.int (F_11_count_0 M x1))) (M) := by
  rw [F_11_count_0]
  by_cases h0 : x1 = 0
  · rw [if_pos h0]
    refine b11_count_0_c0  h0 ?_
    exact b11_count_28  rfl rfl
  rw [if_neg h0]
  by_cases h1 : x1 = 1
  · rw [if_pos h1]
    refine b11_count_0_c1  h1 ?_
    exact b11_count_33  rfl rfl
  rw [if_neg h1]
  by_cases h2 : x1 = 2
  · rw [if_pos h2]
    refine b11_count_0_c2  h2 ?_
    exact b11_count_38  rfl rfl
  rw [if_neg h2]
  refine b11_count_0_d  (sw_out (x := x1) (lo := 0) (hi := 2) (by intro z ha hb e; rcases (show z = 0 ∨ z = 1 ∨ z = 2 by omega) with r | r | r <;> subst r <;> first | exact h0 (Int32.toInt_inj.mp (e.trans (by decide))) | exact h1 (Int32.toInt_inj.mp (e.trans (by decide))) | exact h2 (Int32.toInt_inj.mp (e.trans (by decide))))) ?_
  exact b11_count_46  rfl rfl
theorem C_11_count {g : Gl}  (x1 : Int32) (M : Mem)  : Ms g 0 m11_count [.ref 1558, .int x1] M (some (.int (F_11_count_0 M x1))) (M) := Ms.of okM_m11_count (Nat.le_of_ble_eq_true rfl) (R_wk (lc rfl (lc rfl l0)) (T_11_count_0 M x1))
