def F_3_waysApart_22 (k8 : Int32 → Int32 → Int32 → Int32 → Mem → Int32 × Mem) (x1 : Int32) (x2 : Int32) (x3 : Int32) (x4 : Int32) (xs0 : Int32) (M : Mem) : Int32 × Mem := if xs0 = 0 then ((x4, M)) else (k8 x1 x2 x3 (x4 + 1) M)
def P_3_waysApart_22 (pk8 : Int32 → Int32 → Int32 → Int32 → Mem → Prop) (x1 : Int32) (x2 : Int32) (x3 : Int32) (x4 : Int32) (xs0 : Int32) (M : Mem) : Prop := ((¬ xs0 = 0 → (pk8 x1 x2 x3 (x4 + 1) M)) ∧ (xs0 = 0 → True))
theorem T_3_waysApart_22 {g : Gl} (k8 : Int32 → Int32 → Int32 → Int32 → Mem → Int32 × Mem) (pk8 : Int32 → Int32 → Int32 → Int32 → Mem → Prop) (ih8 : ∀ (x1 : Int32) (x2 : Int32) (x3 : Int32) (x4 : Int32) (M : Mem), pk8 x1 x2 x3 x4 M → Rn g 2 m3_waysApart 8 [some (.ref 1606), some (.int x1), some (.int x2), some (.int x3), some (.int x4)] [] M (some (.int (k8 x1 x2 x3 x4 M).1)) ((k8 x1 x2 x3 x4 M).2)) (x1 : Int32) (x2 : Int32) (x3 : Int32) (x4 : Int32) (xs0 : Int32) (M : Mem) (hp : P_3_waysApart_22 pk8 x1 x2 x3 x4 xs0 M) : Rn g 2 m3_waysApart 22 [some (.ref 1606), some (.int x1), some (.int x2), some (.int x3), some (.int x4)] [.int xs0] M (some (.int (F_3_waysApart_22 k8 x1 x2 x3 x4 xs0 M).1)) ((F_3_waysApart_22 k8 x1 x2 x3 x4 xs0 M).2) := by
  rw [F_3_waysApart_22]
  rw [P_3_waysApart_22] at hp
  refine b3_waysApart_22  (fun h => ?_) (fun h => ?_)
  · rw [if_neg h]
    have hp := hp.1 h
    refine b3_waysApart_28  ?_
    exact ih8 x1 x2 x3 (x4 + 1) M hp
  · rw [if_pos h]
    exact b3_waysApart_25  rfl rfl
def F_3_waysApart_8  : Nat → Int32 → Int32 → Int32 → Int32 → Mem → Int32 × Mem
  | 0, _, _, _, _, M => (0, M)
  | n + 1, x1, x2, x3, x4, M => if (24 : Int32) ≤ x4 then ((24, M)) else (F_3_waysApart_22 (F_3_waysApart_8 n) x1 x2 x3 x4 ((F_3_findsWay_0 x1 x2 x3 M).1) ((F_3_findsWay_0 x1 x2 x3 M).2))
def P_3_waysApart_8  : Nat → Int32 → Int32 → Int32 → Int32 → Mem → Prop
  | 0, _, _, _, _, _ => False
  | n + 1, x1, x2, x3, x4, M => (((24 : Int32) ≤ x4 → True) ∧ (¬ (24 : Int32) ≤ x4 → ((P_3_findsWay_0 x1 x2 x3 M) ∧ (P_3_waysApart_22 (P_3_waysApart_8 n) x1 x2 x3 x4 ((F_3_findsWay_0 x1 x2 x3 M).1) ((F_3_findsWay_0 x1 x2 x3 M).2)))))
theorem T_3_waysApart_8 {g : Gl} : ∀ (n : Nat) (x1 : Int32) (x2 : Int32) (x3 : Int32) (x4 : Int32) (M : Mem) (hp : P_3_waysApart_8 n x1 x2 x3 x4 M), Rn g 2 m3_waysApart 8 [some (.ref 1606), some (.int x1), some (.int x2), some (.int x3), some (.int x4)] [] M (some (.int (F_3_waysApart_8 n x1 x2 x3 x4 M).1)) ((F_3_waysApart_8 n x1 x2 x3 x4 M).2) := by
  intro n
  induction n with
  | zero => intro x1 x2 x3 x4 M hp; exact hp.elim
  | succ n ih =>
    intro x1 x2 x3 x4 M hp
    rw [F_3_waysApart_8]
    rw [P_3_waysApart_8] at hp
    refine b3_waysApart_8  (fun h => ?_) (fun h => ?_)
    · rw [if_pos h]
      exact b3_waysApart_34  rfl rfl
    · rw [if_neg h]
      have hp := hp.2 h
      obtain ⟨hc, hp⟩ := hp
      refine b3_waysApart_15  (C_3_findsWay x1 x2 x3 M hc) (Nat.le_of_ble_eq_true rfl) ?_
      exact T_3_waysApart_22 (F_3_waysApart_8 n) (P_3_waysApart_8 n) ih x1 x2 x3 x4 ((F_3_findsWay_0 x1 x2 x3 M).1) ((F_3_findsWay_0 x1 x2 x3 M).2) hp
def F_3_waysApart_0 (x1 : Int32) (x2 : Int32) (x3 : Int32) (M : Mem) : Int32 × Mem := F_3_waysApart_8 FU x1 x2 x3 0 (wr M 1606 5 0)
def P_3_waysApart_0 (x1 : Int32) (x2 : Int32) (x3 : Int32) (M : Mem) : Prop := (P_3_waysApart_8 FU x1 x2 x3 0 (wr M 1606 5 0))
theorem T_3_waysApart_0 {g : Gl} (x1 : Int32) (x2 : Int32) (x3 : Int32) (M : Mem) (hp : P_3_waysApart_0 x1 x2 x3 M) : Rn g 2 m3_waysApart 0 [some (.ref 1606), some (.int x1), some (.int x2), some (.int x3), none] [] M (some (.int (F_3_waysApart_0 x1 x2 x3 M).1)) ((F_3_waysApart_0 x1 x2 x3 M).2) := by
  rw [F_3_waysApart_0]
  rw [P_3_waysApart_0] at hp
  refine b3_waysApart_0  ?_
  exact T_3_waysApart_8 FU x1 x2 x3 0 (wr M 1606 5 0) hp
theorem C_3_waysApart {g : Gl}  (x1 : Int32) (x2 : Int32) (x3 : Int32) (M : Mem) (hp : P_3_waysApart_0 x1 x2 x3 M) : Ms g 2 m3_waysApart [.ref 1606, .int x1, .int x2, .int x3] M (some (.int (F_3_waysApart_0 x1 x2 x3 M).1)) ((F_3_waysApart_0 x1 x2 x3 M).2) := Ms.of okM_m3_waysApart (Nat.le_of_ble_eq_true rfl) (R_wk (lc rfl (lc rfl (lc rfl (lc rfl (ln l0))))) (T_3_waysApart_0 x1 x2 x3 M hp))
def F_3_fewest_23 (xs0 : Int32) (M : Mem) : Int32 × Mem := (xs0, M)
theorem T_3_fewest_23 {g : Gl} (xs0 : Int32) (M : Mem)  : Rn g 3 m3_fewest 23 [none, none, none] [.int xs0] M (some (.int (F_3_fewest_23 xs0 M).1)) ((F_3_fewest_23 xs0 M).2) := by
  rw [F_3_fewest_23]
  exact b3_fewest_23  rfl rfl
def F_3_fewest_0 (x1 : Int32) (x2 : Int32) (M : Mem) : Int32 × Mem := F_3_fewest_23 ((F_3_waysApart_0 x1 x2 ((F_4_allDoors_0 M) &&& ((rd M 1622 2) ^^^ (-1))) M).1) ((F_3_waysApart_0 x1 x2 ((F_4_allDoors_0 M) &&& ((rd M 1622 2) ^^^ (-1))) M).2)
def P_3_fewest_0 (x1 : Int32) (x2 : Int32) (M : Mem) : Prop := ((((P_3_waysApart_0 x1 x2 ((F_4_allDoors_0 M) &&& ((rd M 1622 2) ^^^ (-1))) M))))
theorem T_3_fewest_0 {g : Gl} (x1 : Int32) (x2 : Int32) (M : Mem) (hp : P_3_fewest_0 x1 x2 M) : Rn g 3 m3_fewest 0 [some (.ref 1606), some (.int x1), some (.int x2)] [] M (some (.int (F_3_fewest_0 x1 x2 M).1)) ((F_3_fewest_0 x1 x2 M).2) := by
  rw [F_3_fewest_0]
  rw [P_3_fewest_0] at hp
  refine b3_fewest_0  (C_4_allDoors  M) (Nat.le_of_ble_eq_true rfl) ?_
  have hc := hp
  refine b3_fewest_10  (C_3_waysApart x1 x2 ((F_4_allDoors_0 M) &&& ((rd M 1622 2) ^^^ (-1))) M hc) (Nat.le_of_ble_eq_true rfl) ?_
  exact T_3_fewest_23 ((F_3_waysApart_0 x1 x2 ((F_4_allDoors_0 M) &&& ((rd M 1622 2) ^^^ (-1))) M).1) ((F_3_waysApart_0 x1 x2 ((F_4_allDoors_0 M) &&& ((rd M 1622 2) ^^^ (-1))) M).2)
theorem C_3_fewest {g : Gl}  (x1 : Int32) (x2 : Int32) (M : Mem) (hp : P_3_fewest_0 x1 x2 M) : Ms g 3 m3_fewest [.ref 1606, .int x1, .int x2] M (some (.int (F_3_fewest_0 x1 x2 M).1)) ((F_3_fewest_0 x1 x2 M).2) := Ms.of okM_m3_fewest (Nat.le_of_ble_eq_true rfl) (R_wk (lc rfl (lc rfl (lc rfl l0))) (T_3_fewest_0 x1 x2 M hp))
def F_3_firstDoors_94 (k33 : Int32 → Int32 → Int32 → Int32 → Int32 → Int32 → Mem → Int32 × Mem) (x1 : Int32) (x2 : Int32) (x3 : Int32) (x4 : Int32) (x5 : Int32) (x6 : Int32) (M : Mem) : Int32 × Mem := k33 x1 x2 x3 x4 x5 (x6 + 1) M
def P_3_firstDoors_94 (pk33 : Int32 → Int32 → Int32 → Int32 → Int32 → Int32 → Mem → Prop) (x1 : Int32) (x2 : Int32) (x3 : Int32) (x4 : Int32) (x5 : Int32) (x6 : Int32) (M : Mem) : Prop := (pk33 x1 x2 x3 x4 x5 (x6 + 1) M)
theorem T_3_firstDoors_94 {g : Gl} (k33 : Int32 → Int32 → Int32 → Int32 → Int32 → Int32 → Mem → Int32 × Mem) (pk33 : Int32 → Int32 → Int32 → Int32 → Int32 → Int32 → Mem → Prop) (ih33 : ∀ (x1 : Int32) (x2 : Int32) (x3 : Int32) (x4 : Int32) (x5 : Int32) (x6 : Int32) (M : Mem), pk33 x1 x2 x3 x4 x5 x6 M → Rn g 3 m3_firstDoors 33 [some (.ref 1606), some (.int x1), some (.int x2), some (.int x3), some (.int x4), some (.int x5), some (.int x6), none] [] M (some (.int (k33 x1 x2 x3 x4 x5 x6 M).1)) ((k33 x1 x2 x3 x4 x5 x6 M).2)) (x1 : Int32) (x2 : Int32) (x3 : Int32) (x4 : Int32) (x5 : Int32) (x6 : Int32) (M : Mem) (hp : P_3_firstDoors_94 pk33 x1 x2 x3 x4 x5 x6 M) : Rn g 3 m3_firstDoors 94 [some (.ref 1606), some (.int x1), some (.int x2), some (.int x3), some (.int x4), some (.int x5), some (.int x6), none] [] M (some (.int (F_3_firstDoors_94 k33 x1 x2 x3 x4 x5 x6 M).1)) ((F_3_firstDoors_94 k33 x1 x2 x3 x4 x5 x6 M).2) := by
  rw [F_3_firstDoors_94]
  rw [P_3_firstDoors_94] at hp
  refine b3_firstDoors_94  ?_
  exact ih33 x1 x2 x3 x4 x5 (x6 + 1) M hp
def F_3_firstDoors_74 (k33 : Int32 → Int32 → Int32 → Int32 → Int32 → Int32 → Mem → Int32 × Mem) (x1 : Int32) (x2 : Int32) (x3 : Int32) (x4 : Int32) (x5 : Int32) (x6 : Int32) (x7 : Int32) (xs0 : Int32) (M : Mem) : Int32 × Mem := if x4 ≤ xs0 then (F_3_firstDoors_94 k33 x1 x2 x3 x4 x5 x6 M) else (F_3_firstDoors_94 k33 x1 x2 x7 (x4 + (-1)) (x5 ||| ((1 : Int32) <<< (x6 &&& 31))) x6 M)
def P_3_firstDoors_74 (pk33 : Int32 → Int32 → Int32 → Int32 → Int32 → Int32 → Mem → Prop) (x1 : Int32) (x2 : Int32) (x3 : Int32) (x4 : Int32) (x5 : Int32) (x6 : Int32) (x7 : Int32) (xs0 : Int32) (M : Mem) : Prop := ((x4 ≤ xs0 → P_3_firstDoors_94 pk33 x1 x2 x3 x4 x5 x6 M) ∧ (¬ x4 ≤ xs0 → (P_3_firstDoors_94 pk33 x1 x2 x7 (x4 + (-1)) (x5 ||| ((1 : Int32) <<< (x6 &&& 31))) x6 M)))
theorem T_3_firstDoors_74 {g : Gl} (k33 : Int32 → Int32 → Int32 → Int32 → Int32 → Int32 → Mem → Int32 × Mem) (pk33 : Int32 → Int32 → Int32 → Int32 → Int32 → Int32 → Mem → Prop) (ih33 : ∀ (x1 : Int32) (x2 : Int32) (x3 : Int32) (x4 : Int32) (x5 : Int32) (x6 : Int32) (M : Mem), pk33 x1 x2 x3 x4 x5 x6 M → Rn g 3 m3_firstDoors 33 [some (.ref 1606), some (.int x1), some (.int x2), some (.int x3), some (.int x4), some (.int x5), some (.int x6), none] [] M (some (.int (k33 x1 x2 x3 x4 x5 x6 M).1)) ((k33 x1 x2 x3 x4 x5 x6 M).2)) (x1 : Int32) (x2 : Int32) (x3 : Int32) (x4 : Int32) (x5 : Int32) (x6 : Int32) (x7 : Int32) (xs0 : Int32) (M : Mem) (hp : P_3_firstDoors_74 pk33 x1 x2 x3 x4 x5 x6 x7 xs0 M) : Rn g 3 m3_firstDoors 74 [some (.ref 1606), some (.int x1), some (.int x2), some (.int x3), some (.int x4), some (.int x5), some (.int x6), some (.int x7)] [.int xs0] M (some (.int (F_3_firstDoors_74 k33 x1 x2 x3 x4 x5 x6 x7 xs0 M).1)) ((F_3_firstDoors_74 k33 x1 x2 x3 x4 x5 x6 x7 xs0 M).2) := by
  rw [F_3_firstDoors_74]
  rw [P_3_firstDoors_74] at hp
  refine b3_firstDoors_74  (fun h => ?_) (fun h => ?_)
  · rw [if_pos h]
    have hp := hp.1 h
    exact T_3_firstDoors_94 k33 pk33 ih33 x1 x2 x3 x4 x5 x6 M hp
  · rw [if_neg h]
    have hp := hp.2 h
    refine b3_firstDoors_79  ?_
    exact T_3_firstDoors_94 k33 pk33 ih33 x1 x2 x7 (x4 + (-1)) (x5 ||| ((1 : Int32) <<< (x6 &&& 31))) x6 M hp
def F_3_firstDoors_33  : Nat → Int32 → Int32 → Int32 → Int32 → Int32 → Int32 → Mem → Int32 × Mem
  | 0, _, _, _, _, _, _, M => (0, M)
  | n + 1, x1, x2, x3, x4, x5, x6, M => if (rd M 1561 1) ≤ x6 then ((x5, M)) else (if x4 ≤ 0 then ((x5, M)) else (if (x3 &&& (((1 : Int32) <<< (x6 &&& 31)) ^^^ (-1))) = x3 then (F_3_firstDoors_94 (F_3_firstDoors_33 n) x1 x2 x3 x4 x5 x6 M) else (F_3_firstDoors_74 (F_3_firstDoors_33 n) x1 x2 x3 x4 x5 x6 (x3 &&& (((1 : Int32) <<< (x6 &&& 31)) ^^^ (-1))) ((F_3_waysApart_0 x1 x2 (x3 &&& (((1 : Int32) <<< (x6 &&& 31)) ^^^ (-1))) M).1) ((F_3_waysApart_0 x1 x2 (x3 &&& (((1 : Int32) <<< (x6 &&& 31)) ^^^ (-1))) M).2))))
def P_3_firstDoors_33  : Nat → Int32 → Int32 → Int32 → Int32 → Int32 → Int32 → Mem → Prop
  | 0, _, _, _, _, _, _, _ => False
  | n + 1, x1, x2, x3, x4, x5, x6, M => (((rd M 1561 1) ≤ x6 → True) ∧ (¬ (rd M 1561 1) ≤ x6 → ((x4 ≤ 0 → True) ∧ (¬ x4 ≤ 0 → (((x3 &&& (((1 : Int32) <<< (x6 &&& 31)) ^^^ (-1))) = x3 → P_3_firstDoors_94 (P_3_firstDoors_33 n) x1 x2 x3 x4 x5 x6 M) ∧ (¬ (x3 &&& (((1 : Int32) <<< (x6 &&& 31)) ^^^ (-1))) = x3 → ((P_3_waysApart_0 x1 x2 (x3 &&& (((1 : Int32) <<< (x6 &&& 31)) ^^^ (-1))) M) ∧ (P_3_firstDoors_74 (P_3_firstDoors_33 n) x1 x2 x3 x4 x5 x6 (x3 &&& (((1 : Int32) <<< (x6 &&& 31)) ^^^ (-1))) ((F_3_waysApart_0 x1 x2 (x3 &&& (((1 : Int32) <<< (x6 &&& 31)) ^^^ (-1))) M).1) ((F_3_waysApart_0 x1 x2 (x3 &&& (((1 : Int32) <<< (x6 &&& 31)) ^^^ (-1))) M).2)))))))))
theorem T_3_firstDoors_33 {g : Gl} : ∀ (n : Nat) (x1 : Int32) (x2 : Int32) (x3 : Int32) (x4 : Int32) (x5 : Int32) (x6 : Int32) (M : Mem) (hp : P_3_firstDoors_33 n x1 x2 x3 x4 x5 x6 M), Rn g 3 m3_firstDoors 33 [some (.ref 1606), some (.int x1), some (.int x2), some (.int x3), some (.int x4), some (.int x5), some (.int x6), none] [] M (some (.int (F_3_firstDoors_33 n x1 x2 x3 x4 x5 x6 M).1)) ((F_3_firstDoors_33 n x1 x2 x3 x4 x5 x6 M).2) := by
  intro n
  induction n with
  | zero => intro x1 x2 x3 x4 x5 x6 M hp; exact hp.elim
  | succ n ih =>
    intro x1 x2 x3 x4 x5 x6 M hp
    rw [F_3_firstDoors_33]
    rw [P_3_firstDoors_33] at hp
    refine b3_firstDoors_33  (fun h => ?_) (fun h => ?_)
    · rw [if_pos h]
      exact b3_firstDoors_100  rfl rfl
    · rw [if_neg h]
      have hp := hp.2 h
      refine b3_firstDoors_45  (fun h => ?_) (fun h => ?_)
      · rw [if_pos h]
        exact b3_firstDoors_100  rfl rfl
      · rw [if_neg h]
        have hp := hp.2 h
        refine b3_firstDoors_50  (fun h => ?_) (fun h => ?_)
        · rw [if_pos h]
          have hp := hp.1 h
          exact T_3_firstDoors_94 (F_3_firstDoors_33 n) (P_3_firstDoors_33 n) ih x1 x2 x3 x4 x5 x6 M hp
        · rw [if_neg h]
          have hp := hp.2 h
          obtain ⟨hc, hp⟩ := hp
          refine b3_firstDoors_66  (C_3_waysApart x1 x2 (x3 &&& (((1 : Int32) <<< (x6 &&& 31)) ^^^ (-1))) M hc) (Nat.le_of_ble_eq_true rfl) ?_
          exact T_3_firstDoors_74 (F_3_firstDoors_33 n) (P_3_firstDoors_33 n) ih x1 x2 x3 x4 x5 x6 (x3 &&& (((1 : Int32) <<< (x6 &&& 31)) ^^^ (-1))) ((F_3_waysApart_0 x1 x2 (x3 &&& (((1 : Int32) <<< (x6 &&& 31)) ^^^ (-1))) M).1) ((F_3_waysApart_0 x1 x2 (x3 &&& (((1 : Int32) <<< (x6 &&& 31)) ^^^ (-1))) M).2) hp
def F_3_firstDoors_25 (x1 : Int32) (x2 : Int32) (x3 : Int32) (xs0 : Int32) (M : Mem) : Int32 × Mem := F_3_firstDoors_33 FU x1 x2 x3 xs0 0 0 M
def P_3_firstDoors_25 (x1 : Int32) (x2 : Int32) (x3 : Int32) (xs0 : Int32) (M : Mem) : Prop := (P_3_firstDoors_33 FU x1 x2 x3 xs0 0 0 M)
theorem T_3_firstDoors_25 {g : Gl} (x1 : Int32) (x2 : Int32) (x3 : Int32) (xs0 : Int32) (M : Mem) (hp : P_3_firstDoors_25 x1 x2 x3 xs0 M) : Rn g 3 m3_firstDoors 25 [some (.ref 1606), some (.int x1), some (.int x2), some (.int x3), none, none, none, none] [.int xs0] M (some (.int (F_3_firstDoors_25 x1 x2 x3 xs0 M).1)) ((F_3_firstDoors_25 x1 x2 x3 xs0 M).2) := by
  rw [F_3_firstDoors_25]
  rw [P_3_firstDoors_25] at hp
  refine b3_firstDoors_25  ?_
  exact T_3_firstDoors_33 FU x1 x2 x3 xs0 0 0 M hp
def F_3_firstDoors_0 (x1 : Int32) (x2 : Int32) (M : Mem) : Int32 × Mem := F_3_firstDoors_25 x1 x2 ((F_4_allDoors_0 M) &&& ((rd M 1622 2) ^^^ (-1))) ((F_3_waysApart_0 x1 x2 ((F_4_allDoors_0 M) &&& ((rd M 1622 2) ^^^ (-1))) M).1) ((F_3_waysApart_0 x1 x2 ((F_4_allDoors_0 M) &&& ((rd M 1622 2) ^^^ (-1))) M).2)
def P_3_firstDoors_0 (x1 : Int32) (x2 : Int32) (M : Mem) : Prop := ((((P_3_waysApart_0 x1 x2 ((F_4_allDoors_0 M) &&& ((rd M 1622 2) ^^^ (-1))) M) ∧ (P_3_firstDoors_25 x1 x2 ((F_4_allDoors_0 M) &&& ((rd M 1622 2) ^^^ (-1))) ((F_3_waysApart_0 x1 x2 ((F_4_allDoors_0 M) &&& ((rd M 1622 2) ^^^ (-1))) M).1) ((F_3_waysApart_0 x1 x2 ((F_4_allDoors_0 M) &&& ((rd M 1622 2) ^^^ (-1))) M).2)))))
theorem T_3_firstDoors_0 {g : Gl} (x1 : Int32) (x2 : Int32) (M : Mem) (hp : P_3_firstDoors_0 x1 x2 M) : Rn g 3 m3_firstDoors 0 [some (.ref 1606), some (.int x1), some (.int x2), none, none, none, none, none] [] M (some (.int (F_3_firstDoors_0 x1 x2 M).1)) ((F_3_firstDoors_0 x1 x2 M).2) := by
  rw [F_3_firstDoors_0]
  rw [P_3_firstDoors_0] at hp
  refine b3_firstDoors_0  (C_4_allDoors  M) (Nat.le_of_ble_eq_true rfl) ?_
  obtain ⟨hc, hp⟩ := hp
  refine b3_firstDoors_7  (C_3_waysApart x1 x2 ((F_4_allDoors_0 M) &&& ((rd M 1622 2) ^^^ (-1))) M hc) (Nat.le_of_ble_eq_true rfl) ?_
  exact T_3_firstDoors_25 x1 x2 ((F_4_allDoors_0 M) &&& ((rd M 1622 2) ^^^ (-1))) ((F_3_waysApart_0 x1 x2 ((F_4_allDoors_0 M) &&& ((rd M 1622 2) ^^^ (-1))) M).1) ((F_3_waysApart_0 x1 x2 ((F_4_allDoors_0 M) &&& ((rd M 1622 2) ^^^ (-1))) M).2) hp
theorem C_3_firstDoors {g : Gl}  (x1 : Int32) (x2 : Int32) (M : Mem) (hp : P_3_firstDoors_0 x1 x2 M) : Ms g 3 m3_firstDoors [.ref 1606, .int x1, .int x2] M (some (.int (F_3_firstDoors_0 x1 x2 M).1)) ((F_3_firstDoors_0 x1 x2 M).2) := Ms.of okM_m3_firstDoors (Nat.le_of_ble_eq_true rfl) (R_wk (lc rfl (lc rfl (lc rfl (ln (ln (ln (ln (ln l0)))))))) (T_3_firstDoors_0 x1 x2 M hp))
def F_4_copyFrom_0 (M : Mem) : Mem := (cpM (cpM (cpM (cpM (cpM (cpM (cpM (cpM (cpM (cpM (wr (wr (wr (wr M 1561 0 (rd M 1572 0)) 1561 1 (rd (wr M 1561 0 (rd M 1572 0)) 1572 1)) 1561 2 (rd (wr (wr M 1561 0 (rd M 1572 0)) 1561 1 (rd (wr M 1561 0 (rd M 1572 0)) 1572 1)) 1572 2)) 1561 3 (rd (wr (wr (wr M 1561 0 (rd M 1572 0)) 1561 1 (rd (wr M 1561 0 (rd M 1572 0)) 1572 1)) 1561 2 (rd (wr (wr M 1561 0 (rd M 1572 0)) 1561 1 (rd (wr M 1561 0 (rd M 1572 0)) 1572 1)) 1572 2)) 1572 3)) 1573 (0 : Int32).toNatClampNeg 1562 (0 : Int32).toNatClampNeg (10 : Int32).toNatClampNeg) 1574 (0 : Int32).toNatClampNeg 1563 (0 : Int32).toNatClampNeg (10 : Int32).toNatClampNeg) 1575 (0 : Int32).toNatClampNeg 1564 (0 : Int32).toNatClampNeg (10 : Int32).toNatClampNeg) 1576 (0 : Int32).toNatClampNeg 1565 (0 : Int32).toNatClampNeg (10 : Int32).toNatClampNeg) 1577 (0 : Int32).toNatClampNeg 1566 (0 : Int32).toNatClampNeg (8 : Int32).toNatClampNeg) 1578 (0 : Int32).toNatClampNeg 1567 (0 : Int32).toNatClampNeg (24 : Int32).toNatClampNeg) 1579 (0 : Int32).toNatClampNeg 1568 (0 : Int32).toNatClampNeg (24 : Int32).toNatClampNeg) 1580 (0 : Int32).toNatClampNeg 1569 (0 : Int32).toNatClampNeg (24 : Int32).toNatClampNeg) 1581 (0 : Int32).toNatClampNeg 1570 (0 : Int32).toNatClampNeg (24 : Int32).toNatClampNeg) 1582 (0 : Int32).toNatClampNeg 1571 (0 : Int32).toNatClampNeg (6 : Int32).toNatClampNeg)
theorem T_4_copyFrom_0 {g : Gl} (M : Mem)  : Rn g 1 m4_copyFrom 0 [some (.ref 1561), some (.ref 1572)] [] M (none) ((F_4_copyFrom_0 M)) := by
  rw [F_4_copyFrom_0]
  refine b4_copyFrom_0 (Nat.le_of_ble_eq_true rfl) ?_
  refine b4_copyFrom_47 (Nat.le_of_ble_eq_true rfl) ?_
  refine b4_copyFrom_62 (Nat.le_of_ble_eq_true rfl) ?_
  refine b4_copyFrom_77 (Nat.le_of_ble_eq_true rfl) ?_
  refine b4_copyFrom_92 (Nat.le_of_ble_eq_true rfl) ?_
  refine b4_copyFrom_107 (Nat.le_of_ble_eq_true rfl) ?_
  refine b4_copyFrom_122 (Nat.le_of_ble_eq_true rfl) ?_
  refine b4_copyFrom_137 (Nat.le_of_ble_eq_true rfl) ?_
  refine b4_copyFrom_152 (Nat.le_of_ble_eq_true rfl) ?_
  refine b4_copyFrom_167 (Nat.le_of_ble_eq_true rfl) ?_
  exact b4_copyFrom_182  rfl rfl
theorem C_4_copyFrom {g : Gl}   (M : Mem)  : Ms g 1 m4_copyFrom [.ref 1561, .ref 1572] M (none) ((F_4_copyFrom_0 M)) := Ms.of okM_m4_copyFrom (Nat.le_of_ble_eq_true rfl) (R_wk (lc rfl (lc rfl l0)) (T_4_copyFrom_0 M))
def F_4_clear_22  : Nat → Int32 → Mem → Mem
  | 0, _, M => M
  | n + 1, x1, M => if (8 : Int32) ≤ x1 then (M) else ((F_4_clear_22 n) (x1 + 1) (wr M 1577 x1.toNatClampNeg 0))
def P_4_clear_22  : Nat → Int32 → Mem → Prop
  | 0, _, _ => False
  | n + 1, x1, M => (((8 : Int32) ≤ x1 → True) ∧ (¬ (8 : Int32) ≤ x1 → (vp_in x1 8) ∧ ((P_4_clear_22 n) (x1 + 1) (wr M 1577 x1.toNatClampNeg 0))))
theorem T_4_clear_22 {g : Gl} : ∀ (n : Nat) (x1 : Int32) (M : Mem) (hp : P_4_clear_22 n x1 M), Rn g 0 m4_clear 22 [some (.ref 1572), some (.int x1)] [] M (none) ((F_4_clear_22 n x1 M)) := by
  intro n
  induction n with
  | zero => intro x1 M hp; exact hp.elim
  | succ n ih =>
    intro x1 M hp
    rw [F_4_clear_22]
    rw [P_4_clear_22] at hp
    refine b4_clear_22  (fun h => ?_) (fun h => ?_)
    · rw [if_pos h]
      exact b4_clear_41  rfl rfl
    · rw [if_neg h]
      have hp := hp.2 h
      obtain ⟨p0, hp⟩ := hp
      refine b4_clear_28 p0 ?_
      exact ih (x1 + 1) (wr M 1577 x1.toNatClampNeg 0) hp
def F_4_clear_0 (M : Mem) : Mem := F_4_clear_22 FU 0 (wr (wr (wr (wr M 1572 0 0) 1572 1 0) 1572 2 0) 1572 3 0)
def P_4_clear_0 (M : Mem) : Prop := (P_4_clear_22 FU 0 (wr (wr (wr (wr M 1572 0 0) 1572 1 0) 1572 2 0) 1572 3 0))
theorem T_4_clear_0 {g : Gl} (M : Mem) (hp : P_4_clear_0 M) : Rn g 0 m4_clear 0 [some (.ref 1572), none] [] M (none) ((F_4_clear_0 M)) := by
  rw [F_4_clear_0]
  rw [P_4_clear_0] at hp
  refine b4_clear_0  ?_
  exact T_4_clear_22 FU 0 (wr (wr (wr (wr M 1572 0 0) 1572 1 0) 1572 2 0) 1572 3 0) hp
theorem C_4_clear {g : Gl}   (M : Mem) (hp : P_4_clear_0 M) : Ms g 0 m4_clear [.ref 1572] M (none) ((F_4_clear_0 M)) := Ms.of okM_m4_clear (Nat.le_of_ble_eq_true rfl) (R_wk (lc rfl (ln l0)) (T_4_clear_0 M hp))
def F_5_atEnd_4 (xs0 : Int32) (M : Mem) : Int32 × Mem := if xs0 = (-1) then ((1, M)) else ((0, M))
theorem T_5_atEnd_4 {g : Gl} (xs0 : Int32) (M : Mem)  : Rn g 1 m5_atEnd 4 [none] [.int xs0] M (some (.int (F_5_atEnd_4 xs0 M).1)) ((F_5_atEnd_4 xs0 M).2) := by
  rw [F_5_atEnd_4]
  refine b5_atEnd_4  (fun h => ?_) (fun h => ?_)
  · rw [if_neg h]
    refine b5_atEnd_12  ?_
    exact b5_atEnd_13  rfl rfl rfl
  · rw [if_pos h]
    refine b5_atEnd_8  ?_
    exact b5_atEnd_13  rfl rfl rfl
def F_5_atEnd_0 (M : Mem) : Int32 × Mem := F_5_atEnd_4 ((F_5_peek_0 FU M).1) ((F_5_peek_0 FU M).2)
def P_5_atEnd_0 (M : Mem) : Prop := ((P_5_peek_0 FU M))
theorem T_5_atEnd_0 {g : Gl} (M : Mem) (hp : P_5_atEnd_0 M) : Rn g 1 m5_atEnd 0 [some (.ref 1560)] [] M (some (.int (F_5_atEnd_0 M).1)) ((F_5_atEnd_0 M).2) := by
  rw [F_5_atEnd_0]
  rw [P_5_atEnd_0] at hp
  have hc := hp
  refine b5_atEnd_0  (C_5_peek  M hc) (Nat.le_of_ble_eq_true rfl) ?_
  exact T_5_atEnd_4 ((F_5_peek_0 FU M).1) ((F_5_peek_0 FU M).2)
theorem C_5_atEnd {g : Gl}   (M : Mem) (hp : P_5_atEnd_0 M) : Ms g 1 m5_atEnd [.ref 1560] M (some (.int (F_5_atEnd_0 M).1)) ((F_5_atEnd_0 M).2) := Ms.of okM_m5_atEnd (Nat.le_of_ble_eq_true rfl) (R_wk (lc rfl l0) (T_5_atEnd_0 M hp))
def F_4_readRoom_6 (xs0 : Int32) (M : Mem) : Int32 × Mem := if xs0 = 0 then ((0, M)) else ((1, wr (wr (wr (wr (wr (wr M 1573 ((rd M 1572 0).toNatClampNeg) (rd M 1560 5)) 1574 ((rd (wr M 1573 ((rd M 1572 0).toNatClampNeg) (rd M 1560 5)) 1572 0).toNatClampNeg) 16) 1575 ((rd (wr (wr M 1573 ((rd M 1572 0).toNatClampNeg) (rd M 1560 5)) 1574 ((rd (wr M 1573 ((rd M 1572 0).toNatClampNeg) (rd M 1560 5)) 1572 0).toNatClampNeg) 16) 1572 0).toNatClampNeg) 0) 1576 ((rd (wr (wr (wr M 1573 ((rd M 1572 0).toNatClampNeg) (rd M 1560 5)) 1574 ((rd (wr M 1573 ((rd M 1572 0).toNatClampNeg) (rd M 1560 5)) 1572 0).toNatClampNeg) 16) 1575 ((rd (wr (wr M 1573 ((rd M 1572 0).toNatClampNeg) (rd M 1560 5)) 1574 ((rd (wr M 1573 ((rd M 1572 0).toNatClampNeg) (rd M 1560 5)) 1572 0).toNatClampNeg) 16) 1572 0).toNatClampNeg) 0) 1572 0).toNatClampNeg) 0) 1577 ((rd (wr (wr (wr (wr M 1573 ((rd M 1572 0).toNatClampNeg) (rd M 1560 5)) 1574 ((rd (wr M 1573 ((rd M 1572 0).toNatClampNeg) (rd M 1560 5)) 1572 0).toNatClampNeg) 16) 1575 ((rd (wr (wr M 1573 ((rd M 1572 0).toNatClampNeg) (rd M 1560 5)) 1574 ((rd (wr M 1573 ((rd M 1572 0).toNatClampNeg) (rd M 1560 5)) 1572 0).toNatClampNeg) 16) 1572 0).toNatClampNeg) 0) 1576 ((rd (wr (wr (wr M 1573 ((rd M 1572 0).toNatClampNeg) (rd M 1560 5)) 1574 ((rd (wr M 1573 ((rd M 1572 0).toNatClampNeg) (rd M 1560 5)) 1572 0).toNatClampNeg) 16) 1575 ((rd (wr (wr M 1573 ((rd M 1572 0).toNatClampNeg) (rd M 1560 5)) 1574 ((rd (wr M 1573 ((rd M 1572 0).toNatClampNeg) (rd M 1560 5)) 1572 0).toNatClampNeg) 16) 1572 0).toNatClampNeg) 0) 1572 0).toNatClampNeg) 0) 1560 5).toNatClampNeg) ((rd (wr (wr (wr (wr M 1573 ((rd M 1572 0).toNatClampNeg) (rd M 1560 5)) 1574 ((rd (wr M 1573 ((rd M 1572 0).toNatClampNeg) (rd M 1560 5)) 1572 0).toNatClampNeg) 16) 1575 ((rd (wr (wr M 1573 ((rd M 1572 0).toNatClampNeg) (rd M 1560 5)) 1574 ((rd (wr M 1573 ((rd M 1572 0).toNatClampNeg) (rd M 1560 5)) 1572 0).toNatClampNeg) 16) 1572 0).toNatClampNeg) 0) 1576 ((rd (wr (wr (wr M 1573 ((rd M 1572 0).toNatClampNeg) (rd M 1560 5)) 1574 ((rd (wr M 1573 ((rd M 1572 0).toNatClampNeg) (rd M 1560 5)) 1572 0).toNatClampNeg) 16) 1575 ((rd (wr (wr M 1573 ((rd M 1572 0).toNatClampNeg) (rd M 1560 5)) 1574 ((rd (wr M 1573 ((rd M 1572 0).toNatClampNeg) (rd M 1560 5)) 1572 0).toNatClampNeg) 16) 1572 0).toNatClampNeg) 0) 1572 0).toNatClampNeg) 0) 1577 ((rd (wr (wr (wr (wr M 1573 ((rd M 1572 0).toNatClampNeg) (rd M 1560 5)) 1574 ((rd (wr M 1573 ((rd M 1572 0).toNatClampNeg) (rd M 1560 5)) 1572 0).toNatClampNeg) 16) 1575 ((rd (wr (wr M 1573 ((rd M 1572 0).toNatClampNeg) (rd M 1560 5)) 1574 ((rd (wr M 1573 ((rd M 1572 0).toNatClampNeg) (rd M 1560 5)) 1572 0).toNatClampNeg) 16) 1572 0).toNatClampNeg) 0) 1576 ((rd (wr (wr (wr M 1573 ((rd M 1572 0).toNatClampNeg) (rd M 1560 5)) 1574 ((rd (wr M 1573 ((rd M 1572 0).toNatClampNeg) (rd M 1560 5)) 1572 0).toNatClampNeg) 16) 1575 ((rd (wr (wr M 1573 ((rd M 1572 0).toNatClampNeg) (rd M 1560 5)) 1574 ((rd (wr M 1573 ((rd M 1572 0).toNatClampNeg) (rd M 1560 5)) 1572 0).toNatClampNeg) 16) 1572 0).toNatClampNeg) 0) 1572 0).toNatClampNeg) 0) 1560 5).toNatClampNeg)) ||| ((1 : Int32) <<< ((rd (wr (wr (wr (wr M 1573 ((rd M 1572 0).toNatClampNeg) (rd M 1560 5)) 1574 ((rd (wr M 1573 ((rd M 1572 0).toNatClampNeg) (rd M 1560 5)) 1572 0).toNatClampNeg) 16) 1575 ((rd (wr (wr M 1573 ((rd M 1572 0).toNatClampNeg) (rd M 1560 5)) 1574 ((rd (wr M 1573 ((rd M 1572 0).toNatClampNeg) (rd M 1560 5)) 1572 0).toNatClampNeg) 16) 1572 0).toNatClampNeg) 0) 1576 ((rd (wr (wr (wr M 1573 ((rd M 1572 0).toNatClampNeg) (rd M 1560 5)) 1574 ((rd (wr M 1573 ((rd M 1572 0).toNatClampNeg) (rd M 1560 5)) 1572 0).toNatClampNeg) 16) 1575 ((rd (wr (wr M 1573 ((rd M 1572 0).toNatClampNeg) (rd M 1560 5)) 1574 ((rd (wr M 1573 ((rd M 1572 0).toNatClampNeg) (rd M 1560 5)) 1572 0).toNatClampNeg) 16) 1572 0).toNatClampNeg) 0) 1572 0).toNatClampNeg) 0) 1572 0) &&& 31)))) 1572 0 ((rd (wr (wr (wr (wr (wr M 1573 ((rd M 1572 0).toNatClampNeg) (rd M 1560 5)) 1574 ((rd (wr M 1573 ((rd M 1572 0).toNatClampNeg) (rd M 1560 5)) 1572 0).toNatClampNeg) 16) 1575 ((rd (wr (wr M 1573 ((rd M 1572 0).toNatClampNeg) (rd M 1560 5)) 1574 ((rd (wr M 1573 ((rd M 1572 0).toNatClampNeg) (rd M 1560 5)) 1572 0).toNatClampNeg) 16) 1572 0).toNatClampNeg) 0) 1576 ((rd (wr (wr (wr M 1573 ((rd M 1572 0).toNatClampNeg) (rd M 1560 5)) 1574 ((rd (wr M 1573 ((rd M 1572 0).toNatClampNeg) (rd M 1560 5)) 1572 0).toNatClampNeg) 16) 1575 ((rd (wr (wr M 1573 ((rd M 1572 0).toNatClampNeg) (rd M 1560 5)) 1574 ((rd (wr M 1573 ((rd M 1572 0).toNatClampNeg) (rd M 1560 5)) 1572 0).toNatClampNeg) 16) 1572 0).toNatClampNeg) 0) 1572 0).toNatClampNeg) 0) 1577 ((rd (wr (wr (wr (wr M 1573 ((rd M 1572 0).toNatClampNeg) (rd M 1560 5)) 1574 ((rd (wr M 1573 ((rd M 1572 0).toNatClampNeg) (rd M 1560 5)) 1572 0).toNatClampNeg) 16) 1575 ((rd (wr (wr M 1573 ((rd M 1572 0).toNatClampNeg) (rd M 1560 5)) 1574 ((rd (wr M 1573 ((rd M 1572 0).toNatClampNeg) (rd M 1560 5)) 1572 0).toNatClampNeg) 16) 1572 0).toNatClampNeg) 0) 1576 ((rd (wr (wr (wr M 1573 ((rd M 1572 0).toNatClampNeg) (rd M 1560 5)) 1574 ((rd (wr M 1573 ((rd M 1572 0).toNatClampNeg) (rd M 1560 5)) 1572 0).toNatClampNeg) 16) 1575 ((rd (wr (wr M 1573 ((rd M 1572 0).toNatClampNeg) (rd M 1560 5)) 1574 ((rd (wr M 1573 ((rd M 1572 0).toNatClampNeg) (rd M 1560 5)) 1572 0).toNatClampNeg) 16) 1572 0).toNatClampNeg) 0) 1572 0).toNatClampNeg) 0) 1560 5).toNatClampNeg) ((rd (wr (wr (wr (wr M 1573 ((rd M 1572 0).toNatClampNeg) (rd M 1560 5)) 1574 ((rd (wr M 1573 ((rd M 1572 0).toNatClampNeg) (rd M 1560 5)) 1572 0).toNatClampNeg) 16) 1575 ((rd (wr (wr M 1573 ((rd M 1572 0).toNatClampNeg) (rd M 1560 5)) 1574 ((rd (wr M 1573 ((rd M 1572 0).toNatClampNeg) (rd M 1560 5)) 1572 0).toNatClampNeg) 16) 1572 0).toNatClampNeg) 0) 1576 ((rd (wr (wr (wr M 1573 ((rd M 1572 0).toNatClampNeg) (rd M 1560 5)) 1574 ((rd (wr M 1573 ((rd M 1572 0).toNatClampNeg) (rd M 1560 5)) 1572 0).toNatClampNeg) 16) 1575 ((rd (wr (wr M 1573 ((rd M 1572 0).toNatClampNeg) (rd M 1560 5)) 1574 ((rd (wr M 1573 ((rd M 1572 0).toNatClampNeg) (rd M 1560 5)) 1572 0).toNatClampNeg) 16) 1572 0).toNatClampNeg) 0) 1572 0).toNatClampNeg) 0) 1577 ((rd (wr (wr (wr (wr M 1573 ((rd M 1572 0).toNatClampNeg) (rd M 1560 5)) 1574 ((rd (wr M 1573 ((rd M 1572 0).toNatClampNeg) (rd M 1560 5)) 1572 0).toNatClampNeg) 16) 1575 ((rd (wr (wr M 1573 ((rd M 1572 0).toNatClampNeg) (rd M 1560 5)) 1574 ((rd (wr M 1573 ((rd M 1572 0).toNatClampNeg) (rd M 1560 5)) 1572 0).toNatClampNeg) 16) 1572 0).toNatClampNeg) 0) 1576 ((rd (wr (wr (wr M 1573 ((rd M 1572 0).toNatClampNeg) (rd M 1560 5)) 1574 ((rd (wr M 1573 ((rd M 1572 0).toNatClampNeg) (rd M 1560 5)) 1572 0).toNatClampNeg) 16) 1575 ((rd (wr (wr M 1573 ((rd M 1572 0).toNatClampNeg) (rd M 1560 5)) 1574 ((rd (wr M 1573 ((rd M 1572 0).toNatClampNeg) (rd M 1560 5)) 1572 0).toNatClampNeg) 16) 1572 0).toNatClampNeg) 0) 1572 0).toNatClampNeg) 0) 1560 5).toNatClampNeg)) ||| ((1 : Int32) <<< ((rd (wr (wr (wr (wr M 1573 ((rd M 1572 0).toNatClampNeg) (rd M 1560 5)) 1574 ((rd (wr M 1573 ((rd M 1572 0).toNatClampNeg) (rd M 1560 5)) 1572 0).toNatClampNeg) 16) 1575 ((rd (wr (wr M 1573 ((rd M 1572 0).toNatClampNeg) (rd M 1560 5)) 1574 ((rd (wr M 1573 ((rd M 1572 0).toNatClampNeg) (rd M 1560 5)) 1572 0).toNatClampNeg) 16) 1572 0).toNatClampNeg) 0) 1576 ((rd (wr (wr (wr M 1573 ((rd M 1572 0).toNatClampNeg) (rd M 1560 5)) 1574 ((rd (wr M 1573 ((rd M 1572 0).toNatClampNeg) (rd M 1560 5)) 1572 0).toNatClampNeg) 16) 1575 ((rd (wr (wr M 1573 ((rd M 1572 0).toNatClampNeg) (rd M 1560 5)) 1574 ((rd (wr M 1573 ((rd M 1572 0).toNatClampNeg) (rd M 1560 5)) 1572 0).toNatClampNeg) 16) 1572 0).toNatClampNeg) 0) 1572 0).toNatClampNeg) 0) 1572 0) &&& 31)))) 1572 0) + 1)))
def P_4_readRoom_6 (xs0 : Int32) (M : Mem) : Prop := ((¬ xs0 = 0 → (vp_in (rd M 1572 0) 10) ∧ (vp_in (rd (wr M 1573 ((rd M 1572 0).toNatClampNeg) (rd M 1560 5)) 1572 0) 10) ∧ (vp_in (rd (wr (wr M 1573 ((rd M 1572 0).toNatClampNeg) (rd M 1560 5)) 1574 ((rd (wr M 1573 ((rd M 1572 0).toNatClampNeg) (rd M 1560 5)) 1572 0).toNatClampNeg) 16) 1572 0) 10) ∧ (vp_in (rd (wr (wr (wr M 1573 ((rd M 1572 0).toNatClampNeg) (rd M 1560 5)) 1574 ((rd (wr M 1573 ((rd M 1572 0).toNatClampNeg) (rd M 1560 5)) 1572 0).toNatClampNeg) 16) 1575 ((rd (wr (wr M 1573 ((rd M 1572 0).toNatClampNeg) (rd M 1560 5)) 1574 ((rd (wr M 1573 ((rd M 1572 0).toNatClampNeg) (rd M 1560 5)) 1572 0).toNatClampNeg) 16) 1572 0).toNatClampNeg) 0) 1572 0) 10) ∧ (vp_in (rd (wr (wr (wr (wr M 1573 ((rd M 1572 0).toNatClampNeg) (rd M 1560 5)) 1574 ((rd (wr M 1573 ((rd M 1572 0).toNatClampNeg) (rd M 1560 5)) 1572 0).toNatClampNeg) 16) 1575 ((rd (wr (wr M 1573 ((rd M 1572 0).toNatClampNeg) (rd M 1560 5)) 1574 ((rd (wr M 1573 ((rd M 1572 0).toNatClampNeg) (rd M 1560 5)) 1572 0).toNatClampNeg) 16) 1572 0).toNatClampNeg) 0) 1576 ((rd (wr (wr (wr M 1573 ((rd M 1572 0).toNatClampNeg) (rd M 1560 5)) 1574 ((rd (wr M 1573 ((rd M 1572 0).toNatClampNeg) (rd M 1560 5)) 1572 0).toNatClampNeg) 16) 1575 ((rd (wr (wr M 1573 ((rd M 1572 0).toNatClampNeg) (rd M 1560 5)) 1574 ((rd (wr M 1573 ((rd M 1572 0).toNatClampNeg) (rd M 1560 5)) 1572 0).toNatClampNeg) 16) 1572 0).toNatClampNeg) 0) 1572 0).toNatClampNeg) 0) 1560 5) 8)) ∧ (xs0 = 0 → True))
theorem T_4_readRoom_6 {g : Gl} (xs0 : Int32) (M : Mem) (hp : P_4_readRoom_6 xs0 M) : Rn g 2 m4_readRoom 6 [some (.ref 1572), some (.ref 1560)] [.int xs0] M (some (.int (F_4_readRoom_6 xs0 M).1)) ((F_4_readRoom_6 xs0 M).2) := by
  rw [F_4_readRoom_6]
  rw [P_4_readRoom_6] at hp
  refine b4_readRoom_6  (fun h => ?_) (fun h => ?_)
  · rw [if_neg h]
    have hp := hp.1 h
    obtain ⟨p0, p1, p2, p3, p4⟩ := hp
    exact b4_readRoom_11 p0 p1 p2 p3 p4 rfl rfl
  · rw [if_pos h]
    exact b4_readRoom_9  rfl rfl
def F_4_readRoom_0 (M : Mem) : Int32 × Mem := F_4_readRoom_6 ((F_5_needsNumber_0 7 M).1) ((F_5_needsNumber_0 7 M).2)
def P_4_readRoom_0 (M : Mem) : Prop := ((P_5_needsNumber_0 7 M) ∧ (P_4_readRoom_6 ((F_5_needsNumber_0 7 M).1) ((F_5_needsNumber_0 7 M).2)))
theorem T_4_readRoom_0 {g : Gl} (M : Mem) (hp : P_4_readRoom_0 M) : Rn g 2 m4_readRoom 0 [some (.ref 1572), some (.ref 1560)] [] M (some (.int (F_4_readRoom_0 M).1)) ((F_4_readRoom_0 M).2) := by
  rw [F_4_readRoom_0]
  rw [P_4_readRoom_0] at hp
  obtain ⟨hc, hp⟩ := hp
  refine b4_readRoom_0  (C_5_needsNumber 7 M hc) (Nat.le_of_ble_eq_true rfl) ?_
  exact T_4_readRoom_6 ((F_5_needsNumber_0 7 M).1) ((F_5_needsNumber_0 7 M).2) hp
theorem C_4_readRoom {g : Gl}   (M : Mem) (hp : P_4_readRoom_0 M) : Ms g 2 m4_readRoom [.ref 1572, .ref 1560] M (some (.int (F_4_readRoom_0 M).1)) ((F_4_readRoom_0 M).2) := Ms.of okM_m4_readRoom (Nat.le_of_ble_eq_true rfl) (R_wk (lc rfl (lc rfl l0)) (T_4_readRoom_0 M hp))
def F_4_readDoor_54 (xs0 : Int32) (M : Mem) : Int32 × Mem := (xs0, M)
def P_4_readDoor_54 (xs0 : Int32) (M : Mem) : Prop := (narrow .boolean (.int xs0) = .int xs0)
theorem T_4_readDoor_54 {g : Gl} (xs0 : Int32) (M : Mem) (hp : P_4_readDoor_54 xs0 M) : Rn g 2 m4_readDoor 54 [none, none, none, none] [.int xs0] M (some (.int (F_4_readDoor_54 xs0 M).1)) ((F_4_readDoor_54 xs0 M).2) := by
  rw [F_4_readDoor_54]
  rw [P_4_readDoor_54] at hp
  have p0 := hp
  exact b4_readDoor_54  rfl rfl p0
def F_4_readDoor_133 (xs0 : Int32) (M : Mem) : Int32 × Mem := (xs0, M)
def P_4_readDoor_133 (xs0 : Int32) (M : Mem) : Prop := (narrow .boolean (.int xs0) = .int xs0)
theorem T_4_readDoor_133 {g : Gl} (xs0 : Int32) (M : Mem) (hp : P_4_readDoor_133 xs0 M) : Rn g 2 m4_readDoor 133 [none, none, none, none] [.int xs0] M (some (.int (F_4_readDoor_133 xs0 M).1)) ((F_4_readDoor_133 xs0 M).2) := by
  rw [F_4_readDoor_133]
  rw [P_4_readDoor_133] at hp
  have p0 := hp
  exact b4_readDoor_133  rfl rfl p0
def F_4_readDoor_124 (M : Mem) : Int32 × Mem := F_4_readDoor_133 ((F_5_fail_0 2 (rd M 1560 4) M).1) ((F_5_fail_0 2 (rd M 1560 4) M).2)
def P_4_readDoor_124 (M : Mem) : Prop := ((P_4_readDoor_133 ((F_5_fail_0 2 (rd M 1560 4) M).1) ((F_5_fail_0 2 (rd M 1560 4) M).2)))
theorem T_4_readDoor_124 {g : Gl} (M : Mem) (hp : P_4_readDoor_124 M) : Rn g 2 m4_readDoor 124 [none, some (.ref 1560), none, none] [] M (some (.int (F_4_readDoor_124 M).1)) ((F_4_readDoor_124 M).2) := by
  rw [F_4_readDoor_124]
  rw [P_4_readDoor_124] at hp
  refine b4_readDoor_124  (C_5_fail 2 (rd M 1560 4) M) (Nat.le_of_ble_eq_true rfl) ?_
  exact T_4_readDoor_133 ((F_5_fail_0 2 (rd M 1560 4) M).1) ((F_5_fail_0 2 (rd M 1560 4) M).2) hp
def F_4_readDoor_90 (x2 : Int32) (x3 : Int32) (M : Mem) : Int32 × Mem := if (rd (wr M 1581 ((rd M 1572 1).toNatClampNeg) (rd M 1560 5)) 1580 ((rd (wr M 1581 ((rd M 1572 1).toNatClampNeg) (rd M 1560 5)) 1572 1).toNatClampNeg)) ≤ (rd (wr M 1581 ((rd M 1572 1).toNatClampNeg) (rd M 1560 5)) 1581 ((rd (wr M 1581 ((rd M 1572 1).toNatClampNeg) (rd M 1560 5)) 1572 1).toNatClampNeg)) then ((1, wr (wr (wr (wr (wr (wr M 1581 ((rd M 1572 1).toNatClampNeg) (rd M 1560 5)) 1578 ((rd (wr M 1581 ((rd M 1572 1).toNatClampNeg) (rd M 1560 5)) 1572 1).toNatClampNeg) x2) 1579 ((rd (wr (wr M 1581 ((rd M 1572 1).toNatClampNeg) (rd M 1560 5)) 1578 ((rd (wr M 1581 ((rd M 1572 1).toNatClampNeg) (rd M 1560 5)) 1572 1).toNatClampNeg) x2) 1572 1).toNatClampNeg) x3) 1575 x2.toNatClampNeg ((rd (wr (wr (wr M 1581 ((rd M 1572 1).toNatClampNeg) (rd M 1560 5)) 1578 ((rd (wr M 1581 ((rd M 1572 1).toNatClampNeg) (rd M 1560 5)) 1572 1).toNatClampNeg) x2) 1579 ((rd (wr (wr M 1581 ((rd M 1572 1).toNatClampNeg) (rd M 1560 5)) 1578 ((rd (wr M 1581 ((rd M 1572 1).toNatClampNeg) (rd M 1560 5)) 1572 1).toNatClampNeg) x2) 1572 1).toNatClampNeg) x3) 1575 x2.toNatClampNeg) ||| ((1 : Int32) <<< ((rd (wr (wr (wr M 1581 ((rd M 1572 1).toNatClampNeg) (rd M 1560 5)) 1578 ((rd (wr M 1581 ((rd M 1572 1).toNatClampNeg) (rd M 1560 5)) 1572 1).toNatClampNeg) x2) 1579 ((rd (wr (wr M 1581 ((rd M 1572 1).toNatClampNeg) (rd M 1560 5)) 1578 ((rd (wr M 1581 ((rd M 1572 1).toNatClampNeg) (rd M 1560 5)) 1572 1).toNatClampNeg) x2) 1572 1).toNatClampNeg) x3) 1572 1) &&& 31)))) 1576 x3.toNatClampNeg ((rd (wr (wr (wr (wr M 1581 ((rd M 1572 1).toNatClampNeg) (rd M 1560 5)) 1578 ((rd (wr M 1581 ((rd M 1572 1).toNatClampNeg) (rd M 1560 5)) 1572 1).toNatClampNeg) x2) 1579 ((rd (wr (wr M 1581 ((rd M 1572 1).toNatClampNeg) (rd M 1560 5)) 1578 ((rd (wr M 1581 ((rd M 1572 1).toNatClampNeg) (rd M 1560 5)) 1572 1).toNatClampNeg) x2) 1572 1).toNatClampNeg) x3) 1575 x2.toNatClampNeg ((rd (wr (wr (wr M 1581 ((rd M 1572 1).toNatClampNeg) (rd M 1560 5)) 1578 ((rd (wr M 1581 ((rd M 1572 1).toNatClampNeg) (rd M 1560 5)) 1572 1).toNatClampNeg) x2) 1579 ((rd (wr (wr M 1581 ((rd M 1572 1).toNatClampNeg) (rd M 1560 5)) 1578 ((rd (wr M 1581 ((rd M 1572 1).toNatClampNeg) (rd M 1560 5)) 1572 1).toNatClampNeg) x2) 1572 1).toNatClampNeg) x3) 1575 x2.toNatClampNeg) ||| ((1 : Int32) <<< ((rd (wr (wr (wr M 1581 ((rd M 1572 1).toNatClampNeg) (rd M 1560 5)) 1578 ((rd (wr M 1581 ((rd M 1572 1).toNatClampNeg) (rd M 1560 5)) 1572 1).toNatClampNeg) x2) 1579 ((rd (wr (wr M 1581 ((rd M 1572 1).toNatClampNeg) (rd M 1560 5)) 1578 ((rd (wr M 1581 ((rd M 1572 1).toNatClampNeg) (rd M 1560 5)) 1572 1).toNatClampNeg) x2) 1572 1).toNatClampNeg) x3) 1572 1) &&& 31)))) 1576 x3.toNatClampNeg) ||| ((1 : Int32) <<< ((rd (wr (wr (wr (wr M 1581 ((rd M 1572 1).toNatClampNeg) (rd M 1560 5)) 1578 ((rd (wr M 1581 ((rd M 1572 1).toNatClampNeg) (rd M 1560 5)) 1572 1).toNatClampNeg) x2) 1579 ((rd (wr (wr M 1581 ((rd M 1572 1).toNatClampNeg) (rd M 1560 5)) 1578 ((rd (wr M 1581 ((rd M 1572 1).toNatClampNeg) (rd M 1560 5)) 1572 1).toNatClampNeg) x2) 1572 1).toNatClampNeg) x3) 1575 x2.toNatClampNeg ((rd (wr (wr (wr M 1581 ((rd M 1572 1).toNatClampNeg) (rd M 1560 5)) 1578 ((rd (wr M 1581 ((rd M 1572 1).toNatClampNeg) (rd M 1560 5)) 1572 1).toNatClampNeg) x2) 1579 ((rd (wr (wr M 1581 ((rd M 1572 1).toNatClampNeg) (rd M 1560 5)) 1578 ((rd (wr M 1581 ((rd M 1572 1).toNatClampNeg) (rd M 1560 5)) 1572 1).toNatClampNeg) x2) 1572 1).toNatClampNeg) x3) 1575 x2.toNatClampNeg) ||| ((1 : Int32) <<< ((rd (wr (wr (wr M 1581 ((rd M 1572 1).toNatClampNeg) (rd M 1560 5)) 1578 ((rd (wr M 1581 ((rd M 1572 1).toNatClampNeg) (rd M 1560 5)) 1572 1).toNatClampNeg) x2) 1579 ((rd (wr (wr M 1581 ((rd M 1572 1).toNatClampNeg) (rd M 1560 5)) 1578 ((rd (wr M 1581 ((rd M 1572 1).toNatClampNeg) (rd M 1560 5)) 1572 1).toNatClampNeg) x2) 1572 1).toNatClampNeg) x3) 1572 1) &&& 31)))) 1572 1) &&& 31)))) 1572 1 ((rd (wr (wr (wr (wr (wr M 1581 ((rd M 1572 1).toNatClampNeg) (rd M 1560 5)) 1578 ((rd (wr M 1581 ((rd M 1572 1).toNatClampNeg) (rd M 1560 5)) 1572 1).toNatClampNeg) x2) 1579 ((rd (wr (wr M 1581 ((rd M 1572 1).toNatClampNeg) (rd M 1560 5)) 1578 ((rd (wr M 1581 ((rd M 1572 1).toNatClampNeg) (rd M 1560 5)) 1572 1).toNatClampNeg) x2) 1572 1).toNatClampNeg) x3) 1575 x2.toNatClampNeg ((rd (wr (wr (wr M 1581 ((rd M 1572 1).toNatClampNeg) (rd M 1560 5)) 1578 ((rd (wr M 1581 ((rd M 1572 1).toNatClampNeg) (rd M 1560 5)) 1572 1).toNatClampNeg) x2) 1579 ((rd (wr (wr M 1581 ((rd M 1572 1).toNatClampNeg) (rd M 1560 5)) 1578 ((rd (wr M 1581 ((rd M 1572 1).toNatClampNeg) (rd M 1560 5)) 1572 1).toNatClampNeg) x2) 1572 1).toNatClampNeg) x3) 1575 x2.toNatClampNeg) ||| ((1 : Int32) <<< ((rd (wr (wr (wr M 1581 ((rd M 1572 1).toNatClampNeg) (rd M 1560 5)) 1578 ((rd (wr M 1581 ((rd M 1572 1).toNatClampNeg) (rd M 1560 5)) 1572 1).toNatClampNeg) x2) 1579 ((rd (wr (wr M 1581 ((rd M 1572 1).toNatClampNeg) (rd M 1560 5)) 1578 ((rd (wr M 1581 ((rd M 1572 1).toNatClampNeg) (rd M 1560 5)) 1572 1).toNatClampNeg) x2) 1572 1).toNatClampNeg) x3) 1572 1) &&& 31)))) 1576 x3.toNatClampNeg ((rd (wr (wr (wr (wr M 1581 ((rd M 1572 1).toNatClampNeg) (rd M 1560 5)) 1578 ((rd (wr M 1581 ((rd M 1572 1).toNatClampNeg) (rd M 1560 5)) 1572 1).toNatClampNeg) x2) 1579 ((rd (wr (wr M 1581 ((rd M 1572 1).toNatClampNeg) (rd M 1560 5)) 1578 ((rd (wr M 1581 ((rd M 1572 1).toNatClampNeg) (rd M 1560 5)) 1572 1).toNatClampNeg) x2) 1572 1).toNatClampNeg) x3) 1575 x2.toNatClampNeg ((rd (wr (wr (wr M 1581 ((rd M 1572 1).toNatClampNeg) (rd M 1560 5)) 1578 ((rd (wr M 1581 ((rd M 1572 1).toNatClampNeg) (rd M 1560 5)) 1572 1).toNatClampNeg) x2) 1579 ((rd (wr (wr M 1581 ((rd M 1572 1).toNatClampNeg) (rd M 1560 5)) 1578 ((rd (wr M 1581 ((rd M 1572 1).toNatClampNeg) (rd M 1560 5)) 1572 1).toNatClampNeg) x2) 1572 1).toNatClampNeg) x3) 1575 x2.toNatClampNeg) ||| ((1 : Int32) <<< ((rd (wr (wr (wr M 1581 ((rd M 1572 1).toNatClampNeg) (rd M 1560 5)) 1578 ((rd (wr M 1581 ((rd M 1572 1).toNatClampNeg) (rd M 1560 5)) 1572 1).toNatClampNeg) x2) 1579 ((rd (wr (wr M 1581 ((rd M 1572 1).toNatClampNeg) (rd M 1560 5)) 1578 ((rd (wr M 1581 ((rd M 1572 1).toNatClampNeg) (rd M 1560 5)) 1572 1).toNatClampNeg) x2) 1572 1).toNatClampNeg) x3) 1572 1) &&& 31)))) 1576 x3.toNatClampNeg) ||| ((1 : Int32) <<< ((rd (wr (wr (wr (wr M 1581 ((rd M 1572 1).toNatClampNeg) (rd M 1560 5)) 1578 ((rd (wr M 1581 ((rd M 1572 1).toNatClampNeg) (rd M 1560 5)) 1572 1).toNatClampNeg) x2) 1579 ((rd (wr (wr M 1581 ((rd M 1572 1).toNatClampNeg) (rd M 1560 5)) 1578 ((rd (wr M 1581 ((rd M 1572 1).toNatClampNeg) (rd M 1560 5)) 1572 1).toNatClampNeg) x2) 1572 1).toNatClampNeg) x3) 1575 x2.toNatClampNeg ((rd (wr (wr (wr M 1581 ((rd M 1572 1).toNatClampNeg) (rd M 1560 5)) 1578 ((rd (wr M 1581 ((rd M 1572 1).toNatClampNeg) (rd M 1560 5)) 1572 1).toNatClampNeg) x2) 1579 ((rd (wr (wr M 1581 ((rd M 1572 1).toNatClampNeg) (rd M 1560 5)) 1578 ((rd (wr M 1581 ((rd M 1572 1).toNatClampNeg) (rd M 1560 5)) 1572 1).toNatClampNeg) x2) 1572 1).toNatClampNeg) x3) 1575 x2.toNatClampNeg) ||| ((1 : Int32) <<< ((rd (wr (wr (wr M 1581 ((rd M 1572 1).toNatClampNeg) (rd M 1560 5)) 1578 ((rd (wr M 1581 ((rd M 1572 1).toNatClampNeg) (rd M 1560 5)) 1572 1).toNatClampNeg) x2) 1579 ((rd (wr (wr M 1581 ((rd M 1572 1).toNatClampNeg) (rd M 1560 5)) 1578 ((rd (wr M 1581 ((rd M 1572 1).toNatClampNeg) (rd M 1560 5)) 1572 1).toNatClampNeg) x2) 1572 1).toNatClampNeg) x3) 1572 1) &&& 31)))) 1572 1) &&& 31)))) 1572 1) + 1))) else (F_4_readDoor_124 (wr M 1581 ((rd M 1572 1).toNatClampNeg) (rd M 1560 5)))
def P_4_readDoor_90 (x2 : Int32) (x3 : Int32) (M : Mem) : Prop := (vp_in (rd M 1572 1) 24) ∧ (vp_in (rd (wr M 1581 ((rd M 1572 1).toNatClampNeg) (rd M 1560 5)) 1572 1) 24) ∧ (((rd (wr M 1581 ((rd M 1572 1).toNatClampNeg) (rd M 1560 5)) 1580 ((rd (wr M 1581 ((rd M 1572 1).toNatClampNeg) (rd M 1560 5)) 1572 1).toNatClampNeg)) ≤ (rd (wr M 1581 ((rd M 1572 1).toNatClampNeg) (rd M 1560 5)) 1581 ((rd (wr M 1581 ((rd M 1572 1).toNatClampNeg) (rd M 1560 5)) 1572 1).toNatClampNeg)) → (vp_in (rd (wr M 1581 ((rd M 1572 1).toNatClampNeg) (rd M 1560 5)) 1572 1) 24) ∧ (vp_in (rd (wr (wr M 1581 ((rd M 1572 1).toNatClampNeg) (rd M 1560 5)) 1578 ((rd (wr M 1581 ((rd M 1572 1).toNatClampNeg) (rd M 1560 5)) 1572 1).toNatClampNeg) x2) 1572 1) 24) ∧ (vp_in x2 10) ∧ (vp_in x3 10)) ∧ (¬ (rd (wr M 1581 ((rd M 1572 1).toNatClampNeg) (rd M 1560 5)) 1580 ((rd (wr M 1581 ((rd M 1572 1).toNatClampNeg) (rd M 1560 5)) 1572 1).toNatClampNeg)) ≤ (rd (wr M 1581 ((rd M 1572 1).toNatClampNeg) (rd M 1560 5)) 1581 ((rd (wr M 1581 ((rd M 1572 1).toNatClampNeg) (rd M 1560 5)) 1572 1).toNatClampNeg)) → P_4_readDoor_124 (wr M 1581 ((rd M 1572 1).toNatClampNeg) (rd M 1560 5))))
theorem T_4_readDoor_90 {g : Gl} (x2 : Int32) (x3 : Int32) (M : Mem) (hp : P_4_readDoor_90 x2 x3 M) : Rn g 2 m4_readDoor 90 [some (.ref 1572), some (.ref 1560), some (.int x2), some (.int x3)] [] M (some (.int (F_4_readDoor_90 x2 x3 M).1)) ((F_4_readDoor_90 x2 x3 M).2) := by
  rw [F_4_readDoor_90]
  rw [P_4_readDoor_90] at hp
  obtain ⟨p0, p1, hp⟩ := hp
  refine b4_readDoor_90 p0 p1 (fun h => ?_) (fun h => ?_)
  · rw [if_pos h]
    have hp := hp.1 h
    obtain ⟨p2, p3, p4, p5⟩ := hp
    exact b4_readDoor_134 p2 p3 p4 p5 rfl rfl
  · rw [if_neg h]
    have hp := hp.2 h
    exact T_4_readDoor_124 (wr M 1581 ((rd M 1572 1).toNatClampNeg) (rd M 1560 5)) hp
def F_4_readDoor_85 (x2 : Int32) (x3 : Int32) (xs0 : Int32) (M : Mem) : Int32 × Mem := if xs0 = 0 then ((0, M)) else (F_4_readDoor_90 x2 x3 M)
def P_4_readDoor_85 (x2 : Int32) (x3 : Int32) (xs0 : Int32) (M : Mem) : Prop := ((¬ xs0 = 0 → P_4_readDoor_90 x2 x3 M) ∧ (xs0 = 0 → True))
theorem T_4_readDoor_85 {g : Gl} (x2 : Int32) (x3 : Int32) (xs0 : Int32) (M : Mem) (hp : P_4_readDoor_85 x2 x3 xs0 M) : Rn g 2 m4_readDoor 85 [some (.ref 1572), some (.ref 1560), some (.int x2), some (.int x3)] [.int xs0] M (some (.int (F_4_readDoor_85 x2 x3 xs0 M).1)) ((F_4_readDoor_85 x2 x3 xs0 M).2) := by
  rw [F_4_readDoor_85]
  rw [P_4_readDoor_85] at hp
  refine b4_readDoor_85  (fun h => ?_) (fun h => ?_)
  · rw [if_neg h]
    have hp := hp.1 h
    exact T_4_readDoor_90 x2 x3 M hp
  · rw [if_pos h]
    exact b4_readDoor_88  rfl rfl
def F_4_readDoor_61 (x2 : Int32) (x3 : Int32) (xs0 : Int32) (M : Mem) : Int32 × Mem := if xs0 = 0 then ((0, M)) else (F_4_readDoor_85 x2 x3 ((F_5_needsNumber_0 23 (wr M 1580 ((rd M 1572 1).toNatClampNeg) (rd M 1560 5))).1) ((F_5_needsNumber_0 23 (wr M 1580 ((rd M 1572 1).toNatClampNeg) (rd M 1560 5))).2))
def P_4_readDoor_61 (x2 : Int32) (x3 : Int32) (xs0 : Int32) (M : Mem) : Prop := ((¬ xs0 = 0 → (vp_in (rd M 1572 1) 24) ∧ ((P_5_needsNumber_0 23 (wr M 1580 ((rd M 1572 1).toNatClampNeg) (rd M 1560 5))) ∧ (P_4_readDoor_85 x2 x3 ((F_5_needsNumber_0 23 (wr M 1580 ((rd M 1572 1).toNatClampNeg) (rd M 1560 5))).1) ((F_5_needsNumber_0 23 (wr M 1580 ((rd M 1572 1).toNatClampNeg) (rd M 1560 5))).2)))) ∧ (xs0 = 0 → True))
theorem T_4_readDoor_61 {g : Gl} (x2 : Int32) (x3 : Int32) (xs0 : Int32) (M : Mem) (hp : P_4_readDoor_61 x2 x3 xs0 M) : Rn g 2 m4_readDoor 61 [some (.ref 1572), some (.ref 1560), some (.int x2), some (.int x3)] [.int xs0] M (some (.int (F_4_readDoor_61 x2 x3 xs0 M).1)) ((F_4_readDoor_61 x2 x3 xs0 M).2) := by
  rw [F_4_readDoor_61]
  rw [P_4_readDoor_61] at hp
  refine b4_readDoor_61  (fun h => ?_) (fun h => ?_)
  · rw [if_neg h]
    have hp := hp.1 h
    obtain ⟨p0, hp⟩ := hp
    obtain ⟨hc, hp⟩ := hp
    refine b4_readDoor_66 p0 (C_5_needsNumber 23 (wr M 1580 ((rd M 1572 1).toNatClampNeg) (rd M 1560 5)) hc) (Nat.le_of_ble_eq_true rfl) ?_
    exact T_4_readDoor_85 x2 x3 ((F_5_needsNumber_0 23 (wr M 1580 ((rd M 1572 1).toNatClampNeg) (rd M 1560 5))).1) ((F_5_needsNumber_0 23 (wr M 1580 ((rd M 1572 1).toNatClampNeg) (rd M 1560 5))).2) hp
  · rw [if_pos h]
    exact b4_readDoor_64  rfl rfl
def F_4_readDoor_30 (x2 : Int32) (xs0 : Int32) (M : Mem) : Int32 × Mem := if xs0 = 0 then ((0, M)) else (if x2 = (rd M 1560 5) then (F_4_readDoor_54 ((F_5_fail_0 2 (rd M 1560 4) M).1) ((F_5_fail_0 2 (rd M 1560 4) M).2)) else (F_4_readDoor_61 x2 (rd M 1560 5) ((F_5_needsNumber_0 23 M).1) ((F_5_needsNumber_0 23 M).2)))
def P_4_readDoor_30 (x2 : Int32) (xs0 : Int32) (M : Mem) : Prop := ((¬ xs0 = 0 → ((¬ x2 = (rd M 1560 5) → ((P_5_needsNumber_0 23 M) ∧ (P_4_readDoor_61 x2 (rd M 1560 5) ((F_5_needsNumber_0 23 M).1) ((F_5_needsNumber_0 23 M).2)))) ∧ (x2 = (rd M 1560 5) → ((P_4_readDoor_54 ((F_5_fail_0 2 (rd M 1560 4) M).1) ((F_5_fail_0 2 (rd M 1560 4) M).2)))))) ∧ (xs0 = 0 → True))
theorem T_4_readDoor_30 {g : Gl} (x2 : Int32) (xs0 : Int32) (M : Mem) (hp : P_4_readDoor_30 x2 xs0 M) : Rn g 2 m4_readDoor 30 [some (.ref 1572), some (.ref 1560), some (.int x2), none] [.int xs0] M (some (.int (F_4_readDoor_30 x2 xs0 M).1)) ((F_4_readDoor_30 x2 xs0 M).2) := by
  rw [F_4_readDoor_30]
  rw [P_4_readDoor_30] at hp
  refine b4_readDoor_30  (fun h => ?_) (fun h => ?_)
  · rw [if_neg h]
    have hp := hp.1 h
    refine b4_readDoor_35  (fun h => ?_) (fun h => ?_)
    · rw [if_neg h]
      have hp := hp.1 h
      obtain ⟨hc, hp⟩ := hp
      refine b4_readDoor_55  (C_5_needsNumber 23 M hc) (Nat.le_of_ble_eq_true rfl) ?_
      exact T_4_readDoor_61 x2 (rd M 1560 5) ((F_5_needsNumber_0 23 M).1) ((F_5_needsNumber_0 23 M).2) hp
    · rw [if_pos h]
      have hp := hp.2 h
      refine b4_readDoor_45  (C_5_fail 2 (rd M 1560 4) M) (Nat.le_of_ble_eq_true rfl) ?_
      exact T_4_readDoor_54 ((F_5_fail_0 2 (rd M 1560 4) M).1) ((F_5_fail_0 2 (rd M 1560 4) M).2) hp
  · rw [if_pos h]
    exact b4_readDoor_33  rfl rfl
def F_4_readDoor_10 (xs0 : Int32) (M : Mem) : Int32 × Mem := if xs0 = 0 then ((0, M)) else (F_4_readDoor_30 (rd M 1560 5) ((F_5_needsNumber_0 ((rd M 1572 0) - 1) M).1) ((F_5_needsNumber_0 ((rd M 1572 0) - 1) M).2))
def P_4_readDoor_10 (xs0 : Int32) (M : Mem) : Prop := ((¬ xs0 = 0 → ((P_5_needsNumber_0 ((rd M 1572 0) - 1) M) ∧ (P_4_readDoor_30 (rd M 1560 5) ((F_5_needsNumber_0 ((rd M 1572 0) - 1) M).1) ((F_5_needsNumber_0 ((rd M 1572 0) - 1) M).2)))) ∧ (xs0 = 0 → True))
theorem T_4_readDoor_10 {g : Gl} (xs0 : Int32) (M : Mem) (hp : P_4_readDoor_10 xs0 M) : Rn g 2 m4_readDoor 10 [some (.ref 1572), some (.ref 1560), none, none] [.int xs0] M (some (.int (F_4_readDoor_10 xs0 M).1)) ((F_4_readDoor_10 xs0 M).2) := by
  rw [F_4_readDoor_10]
  rw [P_4_readDoor_10] at hp
  refine b4_readDoor_10  (fun h => ?_) (fun h => ?_)
  · rw [if_neg h]
    have hp := hp.1 h
    obtain ⟨hc, hp⟩ := hp
    refine b4_readDoor_15  (C_5_needsNumber ((rd M 1572 0) - 1) M hc) (Nat.le_of_ble_eq_true rfl) ?_
    exact T_4_readDoor_30 (rd M 1560 5) ((F_5_needsNumber_0 ((rd M 1572 0) - 1) M).1) ((F_5_needsNumber_0 ((rd M 1572 0) - 1) M).2) hp
  · rw [if_pos h]
    exact b4_readDoor_13  rfl rfl
def F_4_readDoor_0 (M : Mem) : Int32 × Mem := F_4_readDoor_10 ((F_5_needsNumber_0 ((rd M 1572 0) - 1) M).1) ((F_5_needsNumber_0 ((rd M 1572 0) - 1) M).2)
def P_4_readDoor_0 (M : Mem) : Prop := ((P_5_needsNumber_0 ((rd M 1572 0) - 1) M) ∧ (P_4_readDoor_10 ((F_5_needsNumber_0 ((rd M 1572 0) - 1) M).1) ((F_5_needsNumber_0 ((rd M 1572 0) - 1) M).2)))
theorem T_4_readDoor_0 {g : Gl} (M : Mem) (hp : P_4_readDoor_0 M) : Rn g 2 m4_readDoor 0 [some (.ref 1572), some (.ref 1560), none, none] [] M (some (.int (F_4_readDoor_0 M).1)) ((F_4_readDoor_0 M).2) := by
  rw [F_4_readDoor_0]
  rw [P_4_readDoor_0] at hp
  obtain ⟨hc, hp⟩ := hp
  refine b4_readDoor_0  (C_5_needsNumber ((rd M 1572 0) - 1) M hc) (Nat.le_of_ble_eq_true rfl) ?_
  exact T_4_readDoor_10 ((F_5_needsNumber_0 ((rd M 1572 0) - 1) M).1) ((F_5_needsNumber_0 ((rd M 1572 0) - 1) M).2) hp
theorem C_4_readDoor {g : Gl}   (M : Mem) (hp : P_4_readDoor_0 M) : Ms g 2 m4_readDoor [.ref 1572, .ref 1560] M (some (.int (F_4_readDoor_0 M).1)) ((F_4_readDoor_0 M).2) := Ms.of okM_m4_readDoor (Nat.le_of_ble_eq_true rfl) (R_wk (lc rfl (lc rfl (ln (ln l0)))) (T_4_readDoor_0 M hp))
def F_4_readExit_10 (xs0 : Int32) (M : Mem) : Int32 × Mem := if xs0 = 0 then ((0, M)) else ((1, wr M 1572 3 ((rd M 1572 3) ||| ((1 : Int32) <<< ((rd M 1560 5) &&& 31)))))
theorem T_4_readExit_10 {g : Gl} (xs0 : Int32) (M : Mem)  : Rn g 2 m4_readExit 10 [some (.ref 1572), some (.ref 1560)] [.int xs0] M (some (.int (F_4_readExit_10 xs0 M).1)) ((F_4_readExit_10 xs0 M).2) := by
  rw [F_4_readExit_10]
  refine b4_readExit_10  (fun h => ?_) (fun h => ?_)
  · rw [if_neg h]
    exact b4_readExit_15  rfl rfl
  · rw [if_pos h]
    exact b4_readExit_13  rfl rfl
def F_4_readExit_0 (M : Mem) : Int32 × Mem := F_4_readExit_10 ((F_5_needsNumber_0 ((rd M 1572 0) - 1) M).1) ((F_5_needsNumber_0 ((rd M 1572 0) - 1) M).2)
def P_4_readExit_0 (M : Mem) : Prop := ((P_5_needsNumber_0 ((rd M 1572 0) - 1) M))
theorem T_4_readExit_0 {g : Gl} (M : Mem) (hp : P_4_readExit_0 M) : Rn g 2 m4_readExit 0 [some (.ref 1572), some (.ref 1560)] [] M (some (.int (F_4_readExit_0 M).1)) ((F_4_readExit_0 M).2) := by
  rw [F_4_readExit_0]
  rw [P_4_readExit_0] at hp
  have hc := hp
  refine b4_readExit_0  (C_5_needsNumber ((rd M 1572 0) - 1) M hc) (Nat.le_of_ble_eq_true rfl) ?_
  exact T_4_readExit_10 ((F_5_needsNumber_0 ((rd M 1572 0) - 1) M).1) ((F_5_needsNumber_0 ((rd M 1572 0) - 1) M).2)
theorem C_4_readExit {g : Gl}   (M : Mem) (hp : P_4_readExit_0 M) : Ms g 2 m4_readExit [.ref 1572, .ref 1560] M (some (.int (F_4_readExit_0 M).1)) ((F_4_readExit_0 M).2) := Ms.of okM_m4_readExit (Nat.le_of_ble_eq_true rfl) (R_wk (lc rfl (lc rfl l0)) (T_4_readExit_0 M hp))
def F_4_readTour_10 (xs0 : Int32) (M : Mem) : Int32 × Mem := if xs0 = 0 then ((0, M)) else ((1, wr (wr M 1582 ((rd M 1572 2).toNatClampNeg) (rd M 1560 5)) 1572 2 ((rd (wr M 1582 ((rd M 1572 2).toNatClampNeg) (rd M 1560 5)) 1572 2) + 1)))
def P_4_readTour_10 (xs0 : Int32) (M : Mem) : Prop := ((¬ xs0 = 0 → (vp_in (rd M 1572 2) 6)) ∧ (xs0 = 0 → True))
theorem T_4_readTour_10 {g : Gl} (xs0 : Int32) (M : Mem) (hp : P_4_readTour_10 xs0 M) : Rn g 2 m4_readTour 10 [some (.ref 1572), some (.ref 1560)] [.int xs0] M (some (.int (F_4_readTour_10 xs0 M).1)) ((F_4_readTour_10 xs0 M).2) := by
  rw [F_4_readTour_10]
  rw [P_4_readTour_10] at hp
  refine b4_readTour_10  (fun h => ?_) (fun h => ?_)
  · rw [if_neg h]
    have hp := hp.1 h
    have p0 := hp
    exact b4_readTour_15 p0 rfl rfl
  · rw [if_pos h]
    exact b4_readTour_13  rfl rfl
def F_4_readTour_0 (M : Mem) : Int32 × Mem := F_4_readTour_10 ((F_5_needsNumber_0 ((rd M 1572 0) - 1) M).1) ((F_5_needsNumber_0 ((rd M 1572 0) - 1) M).2)
def P_4_readTour_0 (M : Mem) : Prop := ((P_5_needsNumber_0 ((rd M 1572 0) - 1) M) ∧ (P_4_readTour_10 ((F_5_needsNumber_0 ((rd M 1572 0) - 1) M).1) ((F_5_needsNumber_0 ((rd M 1572 0) - 1) M).2)))
theorem T_4_readTour_0 {g : Gl} (M : Mem) (hp : P_4_readTour_0 M) : Rn g 2 m4_readTour 0 [some (.ref 1572), some (.ref 1560)] [] M (some (.int (F_4_readTour_0 M).1)) ((F_4_readTour_0 M).2) := by
  rw [F_4_readTour_0]
  rw [P_4_readTour_0] at hp
  obtain ⟨hc, hp⟩ := hp
  refine b4_readTour_0  (C_5_needsNumber ((rd M 1572 0) - 1) M hc) (Nat.le_of_ble_eq_true rfl) ?_
  exact T_4_readTour_10 ((F_5_needsNumber_0 ((rd M 1572 0) - 1) M).1) ((F_5_needsNumber_0 ((rd M 1572 0) - 1) M).2) hp
theorem C_4_readTour {g : Gl}   (M : Mem) (hp : P_4_readTour_0 M) : Ms g 2 m4_readTour [.ref 1572, .ref 1560] M (some (.int (F_4_readTour_0 M).1)) ((F_4_readTour_0 M).2) := Ms.of okM_m4_readTour (Nat.le_of_ble_eq_true rfl) (R_wk (lc rfl (lc rfl l0)) (T_4_readTour_0 M hp))
def F_4_readWarder_26 (x2 : Int32) (xs0 : Int32) (M : Mem) : Int32 × Mem := if xs0 = 0 then ((0, M)) else ((1, wr M 1574 x2.toNatClampNeg (rd M 1560 5)))
def P_4_readWarder_26 (x2 : Int32) (xs0 : Int32) (M : Mem) : Prop := ((¬ xs0 = 0 → (vp_in x2 10)) ∧ (xs0 = 0 → True))
theorem T_4_readWarder_26 {g : Gl} (x2 : Int32) (xs0 : Int32) (M : Mem) (hp : P_4_readWarder_26 x2 xs0 M) : Rn g 2 m4_readWarder 26 [some (.ref 1572), some (.ref 1560), some (.int x2)] [.int xs0] M (some (.int (F_4_readWarder_26 x2 xs0 M).1)) ((F_4_readWarder_26 x2 xs0 M).2) := by
  rw [F_4_readWarder_26]
  rw [P_4_readWarder_26] at hp
  refine b4_readWarder_26  (fun h => ?_) (fun h => ?_)
  · rw [if_neg h]
    have hp := hp.1 h
    have p0 := hp
    exact b4_readWarder_31 p0 rfl rfl
  · rw [if_pos h]
    exact b4_readWarder_29  rfl rfl
def F_4_readWarder_10 (xs0 : Int32) (M : Mem) : Int32 × Mem := if xs0 = 0 then ((0, M)) else (F_4_readWarder_26 (rd M 1560 5) ((F_5_needsNumber_0 16 M).1) ((F_5_needsNumber_0 16 M).2))
def P_4_readWarder_10 (xs0 : Int32) (M : Mem) : Prop := ((¬ xs0 = 0 → ((P_5_needsNumber_0 16 M) ∧ (P_4_readWarder_26 (rd M 1560 5) ((F_5_needsNumber_0 16 M).1) ((F_5_needsNumber_0 16 M).2)))) ∧ (xs0 = 0 → True))
theorem T_4_readWarder_10 {g : Gl} (xs0 : Int32) (M : Mem) (hp : P_4_readWarder_10 xs0 M) : Rn g 2 m4_readWarder 10 [some (.ref 1572), some (.ref 1560), none] [.int xs0] M (some (.int (F_4_readWarder_10 xs0 M).1)) ((F_4_readWarder_10 xs0 M).2) := by
  rw [F_4_readWarder_10]
  rw [P_4_readWarder_10] at hp
  refine b4_readWarder_10  (fun h => ?_) (fun h => ?_)
  · rw [if_neg h]
    have hp := hp.1 h
    obtain ⟨hc, hp⟩ := hp
    refine b4_readWarder_15  (C_5_needsNumber 16 M hc) (Nat.le_of_ble_eq_true rfl) ?_
    exact T_4_readWarder_26 (rd M 1560 5) ((F_5_needsNumber_0 16 M).1) ((F_5_needsNumber_0 16 M).2) hp
  · rw [if_pos h]
    exact b4_readWarder_13  rfl rfl
def F_4_readWarder_0 (M : Mem) : Int32 × Mem := F_4_readWarder_10 ((F_5_needsNumber_0 ((rd M 1572 0) - 1) M).1) ((F_5_needsNumber_0 ((rd M 1572 0) - 1) M).2)
def P_4_readWarder_0 (M : Mem) : Prop := ((P_5_needsNumber_0 ((rd M 1572 0) - 1) M) ∧ (P_4_readWarder_10 ((F_5_needsNumber_0 ((rd M 1572 0) - 1) M).1) ((F_5_needsNumber_0 ((rd M 1572 0) - 1) M).2)))
theorem T_4_readWarder_0 {g : Gl} (M : Mem) (hp : P_4_readWarder_0 M) : Rn g 2 m4_readWarder 0 [some (.ref 1572), some (.ref 1560), none] [] M (some (.int (F_4_readWarder_0 M).1)) ((F_4_readWarder_0 M).2) := by
  rw [F_4_readWarder_0]
  rw [P_4_readWarder_0] at hp
  obtain ⟨hc, hp⟩ := hp
  refine b4_readWarder_0  (C_5_needsNumber ((rd M 1572 0) - 1) M hc) (Nat.le_of_ble_eq_true rfl) ?_
  exact T_4_readWarder_10 ((F_5_needsNumber_0 ((rd M 1572 0) - 1) M).1) ((F_5_needsNumber_0 ((rd M 1572 0) - 1) M).2) hp
theorem C_4_readWarder {g : Gl}   (M : Mem) (hp : P_4_readWarder_0 M) : Ms g 2 m4_readWarder [.ref 1572, .ref 1560] M (some (.int (F_4_readWarder_0 M).1)) ((F_4_readWarder_0 M).2) := Ms.of okM_m4_readWarder (Nat.le_of_ble_eq_true rfl) (R_wk (lc rfl (lc rfl (ln l0))) (T_4_readWarder_0 M hp))
def F_4_readClause_48 (xs0 : Int32) (M : Mem) : Int32 × Mem := (xs0, M)
def P_4_readClause_48 (xs0 : Int32) (M : Mem) : Prop := (narrow .boolean (.int xs0) = .int xs0)
theorem T_4_readClause_48 {g : Gl} (xs0 : Int32) (M : Mem) (hp : P_4_readClause_48 xs0 M) : Rn g 5 m4_readClause 48 [none, none, none] [.int xs0] M (some (.int (F_4_readClause_48 xs0 M).1)) ((F_4_readClause_48 xs0 M).2) := by
  rw [F_4_readClause_48]
  rw [P_4_readClause_48] at hp
  have p0 := hp
  exact b4_readClause_48  rfl rfl p0
def F_4_readClause_40 (xs0 : Int32) (M : Mem) : Int32 × Mem := F_4_readClause_48 xs0 M
def P_4_readClause_40 (xs0 : Int32) (M : Mem) : Prop := (P_4_readClause_48 xs0 M)
theorem T_4_readClause_40 {g : Gl} (xs0 : Int32) (M : Mem) (hp : P_4_readClause_40 xs0 M) : Rn g 5 m4_readClause 40 [none, none, none] [.int xs0] M (some (.int (F_4_readClause_40 xs0 M).1)) ((F_4_readClause_40 xs0 M).2) := by
  rw [F_4_readClause_40]
  rw [P_4_readClause_40] at hp
  refine b4_readClause_40  ?_
  exact T_4_readClause_48 xs0 M hp
def F_4_readClause_31 (M : Mem) : Int32 × Mem := F_4_readClause_40 ((F_5_fail_0 3 (rd M 1560 4) M).1) ((F_5_fail_0 3 (rd M 1560 4) M).2)
def P_4_readClause_31 (M : Mem) : Prop := ((P_4_readClause_40 ((F_5_fail_0 3 (rd M 1560 4) M).1) ((F_5_fail_0 3 (rd M 1560 4) M).2)))
theorem T_4_readClause_31 {g : Gl} (M : Mem) (hp : P_4_readClause_31 M) : Rn g 5 m4_readClause 31 [none, some (.ref 1560), none] [] M (some (.int (F_4_readClause_31 M).1)) ((F_4_readClause_31 M).2) := by
  rw [F_4_readClause_31]
  rw [P_4_readClause_31] at hp
  refine b4_readClause_31  (C_5_fail 3 (rd M 1560 4) M) (Nat.le_of_ble_eq_true rfl) ?_
  exact T_4_readClause_40 ((F_5_fail_0 3 (rd M 1560 4) M).1) ((F_5_fail_0 3 (rd M 1560 4) M).2) hp
def F_4_readClause_88 (xs0 : Int32) (M : Mem) : Int32 × Mem := (xs0, M)
def P_4_readClause_88 (xs0 : Int32) (M : Mem) : Prop := (narrow .boolean (.int xs0) = .int xs0)
theorem T_4_readClause_88 {g : Gl} (xs0 : Int32) (M : Mem) (hp : P_4_readClause_88 xs0 M) : Rn g 5 m4_readClause 88 [none, none, none] [.int xs0] M (some (.int (F_4_readClause_88 xs0 M).1)) ((F_4_readClause_88 xs0 M).2) := by
  rw [F_4_readClause_88]
  rw [P_4_readClause_88] at hp
  have p0 := hp
  exact b4_readClause_88  rfl rfl p0
def F_4_readClause_80 (xs0 : Int32) (M : Mem) : Int32 × Mem := F_4_readClause_88 xs0 M
def P_4_readClause_80 (xs0 : Int32) (M : Mem) : Prop := (P_4_readClause_88 xs0 M)
theorem T_4_readClause_80 {g : Gl} (xs0 : Int32) (M : Mem) (hp : P_4_readClause_80 xs0 M) : Rn g 5 m4_readClause 80 [none, none, none] [.int xs0] M (some (.int (F_4_readClause_80 xs0 M).1)) ((F_4_readClause_80 xs0 M).2) := by
  rw [F_4_readClause_80]
  rw [P_4_readClause_80] at hp
  refine b4_readClause_80  ?_
  exact T_4_readClause_88 xs0 M hp
def F_4_readClause_71 (M : Mem) : Int32 × Mem := F_4_readClause_80 ((F_5_fail_0 3 (rd M 1560 4) M).1) ((F_5_fail_0 3 (rd M 1560 4) M).2)
def P_4_readClause_71 (M : Mem) : Prop := ((P_4_readClause_80 ((F_5_fail_0 3 (rd M 1560 4) M).1) ((F_5_fail_0 3 (rd M 1560 4) M).2)))
theorem T_4_readClause_71 {g : Gl} (M : Mem) (hp : P_4_readClause_71 M) : Rn g 5 m4_readClause 71 [none, some (.ref 1560), none] [] M (some (.int (F_4_readClause_71 M).1)) ((F_4_readClause_71 M).2) := by
  rw [F_4_readClause_71]
  rw [P_4_readClause_71] at hp
  refine b4_readClause_71  (C_5_fail 3 (rd M 1560 4) M) (Nat.le_of_ble_eq_true rfl) ?_
  exact T_4_readClause_80 ((F_5_fail_0 3 (rd M 1560 4) M).1) ((F_5_fail_0 3 (rd M 1560 4) M).2) hp
def F_4_readClause_119 (xs0 : Int32) (M : Mem) : Int32 × Mem := (xs0, M)
def P_4_readClause_119 (xs0 : Int32) (M : Mem) : Prop := (narrow .boolean (.int xs0) = .int xs0)
theorem T_4_readClause_119 {g : Gl} (xs0 : Int32) (M : Mem) (hp : P_4_readClause_119 xs0 M) : Rn g 5 m4_readClause 119 [none, none, none] [.int xs0] M (some (.int (F_4_readClause_119 xs0 M).1)) ((F_4_readClause_119 xs0 M).2) := by
  rw [F_4_readClause_119]
  rw [P_4_readClause_119] at hp
  have p0 := hp
  exact b4_readClause_119  rfl rfl p0
def F_4_readClause_111 (xs0 : Int32) (M : Mem) : Int32 × Mem := F_4_readClause_119 xs0 M
def P_4_readClause_111 (xs0 : Int32) (M : Mem) : Prop := (P_4_readClause_119 xs0 M)
theorem T_4_readClause_111 {g : Gl} (xs0 : Int32) (M : Mem) (hp : P_4_readClause_111 xs0 M) : Rn g 5 m4_readClause 111 [none, none, none] [.int xs0] M (some (.int (F_4_readClause_111 xs0 M).1)) ((F_4_readClause_111 xs0 M).2) := by
  rw [F_4_readClause_111]
  rw [P_4_readClause_111] at hp
  refine b4_readClause_111  ?_
  exact T_4_readClause_119 xs0 M hp
def F_4_readClause_159 (xs0 : Int32) (M : Mem) : Int32 × Mem := (xs0, M)
def P_4_readClause_159 (xs0 : Int32) (M : Mem) : Prop := (narrow .boolean (.int xs0) = .int xs0)
theorem T_4_readClause_159 {g : Gl} (xs0 : Int32) (M : Mem) (hp : P_4_readClause_159 xs0 M) : Rn g 5 m4_readClause 159 [none, none, none] [.int xs0] M (some (.int (F_4_readClause_159 xs0 M).1)) ((F_4_readClause_159 xs0 M).2) := by
  rw [F_4_readClause_159]
  rw [P_4_readClause_159] at hp
  have p0 := hp
  exact b4_readClause_159  rfl rfl p0
def F_4_readClause_151 (xs0 : Int32) (M : Mem) : Int32 × Mem := F_4_readClause_159 xs0 M
def P_4_readClause_151 (xs0 : Int32) (M : Mem) : Prop := (P_4_readClause_159 xs0 M)
theorem T_4_readClause_151 {g : Gl} (xs0 : Int32) (M : Mem) (hp : P_4_readClause_151 xs0 M) : Rn g 5 m4_readClause 151 [none, none, none] [.int xs0] M (some (.int (F_4_readClause_151 xs0 M).1)) ((F_4_readClause_151 xs0 M).2) := by
  rw [F_4_readClause_151]
  rw [P_4_readClause_151] at hp
  refine b4_readClause_151  ?_
  exact T_4_readClause_159 xs0 M hp
def F_4_readClause_142 (M : Mem) : Int32 × Mem := F_4_readClause_151 ((F_5_fail_0 3 (rd M 1560 4) M).1) ((F_5_fail_0 3 (rd M 1560 4) M).2)
def P_4_readClause_142 (M : Mem) : Prop := ((P_4_readClause_151 ((F_5_fail_0 3 (rd M 1560 4) M).1) ((F_5_fail_0 3 (rd M 1560 4) M).2)))
theorem T_4_readClause_142 {g : Gl} (M : Mem) (hp : P_4_readClause_142 M) : Rn g 5 m4_readClause 142 [none, some (.ref 1560), none] [] M (some (.int (F_4_readClause_142 M).1)) ((F_4_readClause_142 M).2) := by
  rw [F_4_readClause_142]
  rw [P_4_readClause_142] at hp
  refine b4_readClause_142  (C_5_fail 3 (rd M 1560 4) M) (Nat.le_of_ble_eq_true rfl) ?_
  exact T_4_readClause_151 ((F_5_fail_0 3 (rd M 1560 4) M).1) ((F_5_fail_0 3 (rd M 1560 4) M).2) hp
def F_4_readClause_190 (xs0 : Int32) (M : Mem) : Int32 × Mem := (xs0, M)
def P_4_readClause_190 (xs0 : Int32) (M : Mem) : Prop := (narrow .boolean (.int xs0) = .int xs0)
theorem T_4_readClause_190 {g : Gl} (xs0 : Int32) (M : Mem) (hp : P_4_readClause_190 xs0 M) : Rn g 5 m4_readClause 190 [none, none, none] [.int xs0] M (some (.int (F_4_readClause_190 xs0 M).1)) ((F_4_readClause_190 xs0 M).2) := by
  rw [F_4_readClause_190]
  rw [P_4_readClause_190] at hp
  have p0 := hp
  exact b4_readClause_190  rfl rfl p0
def F_4_readClause_182 (xs0 : Int32) (M : Mem) : Int32 × Mem := F_4_readClause_190 xs0 M
def P_4_readClause_182 (xs0 : Int32) (M : Mem) : Prop := (P_4_readClause_190 xs0 M)
theorem T_4_readClause_182 {g : Gl} (xs0 : Int32) (M : Mem) (hp : P_4_readClause_182 xs0 M) : Rn g 5 m4_readClause 182 [none, none, none] [.int xs0] M (some (.int (F_4_readClause_182 xs0 M).1)) ((F_4_readClause_182 xs0 M).2) := by
  rw [F_4_readClause_182]
  rw [P_4_readClause_182] at hp
  refine b4_readClause_182  ?_
  exact T_4_readClause_190 xs0 M hp
def F_4_readClause_200 (xs0 : Int32) (M : Mem) : Int32 × Mem := (xs0, M)
def P_4_readClause_200 (xs0 : Int32) (M : Mem) : Prop := (narrow .boolean (.int xs0) = .int xs0)
theorem T_4_readClause_200 {g : Gl} (xs0 : Int32) (M : Mem) (hp : P_4_readClause_200 xs0 M) : Rn g 5 m4_readClause 200 [none, none, none] [.int xs0] M (some (.int (F_4_readClause_200 xs0 M).1)) ((F_4_readClause_200 xs0 M).2) := by
  rw [F_4_readClause_200]
  rw [P_4_readClause_200] at hp
  have p0 := hp
  exact b4_readClause_200  rfl rfl p0
def F_4_readClause_4 (x2 : Int32) (xs0 : Int32) (M : Mem) : Int32 × Mem := if xs0 = 0 then ((0, M)) else (if (F_5_isWord_0 M 1) = 0 then (if (F_5_isWord_0 M 2) = 0 then (if (F_5_isWord_0 M 3) = 0 then (if (F_5_isWord_0 M 4) = 0 then (if (F_5_isWord_0 M 5) = 0 then (F_4_readClause_200 ((F_5_fail_0 1 (rd M 1560 4) M).1) ((F_5_fail_0 1 (rd M 1560 4) M).2)) else (if x2 = 0 then (F_4_readClause_190 ((F_4_readWarder_0 M).1) ((F_4_readWarder_0 M).2)) else (F_4_readClause_182 ((F_5_fail_0 3 (rd M 1560 4) M).1) ((F_5_fail_0 3 (rd M 1560 4) M).2)))) else (if x2 = 0 then (if (rd M 1572 2) < 6 then (F_4_readClause_159 ((F_4_readTour_0 M).1) ((F_4_readTour_0 M).2)) else (F_4_readClause_142 M)) else (F_4_readClause_142 M))) else (if x2 = 0 then (F_4_readClause_119 ((F_4_readExit_0 M).1) ((F_4_readExit_0 M).2)) else (F_4_readClause_111 ((F_5_fail_0 3 (rd M 1560 4) M).1) ((F_5_fail_0 3 (rd M 1560 4) M).2)))) else (if x2 = 0 then (if (rd M 1572 1) < 24 then (F_4_readClause_88 ((F_4_readDoor_0 M).1) ((F_4_readDoor_0 M).2)) else (F_4_readClause_71 M)) else (F_4_readClause_71 M))) else (if x2 = 0 then (if (rd M 1572 0) < 10 then (F_4_readClause_48 ((F_4_readRoom_0 M).1) ((F_4_readRoom_0 M).2)) else (F_4_readClause_31 M)) else (F_4_readClause_31 M)))
def P_4_readClause_4 (x2 : Int32) (xs0 : Int32) (M : Mem) : Prop := ((¬ xs0 = 0 → (((P_5_isWord_0 M 1) ∧ ((((F_5_isWord_0 M 1) = 0 → (((P_5_isWord_0 M 2) ∧ ((((F_5_isWord_0 M 2) = 0 → (((P_5_isWord_0 M 3) ∧ ((((F_5_isWord_0 M 3) = 0 → (((P_5_isWord_0 M 4) ∧ ((((F_5_isWord_0 M 4) = 0 → (((P_5_isWord_0 M 5) ∧ ((((F_5_isWord_0 M 5) = 0 → ((P_4_readClause_200 ((F_5_fail_0 1 (rd M 1560 4) M).1) ((F_5_fail_0 1 (rd M 1560 4) M).2)))) ∧ (¬ (F_5_isWord_0 M 5) = 0 → ((x2 = 0 → ((P_4_readWarder_0 M) ∧ (P_4_readClause_190 ((F_4_readWarder_0 M).1) ((F_4_readWarder_0 M).2)))) ∧ (¬ x2 = 0 → ((P_4_readClause_182 ((F_5_fail_0 3 (rd M 1560 4) M).1) ((F_5_fail_0 3 (rd M 1560 4) M).2))))))))))) ∧ (¬ (F_5_isWord_0 M 4) = 0 → ((¬ x2 = 0 → P_4_readClause_142 M) ∧ (x2 = 0 → (((rd M 1572 2) < 6 → ((P_4_readTour_0 M) ∧ (P_4_readClause_159 ((F_4_readTour_0 M).1) ((F_4_readTour_0 M).2)))) ∧ (¬ (rd M 1572 2) < 6 → P_4_readClause_142 M)))))))))) ∧ (¬ (F_5_isWord_0 M 3) = 0 → ((x2 = 0 → ((P_4_readExit_0 M) ∧ (P_4_readClause_119 ((F_4_readExit_0 M).1) ((F_4_readExit_0 M).2)))) ∧ (¬ x2 = 0 → ((P_4_readClause_111 ((F_5_fail_0 3 (rd M 1560 4) M).1) ((F_5_fail_0 3 (rd M 1560 4) M).2))))))))))) ∧ (¬ (F_5_isWord_0 M 2) = 0 → ((¬ x2 = 0 → P_4_readClause_71 M) ∧ (x2 = 0 → (((rd M 1572 1) < 24 → ((P_4_readDoor_0 M) ∧ (P_4_readClause_88 ((F_4_readDoor_0 M).1) ((F_4_readDoor_0 M).2)))) ∧ (¬ (rd M 1572 1) < 24 → P_4_readClause_71 M)))))))))) ∧ (¬ (F_5_isWord_0 M 1) = 0 → ((¬ x2 = 0 → P_4_readClause_31 M) ∧ (x2 = 0 → (((rd M 1572 0) < 10 → ((P_4_readRoom_0 M) ∧ (P_4_readClause_48 ((F_4_readRoom_0 M).1) ((F_4_readRoom_0 M).2)))) ∧ (¬ (rd M 1572 0) < 10 → P_4_readClause_31 M)))))))))) ∧ (xs0 = 0 → True))
theorem T_4_readClause_4 {g : Gl} (x2 : Int32) (xs0 : Int32) (M : Mem) (hp : P_4_readClause_4 x2 xs0 M) : Rn g 5 m4_readClause 4 [some (.ref 1572), some (.ref 1560), some (.int x2)] [.int xs0] M (some (.int (F_4_readClause_4 x2 xs0 M).1)) ((F_4_readClause_4 x2 xs0 M).2) := by
  rw [F_4_readClause_4]
  rw [P_4_readClause_4] at hp
  refine b4_readClause_4  (fun h => ?_) (fun h => ?_)
  · rw [if_neg h]
    have hp := hp.1 h
    refine b4_readClause_9  ?_
    obtain ⟨hc, hp⟩ := hp
    refine b4_readClause_12  (C_5_isWord 1 M hc) (Nat.le_of_ble_eq_true rfl) ?_
    refine b4_readClause_15  (fun h => ?_) (fun h => ?_)
    · rw [if_pos h]
      have hp := hp.1 h
      refine b4_readClause_49  ?_
      obtain ⟨hc, hp⟩ := hp
      refine b4_readClause_52  (C_5_isWord 2 M hc) (Nat.le_of_ble_eq_true rfl) ?_
      refine b4_readClause_55  (fun h => ?_) (fun h => ?_)
      · rw [if_pos h]
        have hp := hp.1 h
        refine b4_readClause_89  ?_
        obtain ⟨hc, hp⟩ := hp
        refine b4_readClause_92  (C_5_isWord 3 M hc) (Nat.le_of_ble_eq_true rfl) ?_
        refine b4_readClause_95  (fun h => ?_) (fun h => ?_)
        · rw [if_pos h]
          have hp := hp.1 h
          refine b4_readClause_120  ?_
          obtain ⟨hc, hp⟩ := hp
          refine b4_readClause_123  (C_5_isWord 4 M hc) (Nat.le_of_ble_eq_true rfl) ?_
          refine b4_readClause_126  (fun h => ?_) (fun h => ?_)
          · rw [if_pos h]
            have hp := hp.1 h
            refine b4_readClause_160  ?_
            obtain ⟨hc, hp⟩ := hp
            refine b4_readClause_163  (C_5_isWord 5 M hc) (Nat.le_of_ble_eq_true rfl) ?_
            refine b4_readClause_166  (fun h => ?_) (fun h => ?_)
            · rw [if_pos h]
              have hp := hp.1 h
              refine b4_readClause_191  (C_5_fail 1 (rd M 1560 4) M) (Nat.le_of_ble_eq_true rfl) ?_
              exact T_4_readClause_200 ((F_5_fail_0 1 (rd M 1560 4) M).1) ((F_5_fail_0 1 (rd M 1560 4) M).2) hp
            · rw [if_neg h]
              have hp := hp.2 h
              refine b4_readClause_169  (fun h => ?_) (fun h => ?_)
              · rw [if_pos h]
                have hp := hp.1 h
                obtain ⟨hc, hp⟩ := hp
                refine b4_readClause_185  (C_4_readWarder  M hc) (Nat.le_of_ble_eq_true rfl) ?_
                exact T_4_readClause_190 ((F_4_readWarder_0 M).1) ((F_4_readWarder_0 M).2) hp
              · rw [if_neg h]
                have hp := hp.2 h
                refine b4_readClause_173  (C_5_fail 3 (rd M 1560 4) M) (Nat.le_of_ble_eq_true rfl) ?_
                exact T_4_readClause_182 ((F_5_fail_0 3 (rd M 1560 4) M).1) ((F_5_fail_0 3 (rd M 1560 4) M).2) hp
          · rw [if_neg h]
            have hp := hp.2 h
            refine b4_readClause_129  (fun h => ?_) (fun h => ?_)
            · rw [if_neg h]
              have hp := hp.1 h
              exact T_4_readClause_142 M hp
            · rw [if_pos h]
              have hp := hp.2 h
              refine b4_readClause_133  (fun h => ?_) (fun h => ?_)
              · rw [if_pos h]
                have hp := hp.1 h
                obtain ⟨hc, hp⟩ := hp
                refine b4_readClause_154  (C_4_readTour  M hc) (Nat.le_of_ble_eq_true rfl) ?_
                exact T_4_readClause_159 ((F_4_readTour_0 M).1) ((F_4_readTour_0 M).2) hp
              · rw [if_neg h]
                have hp := hp.2 h
                exact T_4_readClause_142 M hp
        · rw [if_neg h]
          have hp := hp.2 h
          refine b4_readClause_98  (fun h => ?_) (fun h => ?_)
          · rw [if_pos h]
            have hp := hp.1 h
            obtain ⟨hc, hp⟩ := hp
            refine b4_readClause_114  (C_4_readExit  M hc) (Nat.le_of_ble_eq_true rfl) ?_
            exact T_4_readClause_119 ((F_4_readExit_0 M).1) ((F_4_readExit_0 M).2) hp
          · rw [if_neg h]
            have hp := hp.2 h
            refine b4_readClause_102  (C_5_fail 3 (rd M 1560 4) M) (Nat.le_of_ble_eq_true rfl) ?_
            exact T_4_readClause_111 ((F_5_fail_0 3 (rd M 1560 4) M).1) ((F_5_fail_0 3 (rd M 1560 4) M).2) hp
      · rw [if_neg h]
        have hp := hp.2 h
        refine b4_readClause_58  (fun h => ?_) (fun h => ?_)
        · rw [if_neg h]
          have hp := hp.1 h
          exact T_4_readClause_71 M hp
        · rw [if_pos h]
          have hp := hp.2 h
          refine b4_readClause_62  (fun h => ?_) (fun h => ?_)
          · rw [if_pos h]
            have hp := hp.1 h
            obtain ⟨hc, hp⟩ := hp
            refine b4_readClause_83  (C_4_readDoor  M hc) (Nat.le_of_ble_eq_true rfl) ?_
            exact T_4_readClause_88 ((F_4_readDoor_0 M).1) ((F_4_readDoor_0 M).2) hp
          · rw [if_neg h]
            have hp := hp.2 h
            exact T_4_readClause_71 M hp
    · rw [if_neg h]
      have hp := hp.2 h
      refine b4_readClause_18  (fun h => ?_) (fun h => ?_)
      · rw [if_neg h]
        have hp := hp.1 h
        exact T_4_readClause_31 M hp
      · rw [if_pos h]
        have hp := hp.2 h
        refine b4_readClause_22  (fun h => ?_) (fun h => ?_)
        · rw [if_pos h]
          have hp := hp.1 h
          obtain ⟨hc, hp⟩ := hp
          refine b4_readClause_43  (C_4_readRoom  M hc) (Nat.le_of_ble_eq_true rfl) ?_
          exact T_4_readClause_48 ((F_4_readRoom_0 M).1) ((F_4_readRoom_0 M).2) hp
        · rw [if_neg h]
          have hp := hp.2 h
          exact T_4_readClause_31 M hp
  · rw [if_pos h]
    exact b4_readClause_7  rfl rfl
def F_4_readClause_0 (x2 : Int32) (M : Mem) : Int32 × Mem := F_4_readClause_4 x2 ((F_5_needsWord_0 M).1) ((F_5_needsWord_0 M).2)
def P_4_readClause_0 (x2 : Int32) (M : Mem) : Prop := ((P_5_needsWord_0 M) ∧ (P_4_readClause_4 x2 ((F_5_needsWord_0 M).1) ((F_5_needsWord_0 M).2)))
theorem T_4_readClause_0 {g : Gl} (x2 : Int32) (M : Mem) (hp : P_4_readClause_0 x2 M) : Rn g 5 m4_readClause 0 [some (.ref 1572), some (.ref 1560), some (.int x2)] [] M (some (.int (F_4_readClause_0 x2 M).1)) ((F_4_readClause_0 x2 M).2) := by
  rw [F_4_readClause_0]
  rw [P_4_readClause_0] at hp
  obtain ⟨hc, hp⟩ := hp
  refine b4_readClause_0  (C_5_needsWord  M hc) (Nat.le_of_ble_eq_true rfl) ?_
  exact T_4_readClause_4 x2 ((F_5_needsWord_0 M).1) ((F_5_needsWord_0 M).2) hp
theorem C_4_readClause {g : Gl}  (x2 : Int32) (M : Mem) (hp : P_4_readClause_0 x2 M) : Ms g 5 m4_readClause [.ref 1572, .ref 1560, .int x2] M (some (.int (F_4_readClause_0 x2 M).1)) ((F_4_readClause_0 x2 M).2) := Ms.of okM_m4_readClause (Nat.le_of_ble_eq_true rfl) (R_wk (lc rfl (lc rfl (lc rfl l0))) (T_4_readClause_0 x2 M hp))
def F_4_read_46 (k6 : Int32 → Mem → Int32 × Mem) (x2 : Int32) (xs0 : Int32) (M : Mem) : Int32 × Mem := if xs0 = 0 then ((0, M)) else (k6 (x2 + 1) M)
def P_4_read_46 (pk6 : Int32 → Mem → Prop) (x2 : Int32) (xs0 : Int32) (M : Mem) : Prop := ((¬ xs0 = 0 → (pk6 (x2 + 1) M)) ∧ (xs0 = 0 → True))
theorem T_4_read_46 {g : Gl} (k6 : Int32 → Mem → Int32 × Mem) (pk6 : Int32 → Mem → Prop) (ih6 : ∀ (x2 : Int32) (M : Mem), pk6 x2 M → Rn g 6 m4_read 6 [some (.ref 1572), some (.ref 1560), some (.int x2)] [] M (some (.int (k6 x2 M).1)) ((k6 x2 M).2)) (x2 : Int32) (xs0 : Int32) (M : Mem) (hp : P_4_read_46 pk6 x2 xs0 M) : Rn g 6 m4_read 46 [some (.ref 1572), some (.ref 1560), some (.int x2)] [.int xs0] M (some (.int (F_4_read_46 k6 x2 xs0 M).1)) ((F_4_read_46 k6 x2 xs0 M).2) := by
  rw [F_4_read_46]
  rw [P_4_read_46] at hp
  refine b4_read_46  (fun h => ?_) (fun h => ?_)
  · rw [if_neg h]
    have hp := hp.1 h
    refine b4_read_51  ?_
    exact ih6 (x2 + 1) M hp
  · rw [if_pos h]
    exact b4_read_49  rfl rfl
def F_4_read_37 (k6 : Int32 → Mem → Int32 × Mem) (x2 : Int32) (xs0 : Int32) (M : Mem) : Int32 × Mem := if xs0 = 0 then ((0, M)) else (F_4_read_46 k6 x2 ((F_5_needs_0 59 M).1) ((F_5_needs_0 59 M).2))
def P_4_read_37 (pk6 : Int32 → Mem → Prop) (x2 : Int32) (xs0 : Int32) (M : Mem) : Prop := ((xs0 = 0 → True) ∧ (¬ xs0 = 0 → ((P_5_needs_0 59 M) ∧ (P_4_read_46 pk6 x2 ((F_5_needs_0 59 M).1) ((F_5_needs_0 59 M).2)))))
theorem T_4_read_37 {g : Gl} (k6 : Int32 → Mem → Int32 × Mem) (pk6 : Int32 → Mem → Prop) (ih6 : ∀ (x2 : Int32) (M : Mem), pk6 x2 M → Rn g 6 m4_read 6 [some (.ref 1572), some (.ref 1560), some (.int x2)] [] M (some (.int (k6 x2 M).1)) ((k6 x2 M).2)) (x2 : Int32) (xs0 : Int32) (M : Mem) (hp : P_4_read_37 pk6 x2 xs0 M) : Rn g 6 m4_read 37 [some (.ref 1572), some (.ref 1560), some (.int x2)] [.int xs0] M (some (.int (F_4_read_37 k6 x2 xs0 M).1)) ((F_4_read_37 k6 x2 xs0 M).2) := by
  rw [F_4_read_37]
  rw [P_4_read_37] at hp
  refine b4_read_37  (fun h => ?_) (fun h => ?_)
  · rw [if_pos h]
    exact b4_read_49  rfl rfl
  · rw [if_neg h]
    have hp := hp.2 h
    obtain ⟨hc, hp⟩ := hp
    refine b4_read_40  (C_5_needs 59 M hc) (Nat.le_of_ble_eq_true rfl) ?_
    exact T_4_read_46 k6 pk6 ih6 x2 ((F_5_needs_0 59 M).1) ((F_5_needs_0 59 M).2) hp
def F_4_read_34 (k6 : Int32 → Mem → Int32 × Mem) (x2 : Int32) (xs0 : Int32) (M : Mem) : Int32 × Mem := F_4_read_37 k6 x2 ((F_4_readClause_0 xs0 M).1) ((F_4_readClause_0 xs0 M).2)
def P_4_read_34 (pk6 : Int32 → Mem → Prop) (x2 : Int32) (xs0 : Int32) (M : Mem) : Prop := ((P_4_readClause_0 xs0 M) ∧ (P_4_read_37 pk6 x2 ((F_4_readClause_0 xs0 M).1) ((F_4_readClause_0 xs0 M).2)))
theorem T_4_read_34 {g : Gl} (k6 : Int32 → Mem → Int32 × Mem) (pk6 : Int32 → Mem → Prop) (ih6 : ∀ (x2 : Int32) (M : Mem), pk6 x2 M → Rn g 6 m4_read 6 [some (.ref 1572), some (.ref 1560), some (.int x2)] [] M (some (.int (k6 x2 M).1)) ((k6 x2 M).2)) (x2 : Int32) (xs0 : Int32) (M : Mem) (hp : P_4_read_34 pk6 x2 xs0 M) : Rn g 6 m4_read 34 [some (.ref 1572), some (.ref 1560), some (.int x2)] [.int xs0, .ref 1560, .ref 1572] M (some (.int (F_4_read_34 k6 x2 xs0 M).1)) ((F_4_read_34 k6 x2 xs0 M).2) := by
  rw [F_4_read_34]
  rw [P_4_read_34] at hp
  obtain ⟨hc, hp⟩ := hp
  refine b4_read_34  (C_4_readClause xs0 M hc) (Nat.le_of_ble_eq_true rfl) ?_
  exact T_4_read_37 k6 pk6 ih6 x2 ((F_4_readClause_0 xs0 M).1) ((F_4_readClause_0 xs0 M).2) hp
def F_4_read_16 (k6 : Int32 → Mem → Int32 × Mem) (x2 : Int32) (xs0 : Int32) (M : Mem) : Int32 × Mem := if xs0 = 0 then (if x2 = 60 then (F_4_read_34 k6 x2 1 M) else (F_4_read_34 k6 x2 0 M)) else ((1, M))
def P_4_read_16 (pk6 : Int32 → Mem → Prop) (x2 : Int32) (xs0 : Int32) (M : Mem) : Prop := ((xs0 = 0 → ((¬ x2 = 60 → (P_4_read_34 pk6 x2 0 M)) ∧ (x2 = 60 → (P_4_read_34 pk6 x2 1 M)))) ∧ (¬ xs0 = 0 → True))
theorem T_4_read_16 {g : Gl} (k6 : Int32 → Mem → Int32 × Mem) (pk6 : Int32 → Mem → Prop) (ih6 : ∀ (x2 : Int32) (M : Mem), pk6 x2 M → Rn g 6 m4_read 6 [some (.ref 1572), some (.ref 1560), some (.int x2)] [] M (some (.int (k6 x2 M).1)) ((k6 x2 M).2)) (x2 : Int32) (xs0 : Int32) (M : Mem) (hp : P_4_read_16 pk6 x2 xs0 M) : Rn g 6 m4_read 16 [some (.ref 1572), some (.ref 1560), some (.int x2)] [.int xs0] M (some (.int (F_4_read_16 k6 x2 xs0 M).1)) ((F_4_read_16 k6 x2 xs0 M).2) := by
  rw [F_4_read_16]
  rw [P_4_read_16] at hp
  refine b4_read_16  (fun h => ?_) (fun h => ?_)
  · rw [if_pos h]
    have hp := hp.1 h
    refine b4_read_21  (fun h => ?_) (fun h => ?_)
    · rw [if_neg h]
      have hp := hp.1 h
      refine b4_read_33  ?_
      exact T_4_read_34 k6 pk6 ih6 x2 0 M hp
    · rw [if_pos h]
      have hp := hp.2 h
      refine b4_read_29  ?_
      exact T_4_read_34 k6 pk6 ih6 x2 1 M hp
  · rw [if_neg h]
    exact b4_read_19  rfl rfl
def F_4_read_66 (xs0 : Int32) (M : Mem) : Int32 × Mem := (xs0, M)
def P_4_read_66 (xs0 : Int32) (M : Mem) : Prop := (narrow .boolean (.int xs0) = .int xs0)
theorem T_4_read_66 {g : Gl} (xs0 : Int32) (M : Mem) (hp : P_4_read_66 xs0 M) : Rn g 6 m4_read 66 [none, none, none] [.int xs0] M (some (.int (F_4_read_66 xs0 M).1)) ((F_4_read_66 xs0 M).2) := by
  rw [F_4_read_66]
  rw [P_4_read_66] at hp
  have p0 := hp
  exact b4_read_66  rfl rfl p0
def F_4_read_6  : Nat → Int32 → Mem → Int32 × Mem
  | 0, _, M => (0, M)
  | n + 1, x2, M => if (60 : Int32) < x2 then (F_4_read_66 ((F_5_fail_0 3 (rd M 1560 4) M).1) ((F_5_fail_0 3 (rd M 1560 4) M).2)) else (F_4_read_16 (F_4_read_6 n) x2 ((F_5_atEnd_0 M).1) ((F_5_atEnd_0 M).2))
def P_4_read_6  : Nat → Int32 → Mem → Prop
  | 0, _, _ => False
  | n + 1, x2, M => (((60 : Int32) < x2 → ((P_4_read_66 ((F_5_fail_0 3 (rd M 1560 4) M).1) ((F_5_fail_0 3 (rd M 1560 4) M).2)))) ∧ (¬ (60 : Int32) < x2 → ((P_5_atEnd_0 M) ∧ (P_4_read_16 (P_4_read_6 n) x2 ((F_5_atEnd_0 M).1) ((F_5_atEnd_0 M).2)))))
theorem T_4_read_6 {g : Gl} : ∀ (n : Nat) (x2 : Int32) (M : Mem) (hp : P_4_read_6 n x2 M), Rn g 6 m4_read 6 [some (.ref 1572), some (.ref 1560), some (.int x2)] [] M (some (.int (F_4_read_6 n x2 M).1)) ((F_4_read_6 n x2 M).2) := by
  intro n
  induction n with
  | zero => intro x2 M hp; exact hp.elim
  | succ n ih =>
    intro x2 M hp
    rw [F_4_read_6]
    rw [P_4_read_6] at hp
    refine b4_read_6  (fun h => ?_) (fun h => ?_)
    · rw [if_pos h]
      have hp := hp.1 h
      refine b4_read_57  (C_5_fail 3 (rd M 1560 4) M) (Nat.le_of_ble_eq_true rfl) ?_
      exact T_4_read_66 ((F_5_fail_0 3 (rd M 1560 4) M).1) ((F_5_fail_0 3 (rd M 1560 4) M).2) hp
    · rw [if_neg h]
      have hp := hp.2 h
      obtain ⟨hc, hp⟩ := hp
      refine b4_read_12  (C_5_atEnd  M hc) (Nat.le_of_ble_eq_true rfl) ?_
      exact T_4_read_16 (F_4_read_6 n) (P_4_read_6 n) ih x2 ((F_5_atEnd_0 M).1) ((F_5_atEnd_0 M).2) hp
def F_4_read_4 (M : Mem) : Int32 × Mem := F_4_read_6 FU 0 M
def P_4_read_4 (M : Mem) : Prop := (P_4_read_6 FU 0 M)
theorem T_4_read_4 {g : Gl} (M : Mem) (hp : P_4_read_4 M) : Rn g 6 m4_read 4 [some (.ref 1572), some (.ref 1560), none] [] M (some (.int (F_4_read_4 M).1)) ((F_4_read_4 M).2) := by
  rw [F_4_read_4]
  rw [P_4_read_4] at hp
  refine b4_read_4  ?_
  exact T_4_read_6 FU 0 M hp
def F_4_read_0 (M : Mem) : Int32 × Mem := F_4_read_4 (F_4_clear_0 M)
def P_4_read_0 (M : Mem) : Prop := ((P_4_clear_0 M) ∧ (P_4_read_4 (F_4_clear_0 M)))
theorem T_4_read_0 {g : Gl} (M : Mem) (hp : P_4_read_0 M) : Rn g 6 m4_read 0 [some (.ref 1572), some (.ref 1560), none] [] M (some (.int (F_4_read_0 M).1)) ((F_4_read_0 M).2) := by
  rw [F_4_read_0]
  rw [P_4_read_0] at hp
  obtain ⟨hc, hp⟩ := hp
  refine b4_read_0  (C_4_clear  M hc) (Nat.le_of_ble_eq_true rfl) ?_
  exact T_4_read_4 (F_4_clear_0 M) hp
theorem C_4_read {g : Gl}   (M : Mem) (hp : P_4_read_0 M) : Ms g 6 m4_read [.ref 1572, .ref 1560] M (some (.int (F_4_read_0 M).1)) ((F_4_read_0 M).2) := Ms.of okM_m4_read (Nat.le_of_ble_eq_true rfl) (R_wk (lc rfl (lc rfl (ln l0))) (T_4_read_0 M hp))
