def F_12_parted_155 (k94 : Int32 → Int32 → Int32 → Int32 → Int32 → Int32 → Int32 → Mem → Int32 × Mem) (x1 : Int32) (x2 : Int32) (x3 : Int32) (x4 : Int32) (x5 : Int32) (x6 : Int32) (x7 : Int32) (M : Mem) : Int32 × Mem := k94 x1 x2 x3 x4 x5 x6 (x7 + 1) M
def P_12_parted_155 (pk94 : Int32 → Int32 → Int32 → Int32 → Int32 → Int32 → Int32 → Mem → Prop) (x1 : Int32) (x2 : Int32) (x3 : Int32) (x4 : Int32) (x5 : Int32) (x6 : Int32) (x7 : Int32) (M : Mem) : Prop := (pk94 x1 x2 x3 x4 x5 x6 (x7 + 1) M)
theorem T_12_parted_155 {g : Gl} (k94 : Int32 → Int32 → Int32 → Int32 → Int32 → Int32 → Int32 → Mem → Int32 × Mem) (pk94 : Int32 → Int32 → Int32 → Int32 → Int32 → Int32 → Int32 → Mem → Prop) (ih94 : ∀ (x1 : Int32) (x2 : Int32) (x3 : Int32) (x4 : Int32) (x5 : Int32) (x6 : Int32) (x7 : Int32) (M : Mem), pk94 x1 x2 x3 x4 x5 x6 x7 M → Rn g 14 m12_parted 94 [some (.ref 0), some (.int x1), some (.int x2), some (.int x3), some (.int x4), some (.int x5), some (.int x6), some (.int x7)] [] M (some (.int (k94 x1 x2 x3 x4 x5 x6 x7 M).1)) ((k94 x1 x2 x3 x4 x5 x6 x7 M).2)) (x1 : Int32) (x2 : Int32) (x3 : Int32) (x4 : Int32) (x5 : Int32) (x6 : Int32) (x7 : Int32) (M : Mem) (hp : P_12_parted_155 pk94 x1 x2 x3 x4 x5 x6 x7 M) : Rn g 14 m12_parted 155 [some (.ref 0), some (.int x1), some (.int x2), some (.int x3), some (.int x4), some (.int x5), some (.int x6), some (.int x7)] [] M (some (.int (F_12_parted_155 k94 x1 x2 x3 x4 x5 x6 x7 M).1)) ((F_12_parted_155 k94 x1 x2 x3 x4 x5 x6 x7 M).2) := by
  rw [F_12_parted_155]
  rw [P_12_parted_155] at hp
  refine b12_parted_155  ?_
  exact ih94 x1 x2 x3 x4 x5 x6 (x7 + 1) M hp
def F_12_parted_135 (k94 : Int32 → Int32 → Int32 → Int32 → Int32 → Int32 → Int32 → Mem → Int32 × Mem) (x1 : Int32) (x2 : Int32) (x3 : Int32) (x4 : Int32) (x5 : Int32) (x6 : Int32) (x7 : Int32) (xs0 : Int32) (M : Mem) : Int32 × Mem := if xs0 = x5 then (F_12_parted_155 k94 x1 x2 x3 x4 x5 x6 x7 M) else (F_12_parted_155 k94 x1 x2 x3 x4 (x5 + (-1)) (x6 ||| ((1 : Int32) <<< (x7 &&& 31))) x7 M)
def P_12_parted_135 (pk94 : Int32 → Int32 → Int32 → Int32 → Int32 → Int32 → Int32 → Mem → Prop) (x1 : Int32) (x2 : Int32) (x3 : Int32) (x4 : Int32) (x5 : Int32) (x6 : Int32) (x7 : Int32) (xs0 : Int32) (M : Mem) : Prop := ((¬ xs0 = x5 → (P_12_parted_155 pk94 x1 x2 x3 x4 (x5 + (-1)) (x6 ||| ((1 : Int32) <<< (x7 &&& 31))) x7 M)) ∧ (xs0 = x5 → (P_12_parted_155 pk94 x1 x2 x3 x4 x5 x6 x7 M)))
theorem T_12_parted_135 {g : Gl} (k94 : Int32 → Int32 → Int32 → Int32 → Int32 → Int32 → Int32 → Mem → Int32 × Mem) (pk94 : Int32 → Int32 → Int32 → Int32 → Int32 → Int32 → Int32 → Mem → Prop) (ih94 : ∀ (x1 : Int32) (x2 : Int32) (x3 : Int32) (x4 : Int32) (x5 : Int32) (x6 : Int32) (x7 : Int32) (M : Mem), pk94 x1 x2 x3 x4 x5 x6 x7 M → Rn g 14 m12_parted 94 [some (.ref 0), some (.int x1), some (.int x2), some (.int x3), some (.int x4), some (.int x5), some (.int x6), some (.int x7)] [] M (some (.int (k94 x1 x2 x3 x4 x5 x6 x7 M).1)) ((k94 x1 x2 x3 x4 x5 x6 x7 M).2)) (x1 : Int32) (x2 : Int32) (x3 : Int32) (x4 : Int32) (x5 : Int32) (x6 : Int32) (x7 : Int32) (xs0 : Int32) (M : Mem) (hp : P_12_parted_135 pk94 x1 x2 x3 x4 x5 x6 x7 xs0 M) : Rn g 14 m12_parted 135 [some (.ref 0), some (.int x1), some (.int x2), some (.int x3), some (.int x4), some (.int x5), some (.int x6), some (.int x7)] [.int xs0] M (some (.int (F_12_parted_135 k94 x1 x2 x3 x4 x5 x6 x7 xs0 M).1)) ((F_12_parted_135 k94 x1 x2 x3 x4 x5 x6 x7 xs0 M).2) := by
  rw [F_12_parted_135]
  rw [P_12_parted_135] at hp
  refine b12_parted_135  (fun h => ?_) (fun h => ?_)
  · rw [if_neg h]
    have hp := hp.1 h
    refine b12_parted_143  ?_
    exact T_12_parted_155 k94 pk94 ih94 x1 x2 x3 x4 (x5 + (-1)) (x6 ||| ((1 : Int32) <<< (x7 &&& 31))) x7 M hp
  · rw [if_pos h]
    have hp := hp.2 h
    refine b12_parted_140  ?_
    exact T_12_parted_155 k94 pk94 ih94 x1 x2 x3 x4 x5 x6 x7 M hp
def F_12_parted_161 (x3 : Int32) (x4 : Int32) (x6 : Int32) (M : Mem) : Int32 × Mem := if x3 = 0 then ((x4, M)) else ((x6, M))
theorem T_12_parted_161 {g : Gl} (x3 : Int32) (x4 : Int32) (x6 : Int32) (M : Mem)  : Rn g 14 m12_parted 161 [none, none, none, some (.int x3), some (.int x4), none, some (.int x6), none] [] M (some (.int (F_12_parted_161 x3 x4 x6 M).1)) ((F_12_parted_161 x3 x4 x6 M).2) := by
  rw [F_12_parted_161]
  refine b12_parted_161  (fun h => ?_) (fun h => ?_)
  · rw [if_neg h]
    refine b12_parted_170  ?_
    exact b12_parted_172  rfl rfl
  · rw [if_pos h]
    refine b12_parted_165  ?_
    exact b12_parted_172  rfl rfl
def F_12_parted_94  : Nat → Int32 → Int32 → Int32 → Int32 → Int32 → Int32 → Int32 → Mem → Int32 × Mem
  | 0, _, _, _, _, _, _, _, M => (0, M)
  | n + 1, x1, x2, x3, x4, x5, x6, x7, M => if (rd M 4 ((1 : Int32).toNatClampNeg)) ≤ x7 then (F_12_parted_161 x3 x4 x6 M) else (if x5 ≤ 0 then (F_12_parted_161 x3 x4 x6 M) else (if (F_12_isBarred_0 M x7) = 0 then (F_12_parted_135 (F_12_parted_94 n) x1 x2 x3 x4 x5 x6 x7 ((F_12_flowsTo_0 x1 x2 (x6 ||| ((1 : Int32) <<< (x7 &&& 31))) M).1) ((F_12_flowsTo_0 x1 x2 (x6 ||| ((1 : Int32) <<< (x7 &&& 31))) M).2)) else (F_12_parted_155 (F_12_parted_94 n) x1 x2 x3 x4 x5 x6 x7 M)))
def P_12_parted_94  : Nat → Int32 → Int32 → Int32 → Int32 → Int32 → Int32 → Int32 → Mem → Prop
  | 0, _, _, _, _, _, _, _, _ => False
  | n + 1, x1, x2, x3, x4, x5, x6, x7, M => (((rd M 4 ((1 : Int32).toNatClampNeg)) ≤ x7 → True) ∧ (¬ (rd M 4 ((1 : Int32).toNatClampNeg)) ≤ x7 → ((x5 ≤ 0 → True) ∧ (¬ x5 ≤ 0 → ((P_12_isBarred_0 M x7) ∧ (((¬ (F_12_isBarred_0 M x7) = 0 → P_12_parted_155 (P_12_parted_94 n) x1 x2 x3 x4 x5 x6 x7 M) ∧ ((F_12_isBarred_0 M x7) = 0 → ((P_12_flowsTo_0 x1 x2 (x6 ||| ((1 : Int32) <<< (x7 &&& 31))) M) ∧ (P_12_parted_135 (P_12_parted_94 n) x1 x2 x3 x4 x5 x6 x7 ((F_12_flowsTo_0 x1 x2 (x6 ||| ((1 : Int32) <<< (x7 &&& 31))) M).1) ((F_12_flowsTo_0 x1 x2 (x6 ||| ((1 : Int32) <<< (x7 &&& 31))) M).2)))))))))))
theorem T_12_parted_94 {g : Gl} : ∀ (n : Nat) (x1 : Int32) (x2 : Int32) (x3 : Int32) (x4 : Int32) (x5 : Int32) (x6 : Int32) (x7 : Int32) (M : Mem) (hp : P_12_parted_94 n x1 x2 x3 x4 x5 x6 x7 M), Rn g 14 m12_parted 94 [some (.ref 0), some (.int x1), some (.int x2), some (.int x3), some (.int x4), some (.int x5), some (.int x6), some (.int x7)] [] M (some (.int (F_12_parted_94 n x1 x2 x3 x4 x5 x6 x7 M).1)) ((F_12_parted_94 n x1 x2 x3 x4 x5 x6 x7 M).2) := by
  intro n
  induction n with
  | zero => intro x1 x2 x3 x4 x5 x6 x7 M hp; exact hp.elim
  | succ n ih =>
    intro x1 x2 x3 x4 x5 x6 x7 M hp
    rw [F_12_parted_94]
    rw [P_12_parted_94] at hp
    refine b12_parted_94 (vpl (by decide)) (fun h => ?_) (fun h => ?_)
    · rw [if_pos h]
      exact T_12_parted_161 x3 x4 x6 M
    · rw [if_neg h]
      have hp := hp.2 h
      refine b12_parted_105  (fun h => ?_) (fun h => ?_)
      · rw [if_pos h]
        exact T_12_parted_161 x3 x4 x6 M
      · rw [if_neg h]
        have hp := hp.2 h
        obtain ⟨hc, hp⟩ := hp
        refine b12_parted_110  (C_12_isBarred x7 M hc) (Nat.le_of_ble_eq_true rfl) ?_
        refine b12_parted_119  (fun h => ?_) (fun h => ?_)
        · rw [if_neg h]
          have hp := hp.1 h
          exact T_12_parted_155 (F_12_parted_94 n) (P_12_parted_94 n) ih x1 x2 x3 x4 x5 x6 x7 M hp
        · rw [if_pos h]
          have hp := hp.2 h
          obtain ⟨hc, hp⟩ := hp
          refine b12_parted_122  (C_12_flowsTo x1 x2 (x6 ||| ((1 : Int32) <<< (x7 &&& 31))) M hc) (Nat.le_of_ble_eq_true rfl) ?_
          exact T_12_parted_135 (F_12_parted_94 n) (P_12_parted_94 n) ih x1 x2 x3 x4 x5 x6 x7 ((F_12_flowsTo_0 x1 x2 (x6 ||| ((1 : Int32) <<< (x7 &&& 31))) M).1) ((F_12_flowsTo_0 x1 x2 (x6 ||| ((1 : Int32) <<< (x7 &&& 31))) M).2) hp
def F_12_parted_82 (x1 : Int32) (x2 : Int32) (x3 : Int32) (xs0 : Int32) (M : Mem) : Int32 × Mem := F_12_parted_94 FU x1 x2 x3 xs0 xs0 0 0 M
def P_12_parted_82 (x1 : Int32) (x2 : Int32) (x3 : Int32) (xs0 : Int32) (M : Mem) : Prop := (P_12_parted_94 FU x1 x2 x3 xs0 xs0 0 0 M)
theorem T_12_parted_82 {g : Gl} (x1 : Int32) (x2 : Int32) (x3 : Int32) (xs0 : Int32) (M : Mem) (hp : P_12_parted_82 x1 x2 x3 xs0 M) : Rn g 14 m12_parted 82 [some (.ref 0), some (.int x1), some (.int x2), some (.int x3), none, none, none, none] [.int xs0] M (some (.int (F_12_parted_82 x1 x2 x3 xs0 M).1)) ((F_12_parted_82 x1 x2 x3 xs0 M).2) := by
  rw [F_12_parted_82]
  rw [P_12_parted_82] at hp
  refine b12_parted_82  ?_
  exact T_12_parted_94 FU x1 x2 x3 xs0 xs0 0 0 M hp
def F_12_parted_55 (x1 : Int32) (x2 : Int32) (x3 : Int32) (xs0 : Int32) (M : Mem) : Int32 × Mem := if xs0 = 0 then (if x1 = x2 then (if x3 = 0 then (((-1), M)) else ((0, M))) else (F_12_parted_82 x1 x2 x3 ((F_12_flowsTo_0 x1 x2 0 M).1) ((F_12_flowsTo_0 x1 x2 0 M).2))) else ((0, M))
def P_12_parted_55 (x1 : Int32) (x2 : Int32) (x3 : Int32) (xs0 : Int32) (M : Mem) : Prop := ((xs0 = 0 → ((¬ x1 = x2 → ((P_12_flowsTo_0 x1 x2 0 M) ∧ (P_12_parted_82 x1 x2 x3 ((F_12_flowsTo_0 x1 x2 0 M).1) ((F_12_flowsTo_0 x1 x2 0 M).2)))) ∧ (x1 = x2 → True))) ∧ (¬ xs0 = 0 → True))
theorem T_12_parted_55 {g : Gl} (x1 : Int32) (x2 : Int32) (x3 : Int32) (xs0 : Int32) (M : Mem) (hp : P_12_parted_55 x1 x2 x3 xs0 M) : Rn g 14 m12_parted 55 [some (.ref 0), some (.int x1), some (.int x2), some (.int x3), none, none, none, none] [.int xs0] M (some (.int (F_12_parted_55 x1 x2 x3 xs0 M).1)) ((F_12_parted_55 x1 x2 x3 xs0 M).2) := by
  rw [F_12_parted_55]
  rw [P_12_parted_55] at hp
  refine b12_parted_55  (fun h => ?_) (fun h => ?_)
  · rw [if_pos h]
    have hp := hp.1 h
    refine b12_parted_60  (fun h => ?_) (fun h => ?_)
    · rw [if_neg h]
      have hp := hp.1 h
      obtain ⟨hc, hp⟩ := hp
      refine b12_parted_75  (C_12_flowsTo x1 x2 0 M hc) (Nat.le_of_ble_eq_true rfl) ?_
      exact T_12_parted_82 x1 x2 x3 ((F_12_flowsTo_0 x1 x2 0 M).1) ((F_12_flowsTo_0 x1 x2 0 M).2) hp
    · rw [if_pos h]
      refine b12_parted_65  (fun h => ?_) (fun h => ?_)
      · rw [if_neg h]
        refine b12_parted_73  ?_
        exact b12_parted_74  rfl rfl
      · rw [if_pos h]
        refine b12_parted_69  ?_
        exact b12_parted_74  rfl rfl
  · rw [if_neg h]
    exact b12_parted_58  rfl rfl
def F_12_parted_50 (x1 : Int32) (x2 : Int32) (x3 : Int32) (xs0 : Int32) (M : Mem) : Int32 × Mem := F_12_parted_55 x1 x2 x3 ((F_12_bad_0 xs0 2 1 M).1) ((F_12_bad_0 xs0 2 1 M).2)
def P_12_parted_50 (x1 : Int32) (x2 : Int32) (x3 : Int32) (xs0 : Int32) (M : Mem) : Prop := ((P_12_bad_0 xs0 2 1 M) ∧ (P_12_parted_55 x1 x2 x3 ((F_12_bad_0 xs0 2 1 M).1) ((F_12_bad_0 xs0 2 1 M).2)))
theorem T_12_parted_50 {g : Gl} (x1 : Int32) (x2 : Int32) (x3 : Int32) (xs0 : Int32) (M : Mem) (hp : P_12_parted_50 x1 x2 x3 xs0 M) : Rn g 14 m12_parted 50 [some (.ref 0), some (.int x1), some (.int x2), some (.int x3), none, none, none, none] [.int xs0, .ref 0] M (some (.int (F_12_parted_50 x1 x2 x3 xs0 M).1)) ((F_12_parted_50 x1 x2 x3 xs0 M).2) := by
  rw [F_12_parted_50]
  rw [P_12_parted_50] at hp
  obtain ⟨hc, hp⟩ := hp
  refine b12_parted_50  (C_12_bad xs0 2 1 M hc) (Nat.le_of_ble_eq_true rfl) ?_
  exact T_12_parted_55 x1 x2 x3 ((F_12_bad_0 xs0 2 1 M).1) ((F_12_bad_0 xs0 2 1 M).2) hp
def F_12_parted_32 (x1 : Int32) (x2 : Int32) (x3 : Int32) (xs0 : Int32) (M : Mem) : Int32 × Mem := if xs0 = 0 then (if (F_12_in_0 M x3 0 1) = 0 then (F_12_parted_50 x1 x2 x3 1 M) else (F_12_parted_50 x1 x2 x3 0 M)) else ((0, M))
def P_12_parted_32 (x1 : Int32) (x2 : Int32) (x3 : Int32) (xs0 : Int32) (M : Mem) : Prop := ((¬ xs0 = 0 → True) ∧ (xs0 = 0 → ((((¬ (F_12_in_0 M x3 0 1) = 0 → (P_12_parted_50 x1 x2 x3 0 M)) ∧ ((F_12_in_0 M x3 0 1) = 0 → (P_12_parted_50 x1 x2 x3 1 M)))))))
theorem T_12_parted_32 {g : Gl} (x1 : Int32) (x2 : Int32) (x3 : Int32) (xs0 : Int32) (M : Mem) (hp : P_12_parted_32 x1 x2 x3 xs0 M) : Rn g 14 m12_parted 32 [some (.ref 0), some (.int x1), some (.int x2), some (.int x3), none, none, none, none] [.int xs0] M (some (.int (F_12_parted_32 x1 x2 x3 xs0 M).1)) ((F_12_parted_32 x1 x2 x3 xs0 M).2) := by
  rw [F_12_parted_32]
  rw [P_12_parted_32] at hp
  refine b12_parted_32  (fun h => ?_) (fun h => ?_)
  · rw [if_neg h]
    exact b12_parted_58  rfl rfl
  · rw [if_pos h]
    have hp := hp.2 h
    refine b12_parted_35  (C_12_in x3 0 1 M) (Nat.le_of_ble_eq_true rfl) ?_
    refine b12_parted_42  (fun h => ?_) (fun h => ?_)
    · rw [if_neg h]
      have hp := hp.1 h
      refine b12_parted_49  ?_
      exact T_12_parted_50 x1 x2 x3 0 M hp
    · rw [if_pos h]
      have hp := hp.2 h
      refine b12_parted_45  ?_
      exact T_12_parted_50 x1 x2 x3 1 M hp
def F_12_parted_27 (x1 : Int32) (x2 : Int32) (x3 : Int32) (xs0 : Int32) (M : Mem) : Int32 × Mem := F_12_parted_32 x1 x2 x3 ((F_12_bad_0 xs0 1 0 M).1) ((F_12_bad_0 xs0 1 0 M).2)
def P_12_parted_27 (x1 : Int32) (x2 : Int32) (x3 : Int32) (xs0 : Int32) (M : Mem) : Prop := ((P_12_bad_0 xs0 1 0 M) ∧ (P_12_parted_32 x1 x2 x3 ((F_12_bad_0 xs0 1 0 M).1) ((F_12_bad_0 xs0 1 0 M).2)))
theorem T_12_parted_27 {g : Gl} (x1 : Int32) (x2 : Int32) (x3 : Int32) (xs0 : Int32) (M : Mem) (hp : P_12_parted_27 x1 x2 x3 xs0 M) : Rn g 14 m12_parted 27 [some (.ref 0), some (.int x1), some (.int x2), some (.int x3), none, none, none, none] [.int xs0, .ref 0] M (some (.int (F_12_parted_27 x1 x2 x3 xs0 M).1)) ((F_12_parted_27 x1 x2 x3 xs0 M).2) := by
  rw [F_12_parted_27]
  rw [P_12_parted_27] at hp
  obtain ⟨hc, hp⟩ := hp
  refine b12_parted_27  (C_12_bad xs0 1 0 M hc) (Nat.le_of_ble_eq_true rfl) ?_
  exact T_12_parted_32 x1 x2 x3 ((F_12_bad_0 xs0 1 0 M).1) ((F_12_bad_0 xs0 1 0 M).2) hp
def F_12_parted_22 (x1 : Int32) (x2 : Int32) (x3 : Int32) (M : Mem) : Int32 × Mem := F_12_parted_27 x1 x2 x3 1 M
def P_12_parted_22 (x1 : Int32) (x2 : Int32) (x3 : Int32) (M : Mem) : Prop := (P_12_parted_27 x1 x2 x3 1 M)
theorem T_12_parted_22 {g : Gl} (x1 : Int32) (x2 : Int32) (x3 : Int32) (M : Mem) (hp : P_12_parted_22 x1 x2 x3 M) : Rn g 14 m12_parted 22 [some (.ref 0), some (.int x1), some (.int x2), some (.int x3), none, none, none, none] [.ref 0] M (some (.int (F_12_parted_22 x1 x2 x3 M).1)) ((F_12_parted_22 x1 x2 x3 M).2) := by
  rw [F_12_parted_22]
  rw [P_12_parted_22] at hp
  refine b12_parted_22  ?_
  exact T_12_parted_27 x1 x2 x3 1 M hp
def F_12_parted_0 (x1 : Int32) (x2 : Int32) (x3 : Int32) (M : Mem) : Int32 × Mem := if (F_12_isRoom_0 (wr M 0 0 0) x1) = 0 then (F_12_parted_22 x1 x2 x3 (wr M 0 0 0)) else (if (F_12_isRoom_0 (wr M 0 0 0) x2) = 0 then (F_12_parted_22 x1 x2 x3 (wr M 0 0 0)) else (F_12_parted_27 x1 x2 x3 0 (wr M 0 0 0)))
def P_12_parted_0 (x1 : Int32) (x2 : Int32) (x3 : Int32) (M : Mem) : Prop := ((P_12_isRoom_0 (wr M 0 0 0) x1) ∧ ((((F_12_isRoom_0 (wr M 0 0 0) x1) = 0 → P_12_parted_22 x1 x2 x3 (wr M 0 0 0)) ∧ (¬ (F_12_isRoom_0 (wr M 0 0 0) x1) = 0 → ((P_12_isRoom_0 (wr M 0 0 0) x2) ∧ (((¬ (F_12_isRoom_0 (wr M 0 0 0) x2) = 0 → (P_12_parted_27 x1 x2 x3 0 (wr M 0 0 0))) ∧ ((F_12_isRoom_0 (wr M 0 0 0) x2) = 0 → P_12_parted_22 x1 x2 x3 (wr M 0 0 0)))))))))
theorem T_12_parted_0 {g : Gl} (x1 : Int32) (x2 : Int32) (x3 : Int32) (M : Mem) (hp : P_12_parted_0 x1 x2 x3 M) : Rn g 14 m12_parted 0 [some (.ref 0), some (.int x1), some (.int x2), some (.int x3), none, none, none, none] [] M (some (.int (F_12_parted_0 x1 x2 x3 M).1)) ((F_12_parted_0 x1 x2 x3 M).2) := by
  rw [F_12_parted_0]
  rw [P_12_parted_0] at hp
  obtain ⟨hc, hp⟩ := hp
  refine b12_parted_0  (C_12_isRoom x1 (wr M 0 0 0) hc) (Nat.le_of_ble_eq_true rfl) ?_
  refine b12_parted_11  (fun h => ?_) (fun h => ?_)
  · rw [if_pos h]
    have hp := hp.1 h
    exact T_12_parted_22 x1 x2 x3 (wr M 0 0 0) hp
  · rw [if_neg h]
    have hp := hp.2 h
    obtain ⟨hc, hp⟩ := hp
    refine b12_parted_14  (C_12_isRoom x2 (wr M 0 0 0) hc) (Nat.le_of_ble_eq_true rfl) ?_
    refine b12_parted_19  (fun h => ?_) (fun h => ?_)
    · rw [if_neg h]
      have hp := hp.1 h
      refine b12_parted_26  ?_
      exact T_12_parted_27 x1 x2 x3 0 (wr M 0 0 0) hp
    · rw [if_pos h]
      have hp := hp.2 h
      exact T_12_parted_22 x1 x2 x3 (wr M 0 0 0) hp
theorem C_12_parted {g : Gl}  (x1 : Int32) (x2 : Int32) (x3 : Int32) (M : Mem) (hp : P_12_parted_0 x1 x2 x3 M) : Ms g 14 m12_parted [.ref 0, .int x1, .int x2, .int x3] M (some (.int (F_12_parted_0 x1 x2 x3 M).1)) ((F_12_parted_0 x1 x2 x3 M).2) := Ms.of okM_m12_parted (Nat.le_of_ble_eq_true rfl) (R_wk (lc rfl (lc rfl (lc rfl (lc rfl (ln (ln (ln (ln l0)))))))) (T_12_parted_0 x1 x2 x3 M hp))
def F_12_quiet_93 (k68 : Int32 → Int32 → Int32 → Int64 → Int32 → Mem → Int64 × Mem) (x1 : Int32) (x2 : Int32) (x3 : Int32) (y4 : Int64) (x6 : Int32) (ys0 : Int64) (xs1 : Int32) (M : Mem) : Int64 × Mem := k68 x1 x2 x3 y4 (x6 + 1) (wl M 28 xs1.toNatClampNeg ys0)
def P_12_quiet_93 (pk68 : Int32 → Int32 → Int32 → Int64 → Int32 → Mem → Prop) (x1 : Int32) (x2 : Int32) (x3 : Int32) (y4 : Int64) (x6 : Int32) (ys0 : Int64) (xs1 : Int32) (M : Mem) : Prop := (vp_in xs1 10) ∧ (pk68 x1 x2 x3 y4 (x6 + 1) (wl M 28 xs1.toNatClampNeg ys0))
theorem T_12_quiet_93 {g : Gl} (k68 : Int32 → Int32 → Int32 → Int64 → Int32 → Mem → Int64 × Mem) (pk68 : Int32 → Int32 → Int32 → Int64 → Int32 → Mem → Prop) (ih68 : ∀ (x1 : Int32) (x2 : Int32) (x3 : Int32) (y4 : Int64) (x6 : Int32) (M : Mem), pk68 x1 x2 x3 y4 x6 M → Rn g 2 m12_quiet 68 [some (.ref 0), some (.int x1), some (.int x2), some (.int x3), some (.long y4), none, some (.int x6), none, none, none, none, none] [] M (some (.long (k68 x1 x2 x3 y4 x6 M).1)) ((k68 x1 x2 x3 y4 x6 M).2)) (x1 : Int32) (x2 : Int32) (x3 : Int32) (y4 : Int64) (x6 : Int32) (ys0 : Int64) (xs1 : Int32) (M : Mem) (hp : P_12_quiet_93 pk68 x1 x2 x3 y4 x6 ys0 xs1 M) : Rn g 2 m12_quiet 93 [some (.ref 0), some (.int x1), some (.int x2), some (.int x3), some (.long y4), none, some (.int x6), none, none, none, none, none] [.long ys0, .int xs1, .ref 28] M (some (.long (F_12_quiet_93 k68 x1 x2 x3 y4 x6 ys0 xs1 M).1)) ((F_12_quiet_93 k68 x1 x2 x3 y4 x6 ys0 xs1 M).2) := by
  rw [F_12_quiet_93]
  rw [P_12_quiet_93] at hp
  obtain ⟨p0, hp⟩ := hp
  refine b12_quiet_93 p0 ?_
  exact ih68 x1 x2 x3 y4 (x6 + 1) (wl M 28 xs1.toNatClampNeg ys0) hp
def F_12_quiet_237 (k103 : Int32 → Int32 → Int64 → Int32 → Mem → Int64 × Mem) (k143 : Int32 → Int32 → Int64 → Int32 → Int32 → Mem → Int64 × Mem) (x2 : Int32) (x3 : Int32) (y4 : Int64) (x6 : Int32) (x7 : Int32) (ys0 : Int64) (xs1 : Int32) (M : Mem) : Int64 × Mem := k143 x2 x3 y4 x6 (x7 + 1) (wl M 29 xs1.toNatClampNeg ys0)
def P_12_quiet_237 (pk103 : Int32 → Int32 → Int64 → Int32 → Mem → Prop) (pk143 : Int32 → Int32 → Int64 → Int32 → Int32 → Mem → Prop) (x2 : Int32) (x3 : Int32) (y4 : Int64) (x6 : Int32) (x7 : Int32) (ys0 : Int64) (xs1 : Int32) (M : Mem) : Prop := (vp_in xs1 10) ∧ (pk143 x2 x3 y4 x6 (x7 + 1) (wl M 29 xs1.toNatClampNeg ys0))
theorem T_12_quiet_237 {g : Gl} (k103 : Int32 → Int32 → Int64 → Int32 → Mem → Int64 × Mem) (k143 : Int32 → Int32 → Int64 → Int32 → Int32 → Mem → Int64 × Mem) (pk103 : Int32 → Int32 → Int64 → Int32 → Mem → Prop) (pk143 : Int32 → Int32 → Int64 → Int32 → Int32 → Mem → Prop) (ih103 : ∀ (x2 : Int32) (x3 : Int32) (y4 : Int64) (x6 : Int32) (M : Mem), pk103 x2 x3 y4 x6 M → Rn g 2 m12_quiet 103 [some (.ref 0), none, some (.int x2), some (.int x3), some (.long y4), none, some (.int x6), none, none, none, none, none] [] M (some (.long (k103 x2 x3 y4 x6 M).1)) ((k103 x2 x3 y4 x6 M).2)) (ih143 : ∀ (x2 : Int32) (x3 : Int32) (y4 : Int64) (x6 : Int32) (x7 : Int32) (M : Mem), pk143 x2 x3 y4 x6 x7 M → Rn g 2 m12_quiet 143 [some (.ref 0), none, some (.int x2), some (.int x3), some (.long y4), none, some (.int x6), some (.int x7), none, none, none, none] [] M (some (.long (k143 x2 x3 y4 x6 x7 M).1)) ((k143 x2 x3 y4 x6 x7 M).2)) (x2 : Int32) (x3 : Int32) (y4 : Int64) (x6 : Int32) (x7 : Int32) (ys0 : Int64) (xs1 : Int32) (M : Mem) (hp : P_12_quiet_237 pk103 pk143 x2 x3 y4 x6 x7 ys0 xs1 M) : Rn g 2 m12_quiet 237 [some (.ref 0), none, some (.int x2), some (.int x3), some (.long y4), none, some (.int x6), some (.int x7), none, none, none, none] [.long ys0, .int xs1, .ref 29] M (some (.long (F_12_quiet_237 k103 k143 x2 x3 y4 x6 x7 ys0 xs1 M).1)) ((F_12_quiet_237 k103 k143 x2 x3 y4 x6 x7 ys0 xs1 M).2) := by
  rw [F_12_quiet_237]
  rw [P_12_quiet_237] at hp
  obtain ⟨p0, hp⟩ := hp
  refine b12_quiet_237 p0 ?_
  exact ih143 x2 x3 y4 x6 (x7 + 1) (wl M 29 xs1.toNatClampNeg ys0) hp
def F_12_quiet_225 (k103 : Int32 → Int32 → Int64 → Int32 → Mem → Int64 × Mem) (k143 : Int32 → Int32 → Int64 → Int32 → Int32 → Mem → Int64 × Mem) (x2 : Int32) (x3 : Int32) (y4 : Int64) (x6 : Int32) (x7 : Int32) (x8 : Int32) (xs0 : Int32) (M : Mem) : Int64 × Mem := F_12_quiet_237 k103 k143 x2 x3 y4 x6 x7 (rl M 29 x8.toNatClampNeg) xs0 M
def P_12_quiet_225 (pk103 : Int32 → Int32 → Int64 → Int32 → Mem → Prop) (pk143 : Int32 → Int32 → Int64 → Int32 → Int32 → Mem → Prop) (x2 : Int32) (x3 : Int32) (y4 : Int64) (x6 : Int32) (x7 : Int32) (x8 : Int32) (xs0 : Int32) (M : Mem) : Prop := (vp_in x8 10) ∧ (P_12_quiet_237 pk103 pk143 x2 x3 y4 x6 x7 (rl M 29 x8.toNatClampNeg) xs0 M)
theorem T_12_quiet_225 {g : Gl} (k103 : Int32 → Int32 → Int64 → Int32 → Mem → Int64 × Mem) (k143 : Int32 → Int32 → Int64 → Int32 → Int32 → Mem → Int64 × Mem) (pk103 : Int32 → Int32 → Int64 → Int32 → Mem → Prop) (pk143 : Int32 → Int32 → Int64 → Int32 → Int32 → Mem → Prop) (ih103 : ∀ (x2 : Int32) (x3 : Int32) (y4 : Int64) (x6 : Int32) (M : Mem), pk103 x2 x3 y4 x6 M → Rn g 2 m12_quiet 103 [some (.ref 0), none, some (.int x2), some (.int x3), some (.long y4), none, some (.int x6), none, none, none, none, none] [] M (some (.long (k103 x2 x3 y4 x6 M).1)) ((k103 x2 x3 y4 x6 M).2)) (ih143 : ∀ (x2 : Int32) (x3 : Int32) (y4 : Int64) (x6 : Int32) (x7 : Int32) (M : Mem), pk143 x2 x3 y4 x6 x7 M → Rn g 2 m12_quiet 143 [some (.ref 0), none, some (.int x2), some (.int x3), some (.long y4), none, some (.int x6), some (.int x7), none, none, none, none] [] M (some (.long (k143 x2 x3 y4 x6 x7 M).1)) ((k143 x2 x3 y4 x6 x7 M).2)) (x2 : Int32) (x3 : Int32) (y4 : Int64) (x6 : Int32) (x7 : Int32) (x8 : Int32) (xs0 : Int32) (M : Mem) (hp : P_12_quiet_225 pk103 pk143 x2 x3 y4 x6 x7 x8 xs0 M) : Rn g 2 m12_quiet 225 [some (.ref 0), none, some (.int x2), some (.int x3), some (.long y4), none, some (.int x6), some (.int x7), some (.int x8), none, none, none] [.int xs0, .ref 29] M (some (.long (F_12_quiet_225 k103 k143 x2 x3 y4 x6 x7 x8 xs0 M).1)) ((F_12_quiet_225 k103 k143 x2 x3 y4 x6 x7 x8 xs0 M).2) := by
  rw [F_12_quiet_225]
  rw [P_12_quiet_225] at hp
  obtain ⟨p0, hp⟩ := hp
  refine b12_quiet_225 p0 ?_
  exact T_12_quiet_237 k103 k143 pk103 pk143 ih103 ih143 x2 x3 y4 x6 x7 (rl M 29 x8.toNatClampNeg) xs0 M hp
def F_12_quiet_247 (k103 : Int32 → Int32 → Int64 → Int32 → Mem → Int64 × Mem) : Nat → Int32 → Int32 → Int64 → Int32 → Int32 → Mem → Int64 × Mem
  | 0, _, _, _, _, _, M => (0, M)
  | n + 1, x2, x3, y4, x6, x7, M => if (10 : Int32) ≤ x7 then (k103 x2 x3 y4 (x6 + 1) M) else ((F_12_quiet_247 k103 n) x2 x3 y4 x6 (x7 + 1) (wl M 28 x7.toNatClampNeg (rl M 29 x7.toNatClampNeg)))
def P_12_quiet_247 (pk103 : Int32 → Int32 → Int64 → Int32 → Mem → Prop) : Nat → Int32 → Int32 → Int64 → Int32 → Int32 → Mem → Prop
  | 0, _, _, _, _, _, _ => False
  | n + 1, x2, x3, y4, x6, x7, M => (((10 : Int32) ≤ x7 → (pk103 x2 x3 y4 (x6 + 1) M)) ∧ (¬ (10 : Int32) ≤ x7 → (vp_in x7 10) ∧ ((P_12_quiet_247 pk103 n) x2 x3 y4 x6 (x7 + 1) (wl M 28 x7.toNatClampNeg (rl M 29 x7.toNatClampNeg)))))
theorem T_12_quiet_247 {g : Gl} (k103 : Int32 → Int32 → Int64 → Int32 → Mem → Int64 × Mem) (pk103 : Int32 → Int32 → Int64 → Int32 → Mem → Prop) (ih103 : ∀ (x2 : Int32) (x3 : Int32) (y4 : Int64) (x6 : Int32) (M : Mem), pk103 x2 x3 y4 x6 M → Rn g 2 m12_quiet 103 [some (.ref 0), none, some (.int x2), some (.int x3), some (.long y4), none, some (.int x6), none, none, none, none, none] [] M (some (.long (k103 x2 x3 y4 x6 M).1)) ((k103 x2 x3 y4 x6 M).2)) : ∀ (n : Nat) (x2 : Int32) (x3 : Int32) (y4 : Int64) (x6 : Int32) (x7 : Int32) (M : Mem) (hp : P_12_quiet_247 pk103 n x2 x3 y4 x6 x7 M), Rn g 2 m12_quiet 247 [some (.ref 0), none, some (.int x2), some (.int x3), some (.long y4), none, some (.int x6), some (.int x7), none, none, none, none] [] M (some (.long (F_12_quiet_247 k103 n x2 x3 y4 x6 x7 M).1)) ((F_12_quiet_247 k103 n x2 x3 y4 x6 x7 M).2) := by
  intro n
  induction n with
  | zero => intro x2 x3 y4 x6 x7 M hp; exact hp.elim
  | succ n ih =>
    intro x2 x3 y4 x6 x7 M hp
    rw [F_12_quiet_247]
    rw [P_12_quiet_247] at hp
    refine b12_quiet_247  (fun h => ?_) (fun h => ?_)
    · rw [if_pos h]
      have hp := hp.1 h
      refine b12_quiet_274  ?_
      exact ih103 x2 x3 y4 (x6 + 1) M hp
    · rw [if_neg h]
      have hp := hp.2 h
      obtain ⟨p0, hp⟩ := hp
      refine b12_quiet_254 p0 ?_
      exact ih x2 x3 y4 x6 (x7 + 1) (wl M 28 x7.toNatClampNeg (rl M 29 x7.toNatClampNeg)) hp
def F_12_quiet_143 (k103 : Int32 → Int32 → Int64 → Int32 → Mem → Int64 × Mem) : Nat → Int32 → Int32 → Int64 → Int32 → Int32 → Mem → Int64 × Mem
  | 0, _, _, _, _, _, M => (0, M)
  | n + 1, x2, x3, y4, x6, x7, M => if (rd M 4 ((1 : Int32).toNatClampNeg)) ≤ x7 then (F_12_quiet_247 k103 FU x2 x3 y4 x6 0 M) else (if (F_12_isBarred_0 M x7) = 0 then (if 0 < (lg_cmp (((rl M 28 ((rd M (54 + x7.toNatClampNeg) ((0 : Int32).toNatClampNeg)).toNatClampNeg)) / 16) * ((rd M 8 ((rd M (54 + x7.toNatClampNeg) ((1 : Int32).toNatClampNeg)).toNatClampNeg)).toInt64)) (rl M 29 (rd M (54 + x7.toNatClampNeg) ((1 : Int32).toNatClampNeg)).toNatClampNeg)) then (F_12_quiet_237 k103 (F_12_quiet_143 k103 n) x2 x3 y4 x6 x7 (((rl M 28 ((rd M (54 + x7.toNatClampNeg) ((0 : Int32).toNatClampNeg)).toNatClampNeg)) / 16) * ((rd M 8 ((rd M (54 + x7.toNatClampNeg) ((1 : Int32).toNatClampNeg)).toNatClampNeg)).toInt64)) (rd M (54 + x7.toNatClampNeg) ((1 : Int32).toNatClampNeg)) M) else (F_12_quiet_225 k103 (F_12_quiet_143 k103 n) x2 x3 y4 x6 x7 (rd M (54 + x7.toNatClampNeg) ((1 : Int32).toNatClampNeg)) (rd M (54 + x7.toNatClampNeg) ((1 : Int32).toNatClampNeg)) M)) else (F_12_quiet_225 k103 (F_12_quiet_143 k103 n) x2 x3 y4 x6 x7 (rd M (54 + x7.toNatClampNeg) ((1 : Int32).toNatClampNeg)) (rd M (54 + x7.toNatClampNeg) ((1 : Int32).toNatClampNeg)) M))
def P_12_quiet_143 (pk103 : Int32 → Int32 → Int64 → Int32 → Mem → Prop) : Nat → Int32 → Int32 → Int64 → Int32 → Int32 → Mem → Prop
  | 0, _, _, _, _, _, _ => False
  | n + 1, x2, x3, y4, x6, x7, M => (((rd M 4 ((1 : Int32).toNatClampNeg)) ≤ x7 → (P_12_quiet_247 pk103 FU x2 x3 y4 x6 0 M)) ∧ (¬ (rd M 4 ((1 : Int32).toNatClampNeg)) ≤ x7 → (vp_in x7 24) ∧ (vp_in (rd M (54 + x7.toNatClampNeg) ((0 : Int32).toNatClampNeg)) 10) ∧ (vp_in (rd M (54 + x7.toNatClampNeg) ((1 : Int32).toNatClampNeg)) 10) ∧ ((P_12_isBarred_0 M x7) ∧ (((¬ (F_12_isBarred_0 M x7) = 0 → P_12_quiet_225 pk103 (P_12_quiet_143 pk103 n) x2 x3 y4 x6 x7 (rd M (54 + x7.toNatClampNeg) ((1 : Int32).toNatClampNeg)) (rd M (54 + x7.toNatClampNeg) ((1 : Int32).toNatClampNeg)) M) ∧ ((F_12_isBarred_0 M x7) = 0 → (vp_in (rd M (54 + x7.toNatClampNeg) ((1 : Int32).toNatClampNeg)) 10) ∧ ((0 < (lg_cmp (((rl M 28 ((rd M (54 + x7.toNatClampNeg) ((0 : Int32).toNatClampNeg)).toNatClampNeg)) / 16) * ((rd M 8 ((rd M (54 + x7.toNatClampNeg) ((1 : Int32).toNatClampNeg)).toNatClampNeg)).toInt64)) (rl M 29 (rd M (54 + x7.toNatClampNeg) ((1 : Int32).toNatClampNeg)).toNatClampNeg)) → (P_12_quiet_237 pk103 (P_12_quiet_143 pk103 n) x2 x3 y4 x6 x7 (((rl M 28 ((rd M (54 + x7.toNatClampNeg) ((0 : Int32).toNatClampNeg)).toNatClampNeg)) / 16) * ((rd M 8 ((rd M (54 + x7.toNatClampNeg) ((1 : Int32).toNatClampNeg)).toNatClampNeg)).toInt64)) (rd M (54 + x7.toNatClampNeg) ((1 : Int32).toNatClampNeg)) M)) ∧ (¬ 0 < (lg_cmp (((rl M 28 ((rd M (54 + x7.toNatClampNeg) ((0 : Int32).toNatClampNeg)).toNatClampNeg)) / 16) * ((rd M 8 ((rd M (54 + x7.toNatClampNeg) ((1 : Int32).toNatClampNeg)).toNatClampNeg)).toInt64)) (rl M 29 (rd M (54 + x7.toNatClampNeg) ((1 : Int32).toNatClampNeg)).toNatClampNeg)) → P_12_quiet_225 pk103 (P_12_quiet_143 pk103 n) x2 x3 y4 x6 x7 (rd M (54 + x7.toNatClampNeg) ((1 : Int32).toNatClampNeg)) (rd M (54 + x7.toNatClampNeg) ((1 : Int32).toNatClampNeg)) M))))))))
theorem T_12_quiet_143 {g : Gl} (k103 : Int32 → Int32 → Int64 → Int32 → Mem → Int64 × Mem) (pk103 : Int32 → Int32 → Int64 → Int32 → Mem → Prop) (ih103 : ∀ (x2 : Int32) (x3 : Int32) (y4 : Int64) (x6 : Int32) (M : Mem), pk103 x2 x3 y4 x6 M → Rn g 2 m12_quiet 103 [some (.ref 0), none, some (.int x2), some (.int x3), some (.long y4), none, some (.int x6), none, none, none, none, none] [] M (some (.long (k103 x2 x3 y4 x6 M).1)) ((k103 x2 x3 y4 x6 M).2)) : ∀ (n : Nat) (x2 : Int32) (x3 : Int32) (y4 : Int64) (x6 : Int32) (x7 : Int32) (M : Mem) (hp : P_12_quiet_143 pk103 n x2 x3 y4 x6 x7 M), Rn g 2 m12_quiet 143 [some (.ref 0), none, some (.int x2), some (.int x3), some (.long y4), none, some (.int x6), some (.int x7), none, none, none, none] [] M (some (.long (F_12_quiet_143 k103 n x2 x3 y4 x6 x7 M).1)) ((F_12_quiet_143 k103 n x2 x3 y4 x6 x7 M).2) := by
  intro n
  induction n with
  | zero => intro x2 x3 y4 x6 x7 M hp; exact hp.elim
  | succ n ih =>
    intro x2 x3 y4 x6 x7 M hp
    rw [F_12_quiet_143]
    rw [P_12_quiet_143] at hp
    refine b12_quiet_143 (vpl (by decide)) (fun h => ?_) (fun h => ?_)
    · rw [if_pos h]
      have hp := hp.1 h
      refine b12_quiet_244  ?_
      exact T_12_quiet_247 k103 pk103 ih103 FU x2 x3 y4 x6 0 M hp
    · rw [if_neg h]
      have hp := hp.2 h
      obtain ⟨p0, p1, p2, hp⟩ := hp
      obtain ⟨hc, hp⟩ := hp
      refine b12_quiet_154 p0 (vpl (by decide)) (vpl (by decide)) p1 (by decide) p2 (C_12_isBarred x7 M hc) (Nat.le_of_ble_eq_true rfl) ?_
      refine b12_quiet_209  (fun h => ?_) (fun h => ?_)
      · rw [if_neg h]
        have hp := hp.1 h
        exact T_12_quiet_225 k103 (F_12_quiet_143 k103 n) pk103 (P_12_quiet_143 pk103 n) ih103 ih x2 x3 y4 x6 x7 (rd M (54 + x7.toNatClampNeg) ((1 : Int32).toNatClampNeg)) (rd M (54 + x7.toNatClampNeg) ((1 : Int32).toNatClampNeg)) M hp
      · rw [if_pos h]
        have hp := hp.2 h
        obtain ⟨p3, hp⟩ := hp
        refine b12_quiet_212 p3 (fun h => ?_) (fun h => ?_)
        · rw [if_pos h]
          have hp := hp.1 h
          refine b12_quiet_235  ?_
          exact T_12_quiet_237 k103 (F_12_quiet_143 k103 n) pk103 (P_12_quiet_143 pk103 n) ih103 ih x2 x3 y4 x6 x7 (((rl M 28 ((rd M (54 + x7.toNatClampNeg) ((0 : Int32).toNatClampNeg)).toNatClampNeg)) / 16) * ((rd M 8 ((rd M (54 + x7.toNatClampNeg) ((1 : Int32).toNatClampNeg)).toNatClampNeg)).toInt64)) (rd M (54 + x7.toNatClampNeg) ((1 : Int32).toNatClampNeg)) M hp
        · rw [if_neg h]
          have hp := hp.2 h
          exact T_12_quiet_225 k103 (F_12_quiet_143 k103 n) pk103 (P_12_quiet_143 pk103 n) ih103 ih x2 x3 y4 x6 x7 (rd M (54 + x7.toNatClampNeg) ((1 : Int32).toNatClampNeg)) (rd M (54 + x7.toNatClampNeg) ((1 : Int32).toNatClampNeg)) M hp
def F_12_quiet_113 (k103 : Int32 → Int32 → Int64 → Int32 → Mem → Int64 × Mem) : Nat → Int32 → Int32 → Int64 → Int32 → Int32 → Mem → Int64 × Mem
  | 0, _, _, _, _, _, M => (0, M)
  | n + 1, x2, x3, y4, x6, x7, M => if (10 : Int32) ≤ x7 then (F_12_quiet_143 k103 FU x2 x3 y4 x6 0 M) else ((F_12_quiet_113 k103 n) x2 x3 y4 x6 (x7 + 1) (wl M 29 x7.toNatClampNeg (rl M 28 x7.toNatClampNeg)))
def P_12_quiet_113 (pk103 : Int32 → Int32 → Int64 → Int32 → Mem → Prop) : Nat → Int32 → Int32 → Int64 → Int32 → Int32 → Mem → Prop
  | 0, _, _, _, _, _, _ => False
  | n + 1, x2, x3, y4, x6, x7, M => (((10 : Int32) ≤ x7 → (P_12_quiet_143 pk103 FU x2 x3 y4 x6 0 M)) ∧ (¬ (10 : Int32) ≤ x7 → (vp_in x7 10) ∧ ((P_12_quiet_113 pk103 n) x2 x3 y4 x6 (x7 + 1) (wl M 29 x7.toNatClampNeg (rl M 28 x7.toNatClampNeg)))))
theorem T_12_quiet_113 {g : Gl} (k103 : Int32 → Int32 → Int64 → Int32 → Mem → Int64 × Mem) (pk103 : Int32 → Int32 → Int64 → Int32 → Mem → Prop) (ih103 : ∀ (x2 : Int32) (x3 : Int32) (y4 : Int64) (x6 : Int32) (M : Mem), pk103 x2 x3 y4 x6 M → Rn g 2 m12_quiet 103 [some (.ref 0), none, some (.int x2), some (.int x3), some (.long y4), none, some (.int x6), none, none, none, none, none] [] M (some (.long (k103 x2 x3 y4 x6 M).1)) ((k103 x2 x3 y4 x6 M).2)) : ∀ (n : Nat) (x2 : Int32) (x3 : Int32) (y4 : Int64) (x6 : Int32) (x7 : Int32) (M : Mem) (hp : P_12_quiet_113 pk103 n x2 x3 y4 x6 x7 M), Rn g 2 m12_quiet 113 [some (.ref 0), none, some (.int x2), some (.int x3), some (.long y4), none, some (.int x6), some (.int x7), none, none, none, none] [] M (some (.long (F_12_quiet_113 k103 n x2 x3 y4 x6 x7 M).1)) ((F_12_quiet_113 k103 n x2 x3 y4 x6 x7 M).2) := by
  intro n
  induction n with
  | zero => intro x2 x3 y4 x6 x7 M hp; exact hp.elim
  | succ n ih =>
    intro x2 x3 y4 x6 x7 M hp
    rw [F_12_quiet_113]
    rw [P_12_quiet_113] at hp
    refine b12_quiet_113  (fun h => ?_) (fun h => ?_)
    · rw [if_pos h]
      have hp := hp.1 h
      refine b12_quiet_140  ?_
      exact T_12_quiet_143 k103 pk103 ih103 FU x2 x3 y4 x6 0 M hp
    · rw [if_neg h]
      have hp := hp.2 h
      obtain ⟨p0, hp⟩ := hp
      refine b12_quiet_120 p0 ?_
      exact ih x2 x3 y4 x6 (x7 + 1) (wl M 29 x7.toNatClampNeg (rl M 28 x7.toNatClampNeg)) hp
def F_12_quiet_292  : Nat → Int32 → Int32 → Int64 → Int64 → Int64 → Mem → Int64 × Mem
  | 0, _, _, _, _, _, M => (0, M)
  | n + 1, x2, x3, y4, y6, y8, M => if (lg_cmp y8 0) = 0 then (if x3 = 0 then ((((rl M 28 x2.toNatClampNeg) / y6), M)) else (((y4 / y6), M))) else ((F_12_quiet_292 n) x2 x3 y4 y8 (y6 - y6 / y8 * y8) M)
def P_12_quiet_292  : Nat → Int32 → Int32 → Int64 → Int64 → Int64 → Mem → Prop
  | 0, _, _, _, _, _, _ => False
  | n + 1, x2, x3, y4, y6, y8, M => (((lg_cmp y8 0) = 0 → ((¬ x3 = 0 → (¬ (y6 : Int64) = 0)) ∧ (x3 = 0 → (vp_in x2 10) ∧ (¬ (y6 : Int64) = 0)))) ∧ (¬ (lg_cmp y8 0) = 0 → (¬ (y8 : Int64) = 0) ∧ ((P_12_quiet_292 n) x2 x3 y4 y8 (y6 - y6 / y8 * y8) M)))
theorem T_12_quiet_292 {g : Gl} : ∀ (n : Nat) (x2 : Int32) (x3 : Int32) (y4 : Int64) (y6 : Int64) (y8 : Int64) (M : Mem) (hp : P_12_quiet_292 n x2 x3 y4 y6 y8 M), Rn g 2 m12_quiet 292 [some (.ref 0), none, some (.int x2), some (.int x3), some (.long y4), none, some (.long y6), none, some (.long y8), none, none, none] [] M (some (.long (F_12_quiet_292 n x2 x3 y4 y6 y8 M).1)) ((F_12_quiet_292 n x2 x3 y4 y6 y8 M).2) := by
  intro n
  induction n with
  | zero => intro x2 x3 y4 y6 y8 M hp; exact hp.elim
  | succ n ih =>
    intro x2 x3 y4 y6 y8 M hp
    rw [F_12_quiet_292]
    rw [P_12_quiet_292] at hp
    refine b12_quiet_292  (fun h => ?_) (fun h => ?_)
    · rw [if_pos h]
      have hp := hp.1 h
      refine b12_quiet_317  (fun h => ?_) (fun h => ?_)
      · rw [if_neg h]
        have hp := hp.1 h
        have p0 := hp
        refine b12_quiet_333 p0 ?_
        exact b12_quiet_338  rfl rfl
      · rw [if_pos h]
        have hp := hp.2 h
        obtain ⟨p1, p2⟩ := hp
        refine b12_quiet_321 p1 p2 ?_
        exact b12_quiet_338  rfl rfl
    · rw [if_neg h]
      have hp := hp.2 h
      obtain ⟨p3, hp⟩ := hp
      refine b12_quiet_299 p3 ?_
      exact ih x2 x3 y4 y8 (y6 - y6 / y8 * y8) M hp
def F_12_quiet_103  : Nat → Int32 → Int32 → Int64 → Int32 → Mem → Int64 × Mem
  | 0, _, _, _, _, M => (0, M)
  | n + 1, x2, x3, y4, x6, M => if (10 : Int32) ≤ x6 then (F_12_quiet_292 FU x2 x3 y4 y4 (rl M 28 x2.toNatClampNeg) M) else (F_12_quiet_113 (F_12_quiet_103 n) FU x2 x3 y4 x6 0 M)
def P_12_quiet_103  : Nat → Int32 → Int32 → Int64 → Int32 → Mem → Prop
  | 0, _, _, _, _, _ => False
  | n + 1, x2, x3, y4, x6, M => (((10 : Int32) ≤ x6 → (vp_in x2 10) ∧ (P_12_quiet_292 FU x2 x3 y4 y4 (rl M 28 x2.toNatClampNeg) M)) ∧ (¬ (10 : Int32) ≤ x6 → (P_12_quiet_113 (P_12_quiet_103 n) FU x2 x3 y4 x6 0 M)))
theorem T_12_quiet_103 {g : Gl} : ∀ (n : Nat) (x2 : Int32) (x3 : Int32) (y4 : Int64) (x6 : Int32) (M : Mem) (hp : P_12_quiet_103 n x2 x3 y4 x6 M), Rn g 2 m12_quiet 103 [some (.ref 0), none, some (.int x2), some (.int x3), some (.long y4), none, some (.int x6), none, none, none, none, none] [] M (some (.long (F_12_quiet_103 n x2 x3 y4 x6 M).1)) ((F_12_quiet_103 n x2 x3 y4 x6 M).2) := by
  intro n
  induction n with
  | zero => intro x2 x3 y4 x6 M hp; exact hp.elim
  | succ n ih =>
    intro x2 x3 y4 x6 M hp
    rw [F_12_quiet_103]
    rw [P_12_quiet_103] at hp
    refine b12_quiet_103  (fun h => ?_) (fun h => ?_)
    · rw [if_pos h]
      have hp := hp.1 h
      obtain ⟨p0, hp⟩ := hp
      refine b12_quiet_280 p0 ?_
      exact T_12_quiet_292 FU x2 x3 y4 y4 (rl M 28 x2.toNatClampNeg) M hp
    · rw [if_neg h]
      have hp := hp.2 h
      refine b12_quiet_110  ?_
      exact T_12_quiet_113 (F_12_quiet_103 n) (P_12_quiet_103 n) ih FU x2 x3 y4 x6 0 M hp
def F_12_quiet_68  : Nat → Int32 → Int32 → Int32 → Int64 → Int32 → Mem → Int64 × Mem
  | 0, _, _, _, _, _, M => (0, M)
  | n + 1, x1, x2, x3, y4, x6, M => if (10 : Int32) ≤ x6 then (F_12_quiet_103 FU x2 x3 y4 1 M) else (if x6 = x1 then (F_12_quiet_93 (F_12_quiet_68 n) x1 x2 x3 y4 x6 y4 x6 M) else (F_12_quiet_93 (F_12_quiet_68 n) x1 x2 x3 y4 x6 0 x6 M))
def P_12_quiet_68  : Nat → Int32 → Int32 → Int32 → Int64 → Int32 → Mem → Prop
  | 0, _, _, _, _, _, _ => False
  | n + 1, x1, x2, x3, y4, x6, M => (((10 : Int32) ≤ x6 → (P_12_quiet_103 FU x2 x3 y4 1 M)) ∧ (¬ (10 : Int32) ≤ x6 → ((¬ x6 = x1 → (P_12_quiet_93 (P_12_quiet_68 n) x1 x2 x3 y4 x6 0 x6 M)) ∧ (x6 = x1 → (P_12_quiet_93 (P_12_quiet_68 n) x1 x2 x3 y4 x6 y4 x6 M)))))
theorem T_12_quiet_68 {g : Gl} : ∀ (n : Nat) (x1 : Int32) (x2 : Int32) (x3 : Int32) (y4 : Int64) (x6 : Int32) (M : Mem) (hp : P_12_quiet_68 n x1 x2 x3 y4 x6 M), Rn g 2 m12_quiet 68 [some (.ref 0), some (.int x1), some (.int x2), some (.int x3), some (.long y4), none, some (.int x6), none, none, none, none, none] [] M (some (.long (F_12_quiet_68 n x1 x2 x3 y4 x6 M).1)) ((F_12_quiet_68 n x1 x2 x3 y4 x6 M).2) := by
  intro n
  induction n with
  | zero => intro x1 x2 x3 y4 x6 M hp; exact hp.elim
  | succ n ih =>
    intro x1 x2 x3 y4 x6 M hp
    rw [F_12_quiet_68]
    rw [P_12_quiet_68] at hp
    refine b12_quiet_68  (fun h => ?_) (fun h => ?_)
    · rw [if_pos h]
      have hp := hp.1 h
      refine b12_quiet_100  ?_
      exact T_12_quiet_103 FU x2 x3 y4 1 M hp
    · rw [if_neg h]
      have hp := hp.2 h
      refine b12_quiet_75  (fun h => ?_) (fun h => ?_)
      · rw [if_neg h]
        have hp := hp.1 h
        refine b12_quiet_92  ?_
        exact T_12_quiet_93 (F_12_quiet_68 n) (P_12_quiet_68 n) ih x1 x2 x3 y4 x6 0 x6 M hp
      · rw [if_pos h]
        have hp := hp.2 h
        refine b12_quiet_87  ?_
        exact T_12_quiet_93 (F_12_quiet_68 n) (P_12_quiet_68 n) ih x1 x2 x3 y4 x6 y4 x6 M hp
def F_12_quiet_55 (x1 : Int32) (x2 : Int32) (x3 : Int32) (xs0 : Int32) (M : Mem) : Int64 × Mem := if xs0 = 0 then (F_12_quiet_68 FU x1 x2 x3 68719476736 0 M) else ((0, M))
def P_12_quiet_55 (x1 : Int32) (x2 : Int32) (x3 : Int32) (xs0 : Int32) (M : Mem) : Prop := ((xs0 = 0 → (P_12_quiet_68 FU x1 x2 x3 68719476736 0 M)) ∧ (¬ xs0 = 0 → True))
theorem T_12_quiet_55 {g : Gl} (x1 : Int32) (x2 : Int32) (x3 : Int32) (xs0 : Int32) (M : Mem) (hp : P_12_quiet_55 x1 x2 x3 xs0 M) : Rn g 2 m12_quiet 55 [some (.ref 0), some (.int x1), some (.int x2), some (.int x3), none, none, none, none, none, none, none, none] [.int xs0] M (some (.long (F_12_quiet_55 x1 x2 x3 xs0 M).1)) ((F_12_quiet_55 x1 x2 x3 xs0 M).2) := by
  rw [F_12_quiet_55]
  rw [P_12_quiet_55] at hp
  refine b12_quiet_55  (fun h => ?_) (fun h => ?_)
  · rw [if_pos h]
    have hp := hp.1 h
    refine b12_quiet_60  ?_
    exact T_12_quiet_68 FU x1 x2 x3 68719476736 0 M hp
  · rw [if_neg h]
    exact b12_quiet_58  rfl rfl
def F_12_quiet_50 (x1 : Int32) (x2 : Int32) (x3 : Int32) (xs0 : Int32) (M : Mem) : Int64 × Mem := F_12_quiet_55 x1 x2 x3 ((F_12_bad_0 xs0 2 1 M).1) ((F_12_bad_0 xs0 2 1 M).2)
def P_12_quiet_50 (x1 : Int32) (x2 : Int32) (x3 : Int32) (xs0 : Int32) (M : Mem) : Prop := ((P_12_bad_0 xs0 2 1 M) ∧ (P_12_quiet_55 x1 x2 x3 ((F_12_bad_0 xs0 2 1 M).1) ((F_12_bad_0 xs0 2 1 M).2)))
theorem T_12_quiet_50 {g : Gl} (x1 : Int32) (x2 : Int32) (x3 : Int32) (xs0 : Int32) (M : Mem) (hp : P_12_quiet_50 x1 x2 x3 xs0 M) : Rn g 2 m12_quiet 50 [some (.ref 0), some (.int x1), some (.int x2), some (.int x3), none, none, none, none, none, none, none, none] [.int xs0, .ref 0] M (some (.long (F_12_quiet_50 x1 x2 x3 xs0 M).1)) ((F_12_quiet_50 x1 x2 x3 xs0 M).2) := by
  rw [F_12_quiet_50]
  rw [P_12_quiet_50] at hp
  obtain ⟨hc, hp⟩ := hp
  refine b12_quiet_50  (C_12_bad xs0 2 1 M hc) (Nat.le_of_ble_eq_true rfl) ?_
  exact T_12_quiet_55 x1 x2 x3 ((F_12_bad_0 xs0 2 1 M).1) ((F_12_bad_0 xs0 2 1 M).2) hp
def F_12_quiet_32 (x1 : Int32) (x2 : Int32) (x3 : Int32) (xs0 : Int32) (M : Mem) : Int64 × Mem := if xs0 = 0 then (if (F_12_in_0 M x3 0 1) = 0 then (F_12_quiet_50 x1 x2 x3 1 M) else (F_12_quiet_50 x1 x2 x3 0 M)) else ((0, M))
def P_12_quiet_32 (x1 : Int32) (x2 : Int32) (x3 : Int32) (xs0 : Int32) (M : Mem) : Prop := ((¬ xs0 = 0 → True) ∧ (xs0 = 0 → ((((¬ (F_12_in_0 M x3 0 1) = 0 → (P_12_quiet_50 x1 x2 x3 0 M)) ∧ ((F_12_in_0 M x3 0 1) = 0 → (P_12_quiet_50 x1 x2 x3 1 M)))))))
theorem T_12_quiet_32 {g : Gl} (x1 : Int32) (x2 : Int32) (x3 : Int32) (xs0 : Int32) (M : Mem) (hp : P_12_quiet_32 x1 x2 x3 xs0 M) : Rn g 2 m12_quiet 32 [some (.ref 0), some (.int x1), some (.int x2), some (.int x3), none, none, none, none, none, none, none, none] [.int xs0] M (some (.long (F_12_quiet_32 x1 x2 x3 xs0 M).1)) ((F_12_quiet_32 x1 x2 x3 xs0 M).2) := by
  rw [F_12_quiet_32]
  rw [P_12_quiet_32] at hp
  refine b12_quiet_32  (fun h => ?_) (fun h => ?_)
  · rw [if_neg h]
    exact b12_quiet_58  rfl rfl
  · rw [if_pos h]
    have hp := hp.2 h
    refine b12_quiet_35  (C_12_in x3 0 1 M) (Nat.le_of_ble_eq_true rfl) ?_
    refine b12_quiet_42  (fun h => ?_) (fun h => ?_)
    · rw [if_neg h]
      have hp := hp.1 h
      refine b12_quiet_49  ?_
      exact T_12_quiet_50 x1 x2 x3 0 M hp
    · rw [if_pos h]
      have hp := hp.2 h
      refine b12_quiet_45  ?_
      exact T_12_quiet_50 x1 x2 x3 1 M hp
def F_12_quiet_27 (x1 : Int32) (x2 : Int32) (x3 : Int32) (xs0 : Int32) (M : Mem) : Int64 × Mem := F_12_quiet_32 x1 x2 x3 ((F_12_bad_0 xs0 1 0 M).1) ((F_12_bad_0 xs0 1 0 M).2)
def P_12_quiet_27 (x1 : Int32) (x2 : Int32) (x3 : Int32) (xs0 : Int32) (M : Mem) : Prop := ((P_12_bad_0 xs0 1 0 M) ∧ (P_12_quiet_32 x1 x2 x3 ((F_12_bad_0 xs0 1 0 M).1) ((F_12_bad_0 xs0 1 0 M).2)))
theorem T_12_quiet_27 {g : Gl} (x1 : Int32) (x2 : Int32) (x3 : Int32) (xs0 : Int32) (M : Mem) (hp : P_12_quiet_27 x1 x2 x3 xs0 M) : Rn g 2 m12_quiet 27 [some (.ref 0), some (.int x1), some (.int x2), some (.int x3), none, none, none, none, none, none, none, none] [.int xs0, .ref 0] M (some (.long (F_12_quiet_27 x1 x2 x3 xs0 M).1)) ((F_12_quiet_27 x1 x2 x3 xs0 M).2) := by
  rw [F_12_quiet_27]
  rw [P_12_quiet_27] at hp
  obtain ⟨hc, hp⟩ := hp
  refine b12_quiet_27  (C_12_bad xs0 1 0 M hc) (Nat.le_of_ble_eq_true rfl) ?_
  exact T_12_quiet_32 x1 x2 x3 ((F_12_bad_0 xs0 1 0 M).1) ((F_12_bad_0 xs0 1 0 M).2) hp
def F_12_quiet_22 (x1 : Int32) (x2 : Int32) (x3 : Int32) (M : Mem) : Int64 × Mem := F_12_quiet_27 x1 x2 x3 1 M
def P_12_quiet_22 (x1 : Int32) (x2 : Int32) (x3 : Int32) (M : Mem) : Prop := (P_12_quiet_27 x1 x2 x3 1 M)
theorem T_12_quiet_22 {g : Gl} (x1 : Int32) (x2 : Int32) (x3 : Int32) (M : Mem) (hp : P_12_quiet_22 x1 x2 x3 M) : Rn g 2 m12_quiet 22 [some (.ref 0), some (.int x1), some (.int x2), some (.int x3), none, none, none, none, none, none, none, none] [.ref 0] M (some (.long (F_12_quiet_22 x1 x2 x3 M).1)) ((F_12_quiet_22 x1 x2 x3 M).2) := by
  rw [F_12_quiet_22]
  rw [P_12_quiet_22] at hp
  refine b12_quiet_22  ?_
  exact T_12_quiet_27 x1 x2 x3 1 M hp
def F_12_quiet_0 (x1 : Int32) (x2 : Int32) (x3 : Int32) (M : Mem) : Int64 × Mem := if (F_12_isRoom_0 (wr M 0 0 0) x1) = 0 then (F_12_quiet_22 x1 x2 x3 (wr M 0 0 0)) else (if (F_12_isRoom_0 (wr M 0 0 0) x2) = 0 then (F_12_quiet_22 x1 x2 x3 (wr M 0 0 0)) else (F_12_quiet_27 x1 x2 x3 0 (wr M 0 0 0)))
def P_12_quiet_0 (x1 : Int32) (x2 : Int32) (x3 : Int32) (M : Mem) : Prop := ((P_12_isRoom_0 (wr M 0 0 0) x1) ∧ ((((F_12_isRoom_0 (wr M 0 0 0) x1) = 0 → P_12_quiet_22 x1 x2 x3 (wr M 0 0 0)) ∧ (¬ (F_12_isRoom_0 (wr M 0 0 0) x1) = 0 → ((P_12_isRoom_0 (wr M 0 0 0) x2) ∧ (((¬ (F_12_isRoom_0 (wr M 0 0 0) x2) = 0 → (P_12_quiet_27 x1 x2 x3 0 (wr M 0 0 0))) ∧ ((F_12_isRoom_0 (wr M 0 0 0) x2) = 0 → P_12_quiet_22 x1 x2 x3 (wr M 0 0 0)))))))))
theorem T_12_quiet_0 {g : Gl} (x1 : Int32) (x2 : Int32) (x3 : Int32) (M : Mem) (hp : P_12_quiet_0 x1 x2 x3 M) : Rn g 2 m12_quiet 0 [some (.ref 0), some (.int x1), some (.int x2), some (.int x3), none, none, none, none, none, none, none, none] [] M (some (.long (F_12_quiet_0 x1 x2 x3 M).1)) ((F_12_quiet_0 x1 x2 x3 M).2) := by
  rw [F_12_quiet_0]
  rw [P_12_quiet_0] at hp
  obtain ⟨hc, hp⟩ := hp
  refine b12_quiet_0  (C_12_isRoom x1 (wr M 0 0 0) hc) (Nat.le_of_ble_eq_true rfl) ?_
  refine b12_quiet_11  (fun h => ?_) (fun h => ?_)
  · rw [if_pos h]
    have hp := hp.1 h
    exact T_12_quiet_22 x1 x2 x3 (wr M 0 0 0) hp
  · rw [if_neg h]
    have hp := hp.2 h
    obtain ⟨hc, hp⟩ := hp
    refine b12_quiet_14  (C_12_isRoom x2 (wr M 0 0 0) hc) (Nat.le_of_ble_eq_true rfl) ?_
    refine b12_quiet_19  (fun h => ?_) (fun h => ?_)
    · rw [if_neg h]
      have hp := hp.1 h
      refine b12_quiet_26  ?_
      exact T_12_quiet_27 x1 x2 x3 0 (wr M 0 0 0) hp
    · rw [if_pos h]
      have hp := hp.2 h
      exact T_12_quiet_22 x1 x2 x3 (wr M 0 0 0) hp
theorem C_12_quiet {g : Gl}  (x1 : Int32) (x2 : Int32) (x3 : Int32) (M : Mem) (hp : P_12_quiet_0 x1 x2 x3 M) : Ms g 2 m12_quiet [.ref 0, .int x1, .int x2, .int x3] M (some (.long (F_12_quiet_0 x1 x2 x3 M).1)) ((F_12_quiet_0 x1 x2 x3 M).2) := Ms.of okM_m12_quiet (Nat.le_of_ble_eq_true rfl) (R_wk (lc rfl (lc rfl (lc rfl (lc rfl (ln (ln (ln (ln (ln (ln (ln (ln l0)))))))))))) (T_12_quiet_0 x1 x2 x3 M hp))
def F_12_way_41 (x1 : Int32) (x2 : Int32) (M : Mem) : Int32 × Mem := ((F_12_orNone_0 M (rd M (497 + x1.toNatClampNeg) x2.toNatClampNeg)), M)
def P_12_way_41 (x1 : Int32) (x2 : Int32) (M : Mem) : Prop := (vp_in x1 10) ∧ (vp_in x2 10)
theorem T_12_way_41 {g : Gl} (x1 : Int32) (x2 : Int32) (M : Mem) (hp : P_12_way_41 x1 x2 M) : Rn g 2 m12_way 41 [some (.ref 0), some (.int x1), some (.int x2)] [] M (some (.int (F_12_way_41 x1 x2 M).1)) ((F_12_way_41 x1 x2 M).2) := by
  rw [F_12_way_41]
  rw [P_12_way_41] at hp
  obtain ⟨p0, p1⟩ := hp
  refine b12_way_41 p0 p1 (C_12_orNone (rd M (497 + x1.toNatClampNeg) x2.toNatClampNeg) M) (Nat.le_of_ble_eq_true rfl) ?_
  exact b12_way_52  rfl rfl
def F_12_way_32 (x1 : Int32) (x2 : Int32) (xs0 : Int32) (M : Mem) : Int32 × Mem := if xs0 = 0 then (F_12_way_41 x1 x2 (F_12_laysWays_0 M)) else ((0, M))
def P_12_way_32 (x1 : Int32) (x2 : Int32) (xs0 : Int32) (M : Mem) : Prop := ((xs0 = 0 → ((P_12_laysWays_0 M) ∧ (P_12_way_41 x1 x2 (F_12_laysWays_0 M)))) ∧ (¬ xs0 = 0 → True))
theorem T_12_way_32 {g : Gl} (x1 : Int32) (x2 : Int32) (xs0 : Int32) (M : Mem) (hp : P_12_way_32 x1 x2 xs0 M) : Rn g 2 m12_way 32 [some (.ref 0), some (.int x1), some (.int x2)] [.int xs0] M (some (.int (F_12_way_32 x1 x2 xs0 M).1)) ((F_12_way_32 x1 x2 xs0 M).2) := by
  rw [F_12_way_32]
  rw [P_12_way_32] at hp
  refine b12_way_32  (fun h => ?_) (fun h => ?_)
  · rw [if_pos h]
    have hp := hp.1 h
    obtain ⟨hc, hp⟩ := hp
    refine b12_way_37  (C_12_laysWays  M hc) (Nat.le_of_ble_eq_true rfl) ?_
    exact T_12_way_41 x1 x2 (F_12_laysWays_0 M) hp
  · rw [if_neg h]
    exact b12_way_35  rfl rfl
def F_12_way_27 (x1 : Int32) (x2 : Int32) (xs0 : Int32) (M : Mem) : Int32 × Mem := F_12_way_32 x1 x2 ((F_12_bad_0 xs0 1 0 M).1) ((F_12_bad_0 xs0 1 0 M).2)
def P_12_way_27 (x1 : Int32) (x2 : Int32) (xs0 : Int32) (M : Mem) : Prop := ((P_12_bad_0 xs0 1 0 M) ∧ (P_12_way_32 x1 x2 ((F_12_bad_0 xs0 1 0 M).1) ((F_12_bad_0 xs0 1 0 M).2)))
theorem T_12_way_27 {g : Gl} (x1 : Int32) (x2 : Int32) (xs0 : Int32) (M : Mem) (hp : P_12_way_27 x1 x2 xs0 M) : Rn g 2 m12_way 27 [some (.ref 0), some (.int x1), some (.int x2)] [.int xs0, .ref 0] M (some (.int (F_12_way_27 x1 x2 xs0 M).1)) ((F_12_way_27 x1 x2 xs0 M).2) := by
  rw [F_12_way_27]
  rw [P_12_way_27] at hp
  obtain ⟨hc, hp⟩ := hp
  refine b12_way_27  (C_12_bad xs0 1 0 M hc) (Nat.le_of_ble_eq_true rfl) ?_
  exact T_12_way_32 x1 x2 ((F_12_bad_0 xs0 1 0 M).1) ((F_12_bad_0 xs0 1 0 M).2) hp
def F_12_way_22 (x1 : Int32) (x2 : Int32) (M : Mem) : Int32 × Mem := F_12_way_27 x1 x2 1 M
def P_12_way_22 (x1 : Int32) (x2 : Int32) (M : Mem) : Prop := (P_12_way_27 x1 x2 1 M)
theorem T_12_way_22 {g : Gl} (x1 : Int32) (x2 : Int32) (M : Mem) (hp : P_12_way_22 x1 x2 M) : Rn g 2 m12_way 22 [some (.ref 0), some (.int x1), some (.int x2)] [.ref 0] M (some (.int (F_12_way_22 x1 x2 M).1)) ((F_12_way_22 x1 x2 M).2) := by
  rw [F_12_way_22]
  rw [P_12_way_22] at hp
  refine b12_way_22  ?_
  exact T_12_way_27 x1 x2 1 M hp
def F_12_way_0 (x1 : Int32) (x2 : Int32) (M : Mem) : Int32 × Mem := if (F_12_isRoom_0 (wr M 0 0 0) x1) = 0 then (F_12_way_22 x1 x2 (wr M 0 0 0)) else (if (F_12_isRoom_0 (wr M 0 0 0) x2) = 0 then (F_12_way_22 x1 x2 (wr M 0 0 0)) else (F_12_way_27 x1 x2 0 (wr M 0 0 0)))
def P_12_way_0 (x1 : Int32) (x2 : Int32) (M : Mem) : Prop := ((P_12_isRoom_0 (wr M 0 0 0) x1) ∧ ((((F_12_isRoom_0 (wr M 0 0 0) x1) = 0 → P_12_way_22 x1 x2 (wr M 0 0 0)) ∧ (¬ (F_12_isRoom_0 (wr M 0 0 0) x1) = 0 → ((P_12_isRoom_0 (wr M 0 0 0) x2) ∧ (((¬ (F_12_isRoom_0 (wr M 0 0 0) x2) = 0 → (P_12_way_27 x1 x2 0 (wr M 0 0 0))) ∧ ((F_12_isRoom_0 (wr M 0 0 0) x2) = 0 → P_12_way_22 x1 x2 (wr M 0 0 0)))))))))
theorem T_12_way_0 {g : Gl} (x1 : Int32) (x2 : Int32) (M : Mem) (hp : P_12_way_0 x1 x2 M) : Rn g 2 m12_way 0 [some (.ref 0), some (.int x1), some (.int x2)] [] M (some (.int (F_12_way_0 x1 x2 M).1)) ((F_12_way_0 x1 x2 M).2) := by
  rw [F_12_way_0]
  rw [P_12_way_0] at hp
  obtain ⟨hc, hp⟩ := hp
  refine b12_way_0  (C_12_isRoom x1 (wr M 0 0 0) hc) (Nat.le_of_ble_eq_true rfl) ?_
  refine b12_way_11  (fun h => ?_) (fun h => ?_)
  · rw [if_pos h]
    have hp := hp.1 h
    exact T_12_way_22 x1 x2 (wr M 0 0 0) hp
  · rw [if_neg h]
    have hp := hp.2 h
    obtain ⟨hc, hp⟩ := hp
    refine b12_way_14  (C_12_isRoom x2 (wr M 0 0 0) hc) (Nat.le_of_ble_eq_true rfl) ?_
    refine b12_way_19  (fun h => ?_) (fun h => ?_)
    · rw [if_neg h]
      have hp := hp.1 h
      refine b12_way_26  ?_
      exact T_12_way_27 x1 x2 0 (wr M 0 0 0) hp
    · rw [if_pos h]
      have hp := hp.2 h
      exact T_12_way_22 x1 x2 (wr M 0 0 0) hp
theorem C_12_way {g : Gl}  (x1 : Int32) (x2 : Int32) (M : Mem) (hp : P_12_way_0 x1 x2 M) : Ms g 2 m12_way [.ref 0, .int x1, .int x2] M (some (.int (F_12_way_0 x1 x2 M).1)) ((F_12_way_0 x1 x2 M).2) := Ms.of okM_m12_way (Nat.le_of_ble_eq_true rfl) (R_wk (lc rfl (lc rfl (lc rfl l0))) (T_12_way_0 x1 x2 M hp))
def F_12_next_115 (k64 : Int32 → Int32 → Int32 → Mem → Int32 × Mem) (x1 : Int32) (x2 : Int32) (x3 : Int32) (M : Mem) : Int32 × Mem := k64 x1 x2 (x3 + 1) M
def P_12_next_115 (pk64 : Int32 → Int32 → Int32 → Mem → Prop) (x1 : Int32) (x2 : Int32) (x3 : Int32) (M : Mem) : Prop := (pk64 x1 x2 (x3 + 1) M)
theorem T_12_next_115 {g : Gl} (k64 : Int32 → Int32 → Int32 → Mem → Int32 × Mem) (pk64 : Int32 → Int32 → Int32 → Mem → Prop) (ih64 : ∀ (x1 : Int32) (x2 : Int32) (x3 : Int32) (M : Mem), pk64 x1 x2 x3 M → Rn g 2 m12_next 64 [some (.ref 0), some (.int x1), some (.int x2), some (.int x3)] [] M (some (.int (k64 x1 x2 x3 M).1)) ((k64 x1 x2 x3 M).2)) (x1 : Int32) (x2 : Int32) (x3 : Int32) (M : Mem) (hp : P_12_next_115 pk64 x1 x2 x3 M) : Rn g 2 m12_next 115 [some (.ref 0), some (.int x1), some (.int x2), some (.int x3)] [] M (some (.int (F_12_next_115 k64 x1 x2 x3 M).1)) ((F_12_next_115 k64 x1 x2 x3 M).2) := by
  rw [F_12_next_115]
  rw [P_12_next_115] at hp
  refine b12_next_115  ?_
  exact ih64 x1 x2 (x3 + 1) M hp
def F_12_next_64  : Nat → Int32 → Int32 → Int32 → Mem → Int32 × Mem
  | 0, _, _, _, M => (0, M)
  | n + 1, x1, x2, x3, M => if (F_12_isBarred_0 M x3) = 0 then (if (rd M (54 + x3.toNatClampNeg) ((0 : Int32).toNatClampNeg)) = x1 then (if ((rd M (497 + (rd M (54 + x3.toNatClampNeg) ((1 : Int32).toNatClampNeg)).toNatClampNeg) x2.toNatClampNeg) + 1) = (rd M (497 + x1.toNatClampNeg) x2.toNatClampNeg) then ((x3, M)) else (F_12_next_115 (F_12_next_64 n) x1 x2 x3 M)) else (F_12_next_115 (F_12_next_64 n) x1 x2 x3 M)) else (F_12_next_115 (F_12_next_64 n) x1 x2 x3 M)
def P_12_next_64  : Nat → Int32 → Int32 → Int32 → Mem → Prop
  | 0, _, _, _, _ => False
  | n + 1, x1, x2, x3, M => ((P_12_isBarred_0 M x3) ∧ (((¬ (F_12_isBarred_0 M x3) = 0 → P_12_next_115 (P_12_next_64 n) x1 x2 x3 M) ∧ ((F_12_isBarred_0 M x3) = 0 → (vp_in x3 24) ∧ ((¬ (rd M (54 + x3.toNatClampNeg) ((0 : Int32).toNatClampNeg)) = x1 → P_12_next_115 (P_12_next_64 n) x1 x2 x3 M) ∧ ((rd M (54 + x3.toNatClampNeg) ((0 : Int32).toNatClampNeg)) = x1 → (vp_in x3 24) ∧ (vp_in (rd M (54 + x3.toNatClampNeg) ((1 : Int32).toNatClampNeg)) 10) ∧ (vp_in x2 10) ∧ (vp_in x1 10) ∧ ((((rd M (497 + (rd M (54 + x3.toNatClampNeg) ((1 : Int32).toNatClampNeg)).toNatClampNeg) x2.toNatClampNeg) + 1) = (rd M (497 + x1.toNatClampNeg) x2.toNatClampNeg) → True) ∧ (¬ ((rd M (497 + (rd M (54 + x3.toNatClampNeg) ((1 : Int32).toNatClampNeg)).toNatClampNeg) x2.toNatClampNeg) + 1) = (rd M (497 + x1.toNatClampNeg) x2.toNatClampNeg) → P_12_next_115 (P_12_next_64 n) x1 x2 x3 M))))))))
theorem T_12_next_64 {g : Gl} : ∀ (n : Nat) (x1 : Int32) (x2 : Int32) (x3 : Int32) (M : Mem) (hp : P_12_next_64 n x1 x2 x3 M), Rn g 2 m12_next 64 [some (.ref 0), some (.int x1), some (.int x2), some (.int x3)] [] M (some (.int (F_12_next_64 n x1 x2 x3 M).1)) ((F_12_next_64 n x1 x2 x3 M).2) := by
  intro n
  induction n with
  | zero => intro x1 x2 x3 M hp; exact hp.elim
  | succ n ih =>
    intro x1 x2 x3 M hp
    rw [F_12_next_64]
    rw [P_12_next_64] at hp
    obtain ⟨hc, hp⟩ := hp
    refine b12_next_64  (C_12_isBarred x3 M hc) (Nat.le_of_ble_eq_true rfl) ?_
    refine b12_next_72  (fun h => ?_) (fun h => ?_)
    · rw [if_neg h]
      have hp := hp.1 h
      exact T_12_next_115 (F_12_next_64 n) (P_12_next_64 n) ih x1 x2 x3 M hp
    · rw [if_pos h]
      have hp := hp.2 h
      obtain ⟨p0, hp⟩ := hp
      refine b12_next_75 p0 (vpl (by decide)) (fun h => ?_) (fun h => ?_)
      · rw [if_neg h]
        have hp := hp.1 h
        exact T_12_next_115 (F_12_next_64 n) (P_12_next_64 n) ih x1 x2 x3 M hp
      · rw [if_pos h]
        have hp := hp.2 h
        obtain ⟨p1, p2, p3, p4, hp⟩ := hp
        refine b12_next_87 p1 (vpl (by decide)) p2 p3 p4 (fun h => ?_) (fun h => ?_)
        · rw [if_pos h]
          exact b12_next_121  rfl rfl
        · rw [if_neg h]
          have hp := hp.2 h
          exact T_12_next_115 (F_12_next_64 n) (P_12_next_64 n) ih x1 x2 x3 M hp
def F_12_next_41 (x1 : Int32) (x2 : Int32) (M : Mem) : Int32 × Mem := if x1 = x2 then (((-1), M)) else (if (rd M (497 + x1.toNatClampNeg) x2.toNatClampNeg) < 999 then (F_12_next_64 FU x1 x2 0 M) else (((-1), M)))
def P_12_next_41 (x1 : Int32) (x2 : Int32) (M : Mem) : Prop := ((x1 = x2 → True) ∧ (¬ x1 = x2 → (vp_in x1 10) ∧ (vp_in x2 10) ∧ (((rd M (497 + x1.toNatClampNeg) x2.toNatClampNeg) < 999 → (P_12_next_64 FU x1 x2 0 M)) ∧ (¬ (rd M (497 + x1.toNatClampNeg) x2.toNatClampNeg) < 999 → True))))
theorem T_12_next_41 {g : Gl} (x1 : Int32) (x2 : Int32) (M : Mem) (hp : P_12_next_41 x1 x2 M) : Rn g 2 m12_next 41 [some (.ref 0), some (.int x1), some (.int x2), none] [] M (some (.int (F_12_next_41 x1 x2 M).1)) ((F_12_next_41 x1 x2 M).2) := by
  rw [F_12_next_41]
  rw [P_12_next_41] at hp
  refine b12_next_41  (fun h => ?_) (fun h => ?_)
  · rw [if_pos h]
    exact b12_next_60  rfl rfl
  · rw [if_neg h]
    have hp := hp.2 h
    obtain ⟨p0, p1, hp⟩ := hp
    refine b12_next_46 p0 p1 (fun h => ?_) (fun h => ?_)
    · rw [if_pos h]
      have hp := hp.1 h
      refine b12_next_62  ?_
      exact T_12_next_64 FU x1 x2 0 M hp
    · rw [if_neg h]
      exact b12_next_60  rfl rfl
def F_12_next_32 (x1 : Int32) (x2 : Int32) (xs0 : Int32) (M : Mem) : Int32 × Mem := if xs0 = 0 then (F_12_next_41 x1 x2 (F_12_laysWays_0 M)) else ((0, M))
def P_12_next_32 (x1 : Int32) (x2 : Int32) (xs0 : Int32) (M : Mem) : Prop := ((xs0 = 0 → ((P_12_laysWays_0 M) ∧ (P_12_next_41 x1 x2 (F_12_laysWays_0 M)))) ∧ (¬ xs0 = 0 → True))
theorem T_12_next_32 {g : Gl} (x1 : Int32) (x2 : Int32) (xs0 : Int32) (M : Mem) (hp : P_12_next_32 x1 x2 xs0 M) : Rn g 2 m12_next 32 [some (.ref 0), some (.int x1), some (.int x2), none] [.int xs0] M (some (.int (F_12_next_32 x1 x2 xs0 M).1)) ((F_12_next_32 x1 x2 xs0 M).2) := by
  rw [F_12_next_32]
  rw [P_12_next_32] at hp
  refine b12_next_32  (fun h => ?_) (fun h => ?_)
  · rw [if_pos h]
    have hp := hp.1 h
    obtain ⟨hc, hp⟩ := hp
    refine b12_next_37  (C_12_laysWays  M hc) (Nat.le_of_ble_eq_true rfl) ?_
    exact T_12_next_41 x1 x2 (F_12_laysWays_0 M) hp
  · rw [if_neg h]
    exact b12_next_35  rfl rfl
def F_12_next_27 (x1 : Int32) (x2 : Int32) (xs0 : Int32) (M : Mem) : Int32 × Mem := F_12_next_32 x1 x2 ((F_12_bad_0 xs0 1 0 M).1) ((F_12_bad_0 xs0 1 0 M).2)
def P_12_next_27 (x1 : Int32) (x2 : Int32) (xs0 : Int32) (M : Mem) : Prop := ((P_12_bad_0 xs0 1 0 M) ∧ (P_12_next_32 x1 x2 ((F_12_bad_0 xs0 1 0 M).1) ((F_12_bad_0 xs0 1 0 M).2)))
theorem T_12_next_27 {g : Gl} (x1 : Int32) (x2 : Int32) (xs0 : Int32) (M : Mem) (hp : P_12_next_27 x1 x2 xs0 M) : Rn g 2 m12_next 27 [some (.ref 0), some (.int x1), some (.int x2), none] [.int xs0, .ref 0] M (some (.int (F_12_next_27 x1 x2 xs0 M).1)) ((F_12_next_27 x1 x2 xs0 M).2) := by
  rw [F_12_next_27]
  rw [P_12_next_27] at hp
  obtain ⟨hc, hp⟩ := hp
  refine b12_next_27  (C_12_bad xs0 1 0 M hc) (Nat.le_of_ble_eq_true rfl) ?_
  exact T_12_next_32 x1 x2 ((F_12_bad_0 xs0 1 0 M).1) ((F_12_bad_0 xs0 1 0 M).2) hp
def F_12_next_22 (x1 : Int32) (x2 : Int32) (M : Mem) : Int32 × Mem := F_12_next_27 x1 x2 1 M
def P_12_next_22 (x1 : Int32) (x2 : Int32) (M : Mem) : Prop := (P_12_next_27 x1 x2 1 M)
theorem T_12_next_22 {g : Gl} (x1 : Int32) (x2 : Int32) (M : Mem) (hp : P_12_next_22 x1 x2 M) : Rn g 2 m12_next 22 [some (.ref 0), some (.int x1), some (.int x2), none] [.ref 0] M (some (.int (F_12_next_22 x1 x2 M).1)) ((F_12_next_22 x1 x2 M).2) := by
  rw [F_12_next_22]
  rw [P_12_next_22] at hp
  refine b12_next_22  ?_
  exact T_12_next_27 x1 x2 1 M hp
def F_12_next_0 (x1 : Int32) (x2 : Int32) (M : Mem) : Int32 × Mem := if (F_12_isRoom_0 (wr M 0 0 0) x1) = 0 then (F_12_next_22 x1 x2 (wr M 0 0 0)) else (if (F_12_isRoom_0 (wr M 0 0 0) x2) = 0 then (F_12_next_22 x1 x2 (wr M 0 0 0)) else (F_12_next_27 x1 x2 0 (wr M 0 0 0)))
def P_12_next_0 (x1 : Int32) (x2 : Int32) (M : Mem) : Prop := ((P_12_isRoom_0 (wr M 0 0 0) x1) ∧ ((((F_12_isRoom_0 (wr M 0 0 0) x1) = 0 → P_12_next_22 x1 x2 (wr M 0 0 0)) ∧ (¬ (F_12_isRoom_0 (wr M 0 0 0) x1) = 0 → ((P_12_isRoom_0 (wr M 0 0 0) x2) ∧ (((¬ (F_12_isRoom_0 (wr M 0 0 0) x2) = 0 → (P_12_next_27 x1 x2 0 (wr M 0 0 0))) ∧ ((F_12_isRoom_0 (wr M 0 0 0) x2) = 0 → P_12_next_22 x1 x2 (wr M 0 0 0)))))))))
theorem T_12_next_0 {g : Gl} (x1 : Int32) (x2 : Int32) (M : Mem) (hp : P_12_next_0 x1 x2 M) : Rn g 2 m12_next 0 [some (.ref 0), some (.int x1), some (.int x2), none] [] M (some (.int (F_12_next_0 x1 x2 M).1)) ((F_12_next_0 x1 x2 M).2) := by
  rw [F_12_next_0]
  rw [P_12_next_0] at hp
  obtain ⟨hc, hp⟩ := hp
  refine b12_next_0  (C_12_isRoom x1 (wr M 0 0 0) hc) (Nat.le_of_ble_eq_true rfl) ?_
  refine b12_next_11  (fun h => ?_) (fun h => ?_)
  · rw [if_pos h]
    have hp := hp.1 h
    exact T_12_next_22 x1 x2 (wr M 0 0 0) hp
  · rw [if_neg h]
    have hp := hp.2 h
    obtain ⟨hc, hp⟩ := hp
    refine b12_next_14  (C_12_isRoom x2 (wr M 0 0 0) hc) (Nat.le_of_ble_eq_true rfl) ?_
    refine b12_next_19  (fun h => ?_) (fun h => ?_)
    · rw [if_neg h]
      have hp := hp.1 h
      refine b12_next_26  ?_
      exact T_12_next_27 x1 x2 0 (wr M 0 0 0) hp
    · rw [if_pos h]
      have hp := hp.2 h
      exact T_12_next_22 x1 x2 (wr M 0 0 0) hp
theorem C_12_next {g : Gl}  (x1 : Int32) (x2 : Int32) (M : Mem) (hp : P_12_next_0 x1 x2 M) : Ms g 2 m12_next [.ref 0, .int x1, .int x2] M (some (.int (F_12_next_0 x1 x2 M).1)) ((F_12_next_0 x1 x2 M).2) := Ms.of okM_m12_next (Nat.le_of_ble_eq_true rfl) (R_wk (lc rfl (lc rfl (lc rfl (ln l0)))) (T_12_next_0 x1 x2 M hp))
def F_12_loop_97 (k39 : Int32 → Int32 → Int32 → Mem → Int32 × Mem) (x1 : Int32) (x3 : Int32) (xs0 : Int32) (M : Mem) : Int32 × Mem := k39 x1 xs0 (x3 + 1) M
def P_12_loop_97 (pk39 : Int32 → Int32 → Int32 → Mem → Prop) (x1 : Int32) (x3 : Int32) (xs0 : Int32) (M : Mem) : Prop := (pk39 x1 xs0 (x3 + 1) M)
theorem T_12_loop_97 {g : Gl} (k39 : Int32 → Int32 → Int32 → Mem → Int32 × Mem) (pk39 : Int32 → Int32 → Int32 → Mem → Prop) (ih39 : ∀ (x1 : Int32) (x2 : Int32) (x3 : Int32) (M : Mem), pk39 x1 x2 x3 M → Rn g 2 m12_loop 39 [some (.ref 0), some (.int x1), some (.int x2), some (.int x3)] [] M (some (.int (k39 x1 x2 x3 M).1)) ((k39 x1 x2 x3 M).2)) (x1 : Int32) (x3 : Int32) (xs0 : Int32) (M : Mem) (hp : P_12_loop_97 pk39 x1 x3 xs0 M) : Rn g 2 m12_loop 97 [some (.ref 0), some (.int x1), none, some (.int x3)] [.int xs0] M (some (.int (F_12_loop_97 k39 x1 x3 xs0 M).1)) ((F_12_loop_97 k39 x1 x3 xs0 M).2) := by
  rw [F_12_loop_97]
  rw [P_12_loop_97] at hp
  refine b12_loop_97  ?_
  exact ih39 x1 xs0 (x3 + 1) M hp
def F_12_loop_96 (k39 : Int32 → Int32 → Int32 → Mem → Int32 × Mem) (x1 : Int32) (x2 : Int32) (x3 : Int32) (M : Mem) : Int32 × Mem := F_12_loop_97 k39 x1 x3 x2 M
def P_12_loop_96 (pk39 : Int32 → Int32 → Int32 → Mem → Prop) (x1 : Int32) (x2 : Int32) (x3 : Int32) (M : Mem) : Prop := (P_12_loop_97 pk39 x1 x3 x2 M)
theorem T_12_loop_96 {g : Gl} (k39 : Int32 → Int32 → Int32 → Mem → Int32 × Mem) (pk39 : Int32 → Int32 → Int32 → Mem → Prop) (ih39 : ∀ (x1 : Int32) (x2 : Int32) (x3 : Int32) (M : Mem), pk39 x1 x2 x3 M → Rn g 2 m12_loop 39 [some (.ref 0), some (.int x1), some (.int x2), some (.int x3)] [] M (some (.int (k39 x1 x2 x3 M).1)) ((k39 x1 x2 x3 M).2)) (x1 : Int32) (x2 : Int32) (x3 : Int32) (M : Mem) (hp : P_12_loop_96 pk39 x1 x2 x3 M) : Rn g 2 m12_loop 96 [some (.ref 0), some (.int x1), some (.int x2), some (.int x3)] [] M (some (.int (F_12_loop_96 k39 x1 x2 x3 M).1)) ((F_12_loop_96 k39 x1 x2 x3 M).2) := by
  rw [F_12_loop_96]
  rw [P_12_loop_96] at hp
  refine b12_loop_96  ?_
  exact T_12_loop_97 k39 pk39 ih39 x1 x3 x2 M hp
def F_12_loop_39  : Nat → Int32 → Int32 → Int32 → Mem → Int32 × Mem
  | 0, _, _, _, M => (0, M)
  | n + 1, x1, x2, x3, M => if (rd M 4 ((1 : Int32).toNatClampNeg)) ≤ x3 then (((F_12_orNone_0 M x2), M)) else (if (rd M (54 + x3.toNatClampNeg) ((0 : Int32).toNatClampNeg)) = x1 then (if (F_12_isBarred_0 M x3) = 0 then (F_12_loop_97 (F_12_loop_39 n) x1 x3 (F_12_less_0 M x2 (1 + (rd M (497 + (rd M (54 + x3.toNatClampNeg) ((1 : Int32).toNatClampNeg)).toNatClampNeg) x1.toNatClampNeg))) M) else (F_12_loop_96 (F_12_loop_39 n) x1 x2 x3 M)) else (F_12_loop_96 (F_12_loop_39 n) x1 x2 x3 M))
def P_12_loop_39  : Nat → Int32 → Int32 → Int32 → Mem → Prop
  | 0, _, _, _, _ => False
  | n + 1, x1, x2, x3, M => (((rd M 4 ((1 : Int32).toNatClampNeg)) ≤ x3 → True) ∧ (¬ (rd M 4 ((1 : Int32).toNatClampNeg)) ≤ x3 → (vp_in x3 24) ∧ ((¬ (rd M (54 + x3.toNatClampNeg) ((0 : Int32).toNatClampNeg)) = x1 → P_12_loop_96 (P_12_loop_39 n) x1 x2 x3 M) ∧ ((rd M (54 + x3.toNatClampNeg) ((0 : Int32).toNatClampNeg)) = x1 → ((P_12_isBarred_0 M x3) ∧ (((¬ (F_12_isBarred_0 M x3) = 0 → P_12_loop_96 (P_12_loop_39 n) x1 x2 x3 M) ∧ ((F_12_isBarred_0 M x3) = 0 → (vp_in x3 24) ∧ (vp_in (rd M (54 + x3.toNatClampNeg) ((1 : Int32).toNatClampNeg)) 10) ∧ (vp_in x1 10) ∧ (((P_12_loop_97 (P_12_loop_39 n) x1 x3 (F_12_less_0 M x2 (1 + (rd M (497 + (rd M (54 + x3.toNatClampNeg) ((1 : Int32).toNatClampNeg)).toNatClampNeg) x1.toNatClampNeg))) M)))))))))))
theorem T_12_loop_39 {g : Gl} : ∀ (n : Nat) (x1 : Int32) (x2 : Int32) (x3 : Int32) (M : Mem) (hp : P_12_loop_39 n x1 x2 x3 M), Rn g 2 m12_loop 39 [some (.ref 0), some (.int x1), some (.int x2), some (.int x3)] [] M (some (.int (F_12_loop_39 n x1 x2 x3 M).1)) ((F_12_loop_39 n x1 x2 x3 M).2) := by
  intro n
  induction n with
  | zero => intro x1 x2 x3 M hp; exact hp.elim
  | succ n ih =>
    intro x1 x2 x3 M hp
    rw [F_12_loop_39]
    rw [P_12_loop_39] at hp
    refine b12_loop_39 (vpl (by decide)) (fun h => ?_) (fun h => ?_)
    · rw [if_pos h]
      refine b12_loop_104  (C_12_orNone x2 M) (Nat.le_of_ble_eq_true rfl) ?_
      exact b12_loop_108  rfl rfl
    · rw [if_neg h]
      have hp := hp.2 h
      obtain ⟨p0, hp⟩ := hp
      refine b12_loop_49 p0 (vpl (by decide)) (fun h => ?_) (fun h => ?_)
      · rw [if_neg h]
        have hp := hp.1 h
        exact T_12_loop_96 (F_12_loop_39 n) (P_12_loop_39 n) ih x1 x2 x3 M hp
      · rw [if_pos h]
        have hp := hp.2 h
        obtain ⟨hc, hp⟩ := hp
        refine b12_loop_61  (C_12_isBarred x3 M hc) (Nat.le_of_ble_eq_true rfl) ?_
        refine b12_loop_69  (fun h => ?_) (fun h => ?_)
        · rw [if_neg h]
          have hp := hp.1 h
          exact T_12_loop_96 (F_12_loop_39 n) (P_12_loop_39 n) ih x1 x2 x3 M hp
        · rw [if_pos h]
          have hp := hp.2 h
          obtain ⟨p1, p2, p3, hp⟩ := hp
          refine b12_loop_72 p1 (vpl (by decide)) p2 p3 (C_12_less x2 (1 + (rd M (497 + (rd M (54 + x3.toNatClampNeg) ((1 : Int32).toNatClampNeg)).toNatClampNeg) x1.toNatClampNeg)) M) (Nat.le_of_ble_eq_true rfl) ?_
          refine b12_loop_93  ?_
          exact T_12_loop_97 (F_12_loop_39 n) (P_12_loop_39 n) ih x1 x3 (F_12_less_0 M x2 (1 + (rd M (497 + (rd M (54 + x3.toNatClampNeg) ((1 : Int32).toNatClampNeg)).toNatClampNeg) x1.toNatClampNeg))) M hp
def F_12_loop_37 (x1 : Int32) (x2 : Int32) (M : Mem) : Int32 × Mem := F_12_loop_39 FU x1 x2 0 M
def P_12_loop_37 (x1 : Int32) (x2 : Int32) (M : Mem) : Prop := (P_12_loop_39 FU x1 x2 0 M)
theorem T_12_loop_37 {g : Gl} (x1 : Int32) (x2 : Int32) (M : Mem) (hp : P_12_loop_37 x1 x2 M) : Rn g 2 m12_loop 37 [some (.ref 0), some (.int x1), some (.int x2), none] [] M (some (.int (F_12_loop_37 x1 x2 M).1)) ((F_12_loop_37 x1 x2 M).2) := by
  rw [F_12_loop_37]
  rw [P_12_loop_37] at hp
  refine b12_loop_37  ?_
  exact T_12_loop_39 FU x1 x2 0 M hp
def F_12_loop_24 (x1 : Int32) (xs0 : Int32) (M : Mem) : Int32 × Mem := if xs0 = 0 then (F_12_loop_37 x1 999 (F_12_laysWays_0 M)) else ((0, M))
def P_12_loop_24 (x1 : Int32) (xs0 : Int32) (M : Mem) : Prop := ((xs0 = 0 → ((P_12_laysWays_0 M) ∧ (P_12_loop_37 x1 999 (F_12_laysWays_0 M)))) ∧ (¬ xs0 = 0 → True))
theorem T_12_loop_24 {g : Gl} (x1 : Int32) (xs0 : Int32) (M : Mem) (hp : P_12_loop_24 x1 xs0 M) : Rn g 2 m12_loop 24 [some (.ref 0), some (.int x1), none, none] [.int xs0] M (some (.int (F_12_loop_24 x1 xs0 M).1)) ((F_12_loop_24 x1 xs0 M).2) := by
  rw [F_12_loop_24]
  rw [P_12_loop_24] at hp
  refine b12_loop_24  (fun h => ?_) (fun h => ?_)
  · rw [if_pos h]
    have hp := hp.1 h
    obtain ⟨hc, hp⟩ := hp
    refine b12_loop_29  (C_12_laysWays  M hc) (Nat.le_of_ble_eq_true rfl) ?_
    exact T_12_loop_37 x1 999 (F_12_laysWays_0 M) hp
  · rw [if_neg h]
    exact b12_loop_27  rfl rfl
def F_12_loop_19 (x1 : Int32) (xs0 : Int32) (M : Mem) : Int32 × Mem := F_12_loop_24 x1 ((F_12_bad_0 xs0 1 0 M).1) ((F_12_bad_0 xs0 1 0 M).2)
def P_12_loop_19 (x1 : Int32) (xs0 : Int32) (M : Mem) : Prop := ((P_12_bad_0 xs0 1 0 M) ∧ (P_12_loop_24 x1 ((F_12_bad_0 xs0 1 0 M).1) ((F_12_bad_0 xs0 1 0 M).2)))
theorem T_12_loop_19 {g : Gl} (x1 : Int32) (xs0 : Int32) (M : Mem) (hp : P_12_loop_19 x1 xs0 M) : Rn g 2 m12_loop 19 [some (.ref 0), some (.int x1), none, none] [.int xs0, .ref 0] M (some (.int (F_12_loop_19 x1 xs0 M).1)) ((F_12_loop_19 x1 xs0 M).2) := by
  rw [F_12_loop_19]
  rw [P_12_loop_19] at hp
  obtain ⟨hc, hp⟩ := hp
  refine b12_loop_19  (C_12_bad xs0 1 0 M hc) (Nat.le_of_ble_eq_true rfl) ?_
  exact T_12_loop_24 x1 ((F_12_bad_0 xs0 1 0 M).1) ((F_12_bad_0 xs0 1 0 M).2) hp
def F_12_loop_0 (x1 : Int32) (M : Mem) : Int32 × Mem := if (F_12_isRoom_0 (wr M 0 0 0) x1) = 0 then (F_12_loop_19 x1 1 (wr M 0 0 0)) else (F_12_loop_19 x1 0 (wr M 0 0 0))
def P_12_loop_0 (x1 : Int32) (M : Mem) : Prop := ((P_12_isRoom_0 (wr M 0 0 0) x1) ∧ (((¬ (F_12_isRoom_0 (wr M 0 0 0) x1) = 0 → (P_12_loop_19 x1 0 (wr M 0 0 0))) ∧ ((F_12_isRoom_0 (wr M 0 0 0) x1) = 0 → (P_12_loop_19 x1 1 (wr M 0 0 0))))))
theorem T_12_loop_0 {g : Gl} (x1 : Int32) (M : Mem) (hp : P_12_loop_0 x1 M) : Rn g 2 m12_loop 0 [some (.ref 0), some (.int x1), none, none] [] M (some (.int (F_12_loop_0 x1 M).1)) ((F_12_loop_0 x1 M).2) := by
  rw [F_12_loop_0]
  rw [P_12_loop_0] at hp
  obtain ⟨hc, hp⟩ := hp
  refine b12_loop_0  (C_12_isRoom x1 (wr M 0 0 0) hc) (Nat.le_of_ble_eq_true rfl) ?_
  refine b12_loop_11  (fun h => ?_) (fun h => ?_)
  · rw [if_neg h]
    have hp := hp.1 h
    refine b12_loop_18  ?_
    exact T_12_loop_19 x1 0 (wr M 0 0 0) hp
  · rw [if_pos h]
    have hp := hp.2 h
    refine b12_loop_14  ?_
    exact T_12_loop_19 x1 1 (wr M 0 0 0) hp
theorem C_12_loop {g : Gl}  (x1 : Int32) (M : Mem) (hp : P_12_loop_0 x1 M) : Ms g 2 m12_loop [.ref 0, .int x1] M (some (.int (F_12_loop_0 x1 M).1)) ((F_12_loop_0 x1 M).2) := Ms.of okM_m12_loop (Nat.le_of_ble_eq_true rfl) (R_wk (lc rfl (lc rfl (ln (ln l0)))) (T_12_loop_0 x1 M hp))
def F_12_closed_90 (k45 : Int32 → Int32 → Int32 → Int32 → Mem → Int32 × Mem) (x1 : Int32) (x2 : Int32) (x4 : Int32) (xs0 : Int32) (xs1 : Int32) (M : Mem) : Int32 × Mem := k45 x1 x2 (xs1 ||| xs0) (x4 + 1) M
def P_12_closed_90 (pk45 : Int32 → Int32 → Int32 → Int32 → Mem → Prop) (x1 : Int32) (x2 : Int32) (x4 : Int32) (xs0 : Int32) (xs1 : Int32) (M : Mem) : Prop := (pk45 x1 x2 (xs1 ||| xs0) (x4 + 1) M)
theorem T_12_closed_90 {g : Gl} (k45 : Int32 → Int32 → Int32 → Int32 → Mem → Int32 × Mem) (pk45 : Int32 → Int32 → Int32 → Int32 → Mem → Prop) (ih45 : ∀ (x1 : Int32) (x2 : Int32) (x3 : Int32) (x4 : Int32) (M : Mem), pk45 x1 x2 x3 x4 M → Rn g 7 m12_closed 45 [some (.ref 0), some (.int x1), some (.int x2), some (.int x3), some (.int x4)] [] M (some (.int (k45 x1 x2 x3 x4 M).1)) ((k45 x1 x2 x3 x4 M).2)) (x1 : Int32) (x2 : Int32) (x4 : Int32) (xs0 : Int32) (xs1 : Int32) (M : Mem) (hp : P_12_closed_90 pk45 x1 x2 x4 xs0 xs1 M) : Rn g 7 m12_closed 90 [some (.ref 0), some (.int x1), some (.int x2), none, some (.int x4)] [.int xs0, .int xs1] M (some (.int (F_12_closed_90 k45 x1 x2 x4 xs0 xs1 M).1)) ((F_12_closed_90 k45 x1 x2 x4 xs0 xs1 M).2) := by
  rw [F_12_closed_90]
  rw [P_12_closed_90] at hp
  refine b12_closed_90  ?_
  exact ih45 x1 x2 (xs1 ||| xs0) (x4 + 1) M hp
def F_12_closed_79 (k45 : Int32 → Int32 → Int32 → Int32 → Mem → Int32 × Mem) (x1 : Int32) (x2 : Int32) (x4 : Int32) (xs0 : Int32) (xs1 : Int32) (M : Mem) : Int32 × Mem := if xs0 = 0 then (F_12_closed_90 k45 x1 x2 x4 ((1 : Int32) <<< (x4 &&& 31)) xs1 M) else (F_12_closed_90 k45 x1 x2 x4 0 xs1 M)
def P_12_closed_79 (pk45 : Int32 → Int32 → Int32 → Int32 → Mem → Prop) (x1 : Int32) (x2 : Int32) (x4 : Int32) (xs0 : Int32) (xs1 : Int32) (M : Mem) : Prop := ((¬ xs0 = 0 → (P_12_closed_90 pk45 x1 x2 x4 0 xs1 M)) ∧ (xs0 = 0 → (P_12_closed_90 pk45 x1 x2 x4 ((1 : Int32) <<< (x4 &&& 31)) xs1 M)))
theorem T_12_closed_79 {g : Gl} (k45 : Int32 → Int32 → Int32 → Int32 → Mem → Int32 × Mem) (pk45 : Int32 → Int32 → Int32 → Int32 → Mem → Prop) (ih45 : ∀ (x1 : Int32) (x2 : Int32) (x3 : Int32) (x4 : Int32) (M : Mem), pk45 x1 x2 x3 x4 M → Rn g 7 m12_closed 45 [some (.ref 0), some (.int x1), some (.int x2), some (.int x3), some (.int x4)] [] M (some (.int (k45 x1 x2 x3 x4 M).1)) ((k45 x1 x2 x3 x4 M).2)) (x1 : Int32) (x2 : Int32) (x4 : Int32) (xs0 : Int32) (xs1 : Int32) (M : Mem) (hp : P_12_closed_79 pk45 x1 x2 x4 xs0 xs1 M) : Rn g 7 m12_closed 79 [some (.ref 0), some (.int x1), some (.int x2), none, some (.int x4)] [.int xs0, .int xs1] M (some (.int (F_12_closed_79 k45 x1 x2 x4 xs0 xs1 M).1)) ((F_12_closed_79 k45 x1 x2 x4 xs0 xs1 M).2) := by
  rw [F_12_closed_79]
  rw [P_12_closed_79] at hp
  refine b12_closed_79  (fun h => ?_) (fun h => ?_)
  · rw [if_neg h]
    have hp := hp.1 h
    refine b12_closed_89  ?_
    exact T_12_closed_90 k45 pk45 ih45 x1 x2 x4 0 xs1 M hp
  · rw [if_pos h]
    have hp := hp.2 h
    refine b12_closed_82  ?_
    exact T_12_closed_90 k45 pk45 ih45 x1 x2 x4 ((1 : Int32) <<< (x4 &&& 31)) xs1 M hp
def F_12_closed_45  : Nat → Int32 → Int32 → Int32 → Int32 → Mem → Int32 × Mem
  | 0, _, _, _, _, M => (0, M)
  | n + 1, x1, x2, x3, x4, M => if (rd M 4 ((0 : Int32).toNatClampNeg)) ≤ x4 then ((x3, M)) else (F_12_closed_79 (F_12_closed_45 n) x1 x2 x4 ((F_12_doorsOf_0 x4 x2 ((((rd M 20 ((55 : Int32).toNatClampNeg)) / 24) * 24) + x1) M).1) x3 ((F_12_doorsOf_0 x4 x2 ((((rd M 20 ((55 : Int32).toNatClampNeg)) / 24) * 24) + x1) M).2))
def P_12_closed_45  : Nat → Int32 → Int32 → Int32 → Int32 → Mem → Prop
  | 0, _, _, _, _, _ => False
  | n + 1, x1, x2, x3, x4, M => (((rd M 4 ((0 : Int32).toNatClampNeg)) ≤ x4 → True) ∧ (¬ (rd M 4 ((0 : Int32).toNatClampNeg)) ≤ x4 → ((P_12_doorsOf_0 x4 x2 ((((rd M 20 ((55 : Int32).toNatClampNeg)) / 24) * 24) + x1) M) ∧ (P_12_closed_79 (P_12_closed_45 n) x1 x2 x4 ((F_12_doorsOf_0 x4 x2 ((((rd M 20 ((55 : Int32).toNatClampNeg)) / 24) * 24) + x1) M).1) x3 ((F_12_doorsOf_0 x4 x2 ((((rd M 20 ((55 : Int32).toNatClampNeg)) / 24) * 24) + x1) M).2)))))
theorem T_12_closed_45 {g : Gl} : ∀ (n : Nat) (x1 : Int32) (x2 : Int32) (x3 : Int32) (x4 : Int32) (M : Mem) (hp : P_12_closed_45 n x1 x2 x3 x4 M), Rn g 7 m12_closed 45 [some (.ref 0), some (.int x1), some (.int x2), some (.int x3), some (.int x4)] [] M (some (.int (F_12_closed_45 n x1 x2 x3 x4 M).1)) ((F_12_closed_45 n x1 x2 x3 x4 M).2) := by
  intro n
  induction n with
  | zero => intro x1 x2 x3 x4 M hp; exact hp.elim
  | succ n ih =>
    intro x1 x2 x3 x4 M hp
    rw [F_12_closed_45]
    rw [P_12_closed_45] at hp
    refine b12_closed_45 (vpl (by decide)) (fun h => ?_) (fun h => ?_)
    · rw [if_pos h]
      exact b12_closed_98  rfl rfl
    · rw [if_neg h]
      have hp := hp.2 h
      obtain ⟨hc, hp⟩ := hp
      refine b12_closed_56 (vpl (by decide)) (by decide) (C_12_doorsOf x4 x2 ((((rd M 20 ((55 : Int32).toNatClampNeg)) / 24) * 24) + x1) M hc) (Nat.le_of_ble_eq_true rfl) ?_
      exact T_12_closed_79 (F_12_closed_45 n) (P_12_closed_45 n) ih x1 x2 x4 ((F_12_doorsOf_0 x4 x2 ((((rd M 20 ((55 : Int32).toNatClampNeg)) / 24) * 24) + x1) M).1) x3 ((F_12_doorsOf_0 x4 x2 ((((rd M 20 ((55 : Int32).toNatClampNeg)) / 24) * 24) + x1) M).2) hp
def F_12_closed_35 (x1 : Int32) (x2 : Int32) (xs0 : Int32) (M : Mem) : Int32 × Mem := if xs0 = 0 then (F_12_closed_45 FU x1 x2 0 0 M) else ((0, M))
def P_12_closed_35 (x1 : Int32) (x2 : Int32) (xs0 : Int32) (M : Mem) : Prop := ((xs0 = 0 → (P_12_closed_45 FU x1 x2 0 0 M)) ∧ (¬ xs0 = 0 → True))
theorem T_12_closed_35 {g : Gl} (x1 : Int32) (x2 : Int32) (xs0 : Int32) (M : Mem) (hp : P_12_closed_35 x1 x2 xs0 M) : Rn g 7 m12_closed 35 [some (.ref 0), some (.int x1), some (.int x2), none, none] [.int xs0] M (some (.int (F_12_closed_35 x1 x2 xs0 M).1)) ((F_12_closed_35 x1 x2 xs0 M).2) := by
  rw [F_12_closed_35]
  rw [P_12_closed_35] at hp
  refine b12_closed_35  (fun h => ?_) (fun h => ?_)
  · rw [if_pos h]
    have hp := hp.1 h
    refine b12_closed_40  ?_
    exact T_12_closed_45 FU x1 x2 0 0 M hp
  · rw [if_neg h]
    exact b12_closed_38  rfl rfl
def F_12_closed_30 (x1 : Int32) (x2 : Int32) (xs0 : Int32) (M : Mem) : Int32 × Mem := F_12_closed_35 x1 x2 ((F_12_bad_0 xs0 1 1 M).1) ((F_12_bad_0 xs0 1 1 M).2)
def P_12_closed_30 (x1 : Int32) (x2 : Int32) (xs0 : Int32) (M : Mem) : Prop := ((P_12_bad_0 xs0 1 1 M) ∧ (P_12_closed_35 x1 x2 ((F_12_bad_0 xs0 1 1 M).1) ((F_12_bad_0 xs0 1 1 M).2)))
theorem T_12_closed_30 {g : Gl} (x1 : Int32) (x2 : Int32) (xs0 : Int32) (M : Mem) (hp : P_12_closed_30 x1 x2 xs0 M) : Rn g 7 m12_closed 30 [some (.ref 0), some (.int x1), some (.int x2), none, none] [.int xs0, .ref 0] M (some (.int (F_12_closed_30 x1 x2 xs0 M).1)) ((F_12_closed_30 x1 x2 xs0 M).2) := by
  rw [F_12_closed_30]
  rw [P_12_closed_30] at hp
  obtain ⟨hc, hp⟩ := hp
  refine b12_closed_30  (C_12_bad xs0 1 1 M hc) (Nat.le_of_ble_eq_true rfl) ?_
  exact T_12_closed_35 x1 x2 ((F_12_bad_0 xs0 1 1 M).1) ((F_12_bad_0 xs0 1 1 M).2) hp
def F_12_closed_25 (x1 : Int32) (x2 : Int32) (M : Mem) : Int32 × Mem := F_12_closed_30 x1 x2 1 M
def P_12_closed_25 (x1 : Int32) (x2 : Int32) (M : Mem) : Prop := (P_12_closed_30 x1 x2 1 M)
theorem T_12_closed_25 {g : Gl} (x1 : Int32) (x2 : Int32) (M : Mem) (hp : P_12_closed_25 x1 x2 M) : Rn g 7 m12_closed 25 [some (.ref 0), some (.int x1), some (.int x2), none, none] [.ref 0] M (some (.int (F_12_closed_25 x1 x2 M).1)) ((F_12_closed_25 x1 x2 M).2) := by
  rw [F_12_closed_25]
  rw [P_12_closed_25] at hp
  refine b12_closed_25  ?_
  exact T_12_closed_30 x1 x2 1 M hp
def F_12_closed_0 (x1 : Int32) (x2 : Int32) (M : Mem) : Int32 × Mem := if (F_12_in_0 (wr M 0 0 0) x1 0 23) = 0 then (F_12_closed_25 x1 x2 (wr M 0 0 0)) else (if (F_12_in_0 (wr M 0 0 0) x2 0 1) = 0 then (F_12_closed_25 x1 x2 (wr M 0 0 0)) else (F_12_closed_30 x1 x2 0 (wr M 0 0 0)))
def P_12_closed_0 (x1 : Int32) (x2 : Int32) (M : Mem) : Prop := (((((F_12_in_0 (wr M 0 0 0) x1 0 23) = 0 → P_12_closed_25 x1 x2 (wr M 0 0 0)) ∧ (¬ (F_12_in_0 (wr M 0 0 0) x1 0 23) = 0 → ((((¬ (F_12_in_0 (wr M 0 0 0) x2 0 1) = 0 → (P_12_closed_30 x1 x2 0 (wr M 0 0 0))) ∧ ((F_12_in_0 (wr M 0 0 0) x2 0 1) = 0 → P_12_closed_25 x1 x2 (wr M 0 0 0)))))))))
theorem T_12_closed_0 {g : Gl} (x1 : Int32) (x2 : Int32) (M : Mem) (hp : P_12_closed_0 x1 x2 M) : Rn g 7 m12_closed 0 [some (.ref 0), some (.int x1), some (.int x2), none, none] [] M (some (.int (F_12_closed_0 x1 x2 M).1)) ((F_12_closed_0 x1 x2 M).2) := by
  rw [F_12_closed_0]
  rw [P_12_closed_0] at hp
  refine b12_closed_0  (C_12_in x1 0 23 (wr M 0 0 0)) (Nat.le_of_ble_eq_true rfl) ?_
  refine b12_closed_13  (fun h => ?_) (fun h => ?_)
  · rw [if_pos h]
    have hp := hp.1 h
    exact T_12_closed_25 x1 x2 (wr M 0 0 0) hp
  · rw [if_neg h]
    have hp := hp.2 h
    refine b12_closed_16  (C_12_in x2 0 1 (wr M 0 0 0)) (Nat.le_of_ble_eq_true rfl) ?_
    refine b12_closed_22  (fun h => ?_) (fun h => ?_)
    · rw [if_neg h]
      have hp := hp.1 h
      refine b12_closed_29  ?_
      exact T_12_closed_30 x1 x2 0 (wr M 0 0 0) hp
    · rw [if_pos h]
      have hp := hp.2 h
      exact T_12_closed_25 x1 x2 (wr M 0 0 0) hp
theorem C_12_closed {g : Gl}  (x1 : Int32) (x2 : Int32) (M : Mem) (hp : P_12_closed_0 x1 x2 M) : Ms g 7 m12_closed [.ref 0, .int x1, .int x2] M (some (.int (F_12_closed_0 x1 x2 M).1)) ((F_12_closed_0 x1 x2 M).2) := Ms.of okM_m12_closed (Nat.le_of_ble_eq_true rfl) (R_wk (lc rfl (lc rfl (lc rfl (ln (ln l0))))) (T_12_closed_0 x1 x2 M hp))
def F_12_crowded_71 (k37 : Int32 → Int32 → Int32 → Int32 → Mem → Int32 × Mem) (x1 : Int32) (x2 : Int32) (x3 : Int32) (x4 : Int32) (M : Mem) : Int32 × Mem := k37 x1 x2 x3 (x4 + 1) M
def P_12_crowded_71 (pk37 : Int32 → Int32 → Int32 → Int32 → Mem → Prop) (x1 : Int32) (x2 : Int32) (x3 : Int32) (x4 : Int32) (M : Mem) : Prop := (pk37 x1 x2 x3 (x4 + 1) M)
theorem T_12_crowded_71 {g : Gl} (k37 : Int32 → Int32 → Int32 → Int32 → Mem → Int32 × Mem) (pk37 : Int32 → Int32 → Int32 → Int32 → Mem → Prop) (ih37 : ∀ (x1 : Int32) (x2 : Int32) (x3 : Int32) (x4 : Int32) (M : Mem), pk37 x1 x2 x3 x4 M → Rn g 1 m12_crowded 37 [some (.ref 0), some (.int x1), some (.int x2), some (.int x3), some (.int x4)] [] M (some (.int (k37 x1 x2 x3 x4 M).1)) ((k37 x1 x2 x3 x4 M).2)) (x1 : Int32) (x2 : Int32) (x3 : Int32) (x4 : Int32) (M : Mem) (hp : P_12_crowded_71 pk37 x1 x2 x3 x4 M) : Rn g 1 m12_crowded 71 [some (.ref 0), some (.int x1), some (.int x2), some (.int x3), some (.int x4)] [] M (some (.int (F_12_crowded_71 k37 x1 x2 x3 x4 M).1)) ((F_12_crowded_71 k37 x1 x2 x3 x4 M).2) := by
  rw [F_12_crowded_71]
  rw [P_12_crowded_71] at hp
  refine b12_crowded_71  ?_
  exact ih37 x1 x2 x3 (x4 + 1) M hp
def F_12_crowded_86 (x2 : Int32) (M : Mem) : Int32 × Mem := (x2, M)
theorem T_12_crowded_86 {g : Gl} (x2 : Int32) (M : Mem)  : Rn g 1 m12_crowded 86 [none, none, some (.int x2), none, none] [] M (some (.int (F_12_crowded_86 x2 M).1)) ((F_12_crowded_86 x2 M).2) := by
  rw [F_12_crowded_86]
  refine b12_crowded_86  ?_
  exact b12_crowded_91  rfl rfl
def F_12_crowded_37  : Nat → Int32 → Int32 → Int32 → Int32 → Mem → Int32 × Mem
  | 0, _, _, _, _, M => (0, M)
  | n + 1, x1, x2, x3, x4, M => if (rd M 4 ((0 : Int32).toNatClampNeg)) ≤ x4 then (if x1 = 0 then (F_12_crowded_86 x2 M) else (if x2 = (-1) then (F_12_crowded_86 x2 M) else ((x3, M)))) else (if x3 < (F_12_toursIn_0 M x4) then (F_12_crowded_71 (F_12_crowded_37 n) x1 x4 (F_12_toursIn_0 M x4) x4 M) else (F_12_crowded_71 (F_12_crowded_37 n) x1 x2 x3 x4 M))
def P_12_crowded_37  : Nat → Int32 → Int32 → Int32 → Int32 → Mem → Prop
  | 0, _, _, _, _, _ => False
  | n + 1, x1, x2, x3, x4, M => (((rd M 4 ((0 : Int32).toNatClampNeg)) ≤ x4 → True) ∧ (¬ (rd M 4 ((0 : Int32).toNatClampNeg)) ≤ x4 → ((P_12_toursIn_0 M x4) ∧ (((x3 < (F_12_toursIn_0 M x4) → ((P_12_toursIn_0 M x4) ∧ ((P_12_crowded_71 (P_12_crowded_37 n) x1 x4 (F_12_toursIn_0 M x4) x4 M)))) ∧ (¬ x3 < (F_12_toursIn_0 M x4) → (P_12_crowded_71 (P_12_crowded_37 n) x1 x2 x3 x4 M)))))))
theorem T_12_crowded_37 {g : Gl} : ∀ (n : Nat) (x1 : Int32) (x2 : Int32) (x3 : Int32) (x4 : Int32) (M : Mem) (hp : P_12_crowded_37 n x1 x2 x3 x4 M), Rn g 1 m12_crowded 37 [some (.ref 0), some (.int x1), some (.int x2), some (.int x3), some (.int x4)] [] M (some (.int (F_12_crowded_37 n x1 x2 x3 x4 M).1)) ((F_12_crowded_37 n x1 x2 x3 x4 M).2) := by
  intro n
  induction n with
  | zero => intro x1 x2 x3 x4 M hp; exact hp.elim
  | succ n ih =>
    intro x1 x2 x3 x4 M hp
    rw [F_12_crowded_37]
    rw [P_12_crowded_37] at hp
    refine b12_crowded_37 (vpl (by decide)) (fun h => ?_) (fun h => ?_)
    · rw [if_pos h]
      refine b12_crowded_77  (fun h => ?_) (fun h => ?_)
      · rw [if_pos h]
        exact T_12_crowded_86 x2 M
      · rw [if_neg h]
        refine b12_crowded_81  (fun h => ?_) (fun h => ?_)
        · rw [if_neg h]
          refine b12_crowded_90  ?_
          exact b12_crowded_91  rfl rfl
        · rw [if_pos h]
          exact T_12_crowded_86 x2 M
    · rw [if_neg h]
      have hp := hp.2 h
      obtain ⟨hc, hp⟩ := hp
      refine b12_crowded_48  (C_12_toursIn x4 M hc) (Nat.le_of_ble_eq_true rfl) ?_
      refine b12_crowded_54  (fun h => ?_) (fun h => ?_)
      · rw [if_pos h]
        have hp := hp.1 h
        obtain ⟨hc, hp⟩ := hp
        refine b12_crowded_61  (C_12_toursIn x4 M hc) (Nat.le_of_ble_eq_true rfl) ?_
        refine b12_crowded_70  ?_
        exact T_12_crowded_71 (F_12_crowded_37 n) (P_12_crowded_37 n) ih x1 x4 (F_12_toursIn_0 M x4) x4 M hp
      · rw [if_neg h]
        have hp := hp.2 h
        refine b12_crowded_58  ?_
        exact T_12_crowded_71 (F_12_crowded_37 n) (P_12_crowded_37 n) ih x1 x2 x3 x4 M hp
def F_12_crowded_25 (x1 : Int32) (xs0 : Int32) (M : Mem) : Int32 × Mem := if xs0 = 0 then (F_12_crowded_37 FU x1 (-1) 0 0 M) else ((0, M))
def P_12_crowded_25 (x1 : Int32) (xs0 : Int32) (M : Mem) : Prop := ((xs0 = 0 → (P_12_crowded_37 FU x1 (-1) 0 0 M)) ∧ (¬ xs0 = 0 → True))
theorem T_12_crowded_25 {g : Gl} (x1 : Int32) (xs0 : Int32) (M : Mem) (hp : P_12_crowded_25 x1 xs0 M) : Rn g 1 m12_crowded 25 [some (.ref 0), some (.int x1), none, none, none] [.int xs0] M (some (.int (F_12_crowded_25 x1 xs0 M).1)) ((F_12_crowded_25 x1 xs0 M).2) := by
  rw [F_12_crowded_25]
  rw [P_12_crowded_25] at hp
  refine b12_crowded_25  (fun h => ?_) (fun h => ?_)
  · rw [if_pos h]
    have hp := hp.1 h
    refine b12_crowded_30  ?_
    exact T_12_crowded_37 FU x1 (-1) 0 0 M hp
  · rw [if_neg h]
    exact b12_crowded_28  rfl rfl
def F_12_crowded_20 (x1 : Int32) (xs0 : Int32) (M : Mem) : Int32 × Mem := F_12_crowded_25 x1 ((F_12_bad_0 xs0 1 1 M).1) ((F_12_bad_0 xs0 1 1 M).2)
def P_12_crowded_20 (x1 : Int32) (xs0 : Int32) (M : Mem) : Prop := ((P_12_bad_0 xs0 1 1 M) ∧ (P_12_crowded_25 x1 ((F_12_bad_0 xs0 1 1 M).1) ((F_12_bad_0 xs0 1 1 M).2)))
theorem T_12_crowded_20 {g : Gl} (x1 : Int32) (xs0 : Int32) (M : Mem) (hp : P_12_crowded_20 x1 xs0 M) : Rn g 1 m12_crowded 20 [some (.ref 0), some (.int x1), none, none, none] [.int xs0, .ref 0] M (some (.int (F_12_crowded_20 x1 xs0 M).1)) ((F_12_crowded_20 x1 xs0 M).2) := by
  rw [F_12_crowded_20]
  rw [P_12_crowded_20] at hp
  obtain ⟨hc, hp⟩ := hp
  refine b12_crowded_20  (C_12_bad xs0 1 1 M hc) (Nat.le_of_ble_eq_true rfl) ?_
  exact T_12_crowded_25 x1 ((F_12_bad_0 xs0 1 1 M).1) ((F_12_bad_0 xs0 1 1 M).2) hp
def F_12_crowded_0 (x1 : Int32) (M : Mem) : Int32 × Mem := if (F_12_in_0 (wr M 0 0 0) x1 0 1) = 0 then (F_12_crowded_20 x1 1 (wr M 0 0 0)) else (F_12_crowded_20 x1 0 (wr M 0 0 0))
def P_12_crowded_0 (x1 : Int32) (M : Mem) : Prop := ((((¬ (F_12_in_0 (wr M 0 0 0) x1 0 1) = 0 → (P_12_crowded_20 x1 0 (wr M 0 0 0))) ∧ ((F_12_in_0 (wr M 0 0 0) x1 0 1) = 0 → (P_12_crowded_20 x1 1 (wr M 0 0 0))))))
theorem T_12_crowded_0 {g : Gl} (x1 : Int32) (M : Mem) (hp : P_12_crowded_0 x1 M) : Rn g 1 m12_crowded 0 [some (.ref 0), some (.int x1), none, none, none] [] M (some (.int (F_12_crowded_0 x1 M).1)) ((F_12_crowded_0 x1 M).2) := by
  rw [F_12_crowded_0]
  rw [P_12_crowded_0] at hp
  refine b12_crowded_0  (C_12_in x1 0 1 (wr M 0 0 0)) (Nat.le_of_ble_eq_true rfl) ?_
  refine b12_crowded_12  (fun h => ?_) (fun h => ?_)
  · rw [if_neg h]
    have hp := hp.1 h
    refine b12_crowded_19  ?_
    exact T_12_crowded_20 x1 0 (wr M 0 0 0) hp
  · rw [if_pos h]
    have hp := hp.2 h
    refine b12_crowded_15  ?_
    exact T_12_crowded_20 x1 1 (wr M 0 0 0) hp
theorem C_12_crowded {g : Gl}  (x1 : Int32) (M : Mem) (hp : P_12_crowded_0 x1 M) : Ms g 1 m12_crowded [.ref 0, .int x1] M (some (.int (F_12_crowded_0 x1 M).1)) ((F_12_crowded_0 x1 M).2) := Ms.of okM_m12_crowded (Nat.le_of_ble_eq_true rfl) (R_wk (lc rfl (lc rfl (ln (ln (ln l0))))) (T_12_crowded_0 x1 M hp))
def F_12_worn_79 (k37 : Int32 → Int32 → Int32 → Int32 → Mem → Int32 × Mem) (x1 : Int32) (x2 : Int32) (x3 : Int32) (x4 : Int32) (M : Mem) : Int32 × Mem := k37 x1 x2 x3 (x4 + 1) M
def P_12_worn_79 (pk37 : Int32 → Int32 → Int32 → Int32 → Mem → Prop) (x1 : Int32) (x2 : Int32) (x3 : Int32) (x4 : Int32) (M : Mem) : Prop := (pk37 x1 x2 x3 (x4 + 1) M)
theorem T_12_worn_79 {g : Gl} (k37 : Int32 → Int32 → Int32 → Int32 → Mem → Int32 × Mem) (pk37 : Int32 → Int32 → Int32 → Int32 → Mem → Prop) (ih37 : ∀ (x1 : Int32) (x2 : Int32) (x3 : Int32) (x4 : Int32) (M : Mem), pk37 x1 x2 x3 x4 M → Rn g 1 m12_worn 37 [some (.ref 0), some (.int x1), some (.int x2), some (.int x3), some (.int x4)] [] M (some (.int (k37 x1 x2 x3 x4 M).1)) ((k37 x1 x2 x3 x4 M).2)) (x1 : Int32) (x2 : Int32) (x3 : Int32) (x4 : Int32) (M : Mem) (hp : P_12_worn_79 pk37 x1 x2 x3 x4 M) : Rn g 1 m12_worn 79 [some (.ref 0), some (.int x1), some (.int x2), some (.int x3), some (.int x4)] [] M (some (.int (F_12_worn_79 k37 x1 x2 x3 x4 M).1)) ((F_12_worn_79 k37 x1 x2 x3 x4 M).2) := by
  rw [F_12_worn_79]
  rw [P_12_worn_79] at hp
  refine b12_worn_79  ?_
  exact ih37 x1 x2 x3 (x4 + 1) M hp
def F_12_worn_94 (x2 : Int32) (M : Mem) : Int32 × Mem := (x2, M)
theorem T_12_worn_94 {g : Gl} (x2 : Int32) (M : Mem)  : Rn g 1 m12_worn 94 [none, none, some (.int x2), none, none] [] M (some (.int (F_12_worn_94 x2 M).1)) ((F_12_worn_94 x2 M).2) := by
  rw [F_12_worn_94]
  refine b12_worn_94  ?_
  exact b12_worn_99  rfl rfl
def F_12_worn_37  : Nat → Int32 → Int32 → Int32 → Int32 → Mem → Int32 × Mem
  | 0, _, _, _, _, M => (0, M)
  | n + 1, x1, x2, x3, x4, M => if (rd M 4 ((1 : Int32).toNatClampNeg)) ≤ x4 then (if x1 = 0 then (F_12_worn_94 x2 M) else (if x2 = (-1) then (F_12_worn_94 x2 M) else ((x3, M)))) else (if x3 < (rd M 20 ((30 + x4).toNatClampNeg)) then (F_12_worn_79 (F_12_worn_37 n) x1 x4 (rd M 20 ((30 + x4).toNatClampNeg)) x4 M) else (F_12_worn_79 (F_12_worn_37 n) x1 x2 x3 x4 M))
def P_12_worn_37  : Nat → Int32 → Int32 → Int32 → Int32 → Mem → Prop
  | 0, _, _, _, _, _ => False
  | n + 1, x1, x2, x3, x4, M => (((rd M 4 ((1 : Int32).toNatClampNeg)) ≤ x4 → True) ∧ (¬ (rd M 4 ((1 : Int32).toNatClampNeg)) ≤ x4 → (vp_in (30 + x4) 56) ∧ ((x3 < (rd M 20 ((30 + x4).toNatClampNeg)) → (vp_in (30 + x4) 56) ∧ (P_12_worn_79 (P_12_worn_37 n) x1 x4 (rd M 20 ((30 + x4).toNatClampNeg)) x4 M)) ∧ (¬ x3 < (rd M 20 ((30 + x4).toNatClampNeg)) → (P_12_worn_79 (P_12_worn_37 n) x1 x2 x3 x4 M)))))
theorem T_12_worn_37 {g : Gl} : ∀ (n : Nat) (x1 : Int32) (x2 : Int32) (x3 : Int32) (x4 : Int32) (M : Mem) (hp : P_12_worn_37 n x1 x2 x3 x4 M), Rn g 1 m12_worn 37 [some (.ref 0), some (.int x1), some (.int x2), some (.int x3), some (.int x4)] [] M (some (.int (F_12_worn_37 n x1 x2 x3 x4 M).1)) ((F_12_worn_37 n x1 x2 x3 x4 M).2) := by
  intro n
  induction n with
  | zero => intro x1 x2 x3 x4 M hp; exact hp.elim
  | succ n ih =>
    intro x1 x2 x3 x4 M hp
    rw [F_12_worn_37]
    rw [P_12_worn_37] at hp
    refine b12_worn_37 (vpl (by decide)) (fun h => ?_) (fun h => ?_)
    · rw [if_pos h]
      refine b12_worn_85  (fun h => ?_) (fun h => ?_)
      · rw [if_pos h]
        exact T_12_worn_94 x2 M
      · rw [if_neg h]
        refine b12_worn_89  (fun h => ?_) (fun h => ?_)
        · rw [if_neg h]
          refine b12_worn_98  ?_
          exact b12_worn_99  rfl rfl
        · rw [if_pos h]
          exact T_12_worn_94 x2 M
    · rw [if_neg h]
      have hp := hp.2 h
      obtain ⟨p0, hp⟩ := hp
      refine b12_worn_48 p0 (fun h => ?_) (fun h => ?_)
      · rw [if_pos h]
        have hp := hp.1 h
        obtain ⟨p1, hp⟩ := hp
        refine b12_worn_65 p1 ?_
        exact T_12_worn_79 (F_12_worn_37 n) (P_12_worn_37 n) ih x1 x4 (rd M 20 ((30 + x4).toNatClampNeg)) x4 M hp
      · rw [if_neg h]
        have hp := hp.2 h
        refine b12_worn_62  ?_
        exact T_12_worn_79 (F_12_worn_37 n) (P_12_worn_37 n) ih x1 x2 x3 x4 M hp
def F_12_worn_25 (x1 : Int32) (xs0 : Int32) (M : Mem) : Int32 × Mem := if xs0 = 0 then (F_12_worn_37 FU x1 (-1) 0 0 M) else ((0, M))
def P_12_worn_25 (x1 : Int32) (xs0 : Int32) (M : Mem) : Prop := ((xs0 = 0 → (P_12_worn_37 FU x1 (-1) 0 0 M)) ∧ (¬ xs0 = 0 → True))
theorem T_12_worn_25 {g : Gl} (x1 : Int32) (xs0 : Int32) (M : Mem) (hp : P_12_worn_25 x1 xs0 M) : Rn g 1 m12_worn 25 [some (.ref 0), some (.int x1), none, none, none] [.int xs0] M (some (.int (F_12_worn_25 x1 xs0 M).1)) ((F_12_worn_25 x1 xs0 M).2) := by
  rw [F_12_worn_25]
  rw [P_12_worn_25] at hp
  refine b12_worn_25  (fun h => ?_) (fun h => ?_)
  · rw [if_pos h]
    have hp := hp.1 h
    refine b12_worn_30  ?_
    exact T_12_worn_37 FU x1 (-1) 0 0 M hp
  · rw [if_neg h]
    exact b12_worn_28  rfl rfl
def F_12_worn_20 (x1 : Int32) (xs0 : Int32) (M : Mem) : Int32 × Mem := F_12_worn_25 x1 ((F_12_bad_0 xs0 1 1 M).1) ((F_12_bad_0 xs0 1 1 M).2)
def P_12_worn_20 (x1 : Int32) (xs0 : Int32) (M : Mem) : Prop := ((P_12_bad_0 xs0 1 1 M) ∧ (P_12_worn_25 x1 ((F_12_bad_0 xs0 1 1 M).1) ((F_12_bad_0 xs0 1 1 M).2)))
theorem T_12_worn_20 {g : Gl} (x1 : Int32) (xs0 : Int32) (M : Mem) (hp : P_12_worn_20 x1 xs0 M) : Rn g 1 m12_worn 20 [some (.ref 0), some (.int x1), none, none, none] [.int xs0, .ref 0] M (some (.int (F_12_worn_20 x1 xs0 M).1)) ((F_12_worn_20 x1 xs0 M).2) := by
  rw [F_12_worn_20]
  rw [P_12_worn_20] at hp
  obtain ⟨hc, hp⟩ := hp
  refine b12_worn_20  (C_12_bad xs0 1 1 M hc) (Nat.le_of_ble_eq_true rfl) ?_
  exact T_12_worn_25 x1 ((F_12_bad_0 xs0 1 1 M).1) ((F_12_bad_0 xs0 1 1 M).2) hp
def F_12_worn_0 (x1 : Int32) (M : Mem) : Int32 × Mem := if (F_12_in_0 (wr M 0 0 0) x1 0 1) = 0 then (F_12_worn_20 x1 1 (wr M 0 0 0)) else (F_12_worn_20 x1 0 (wr M 0 0 0))
def P_12_worn_0 (x1 : Int32) (M : Mem) : Prop := ((((¬ (F_12_in_0 (wr M 0 0 0) x1 0 1) = 0 → (P_12_worn_20 x1 0 (wr M 0 0 0))) ∧ ((F_12_in_0 (wr M 0 0 0) x1 0 1) = 0 → (P_12_worn_20 x1 1 (wr M 0 0 0))))))
theorem T_12_worn_0 {g : Gl} (x1 : Int32) (M : Mem) (hp : P_12_worn_0 x1 M) : Rn g 1 m12_worn 0 [some (.ref 0), some (.int x1), none, none, none] [] M (some (.int (F_12_worn_0 x1 M).1)) ((F_12_worn_0 x1 M).2) := by
  rw [F_12_worn_0]
  rw [P_12_worn_0] at hp
  refine b12_worn_0  (C_12_in x1 0 1 (wr M 0 0 0)) (Nat.le_of_ble_eq_true rfl) ?_
  refine b12_worn_12  (fun h => ?_) (fun h => ?_)
  · rw [if_neg h]
    have hp := hp.1 h
    refine b12_worn_19  ?_
    exact T_12_worn_20 x1 0 (wr M 0 0 0) hp
  · rw [if_pos h]
    have hp := hp.2 h
    refine b12_worn_15  ?_
    exact T_12_worn_20 x1 1 (wr M 0 0 0) hp
theorem C_12_worn {g : Gl}  (x1 : Int32) (M : Mem) (hp : P_12_worn_0 x1 M) : Ms g 1 m12_worn [.ref 0, .int x1] M (some (.int (F_12_worn_0 x1 M).1)) ((F_12_worn_0 x1 M).2) := Ms.of okM_m12_worn (Nat.le_of_ble_eq_true rfl) (R_wk (lc rfl (lc rfl (ln (ln (ln l0))))) (T_12_worn_0 x1 M hp))
