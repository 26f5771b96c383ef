def F_5_isLetter_16 (M : Mem) : Int32 := 0
theorem T_5_isLetter_16 {g : Gl} (M : Mem)  : Rn g 0 m5_isLetter 16 [none] [] M (some (.int (F_5_isLetter_16 M))) (M) := by
  rw [F_5_isLetter_16]
  refine b5_isLetter_16  ?_
  exact b5_isLetter_17  rfl rfl rfl
def F_5_isLetter_0 (M : Mem) (x0 : Int32) : Int32 := if x0 < 97 then (F_5_isLetter_16 M) else (if (122 : Int32) < x0 then (F_5_isLetter_16 M) else (1))
theorem T_5_isLetter_0 {g : Gl} (M : Mem) (x0 : Int32)  : Rn g 0 m5_isLetter 0 [some (.int x0)] [] M (some (.int (F_5_isLetter_0 M x0))) (M) := by
  rw [F_5_isLetter_0]
  refine b5_isLetter_0  (fun h => ?_) (fun h => ?_)
  · rw [if_pos h]
    exact T_5_isLetter_16 _
  · rw [if_neg h]
    refine b5_isLetter_6  (fun h => ?_) (fun h => ?_)
    · rw [if_pos h]
      exact T_5_isLetter_16 _
    · rw [if_neg h]
      refine b5_isLetter_12  ?_
      exact b5_isLetter_17  rfl rfl rfl
theorem C_5_isLetter {g : Gl}  (x0 : Int32) (M : Mem)  : Ms g 0 m5_isLetter [.int x0] M (some (.int (F_5_isLetter_0 M x0))) (M) := Ms.of okM_m5_isLetter (Nat.le_of_ble_eq_true rfl) (R_wk (lc rfl l0) (T_5_isLetter_0 M x0))
def F_5_needsWord_19 (xs0 : Int32) (M : Mem) : Int32 × Mem := (xs0, M)
def P_5_needsWord_19 (xs0 : Int32) (M : Mem) : Prop := (narrow .boolean (.int xs0) = .int xs0)
theorem T_5_needsWord_19 {g : Gl} (xs0 : Int32) (M : Mem) (hp : P_5_needsWord_19 xs0 M) : Rn g 1 m5_needsWord 19 [none] [.int xs0] M (some (.int (F_5_needsWord_19 xs0 M).1)) ((F_5_needsWord_19 xs0 M).2) := by
  rw [F_5_needsWord_19]
  rw [P_5_needsWord_19] at hp
  have p0 := hp
  exact b5_needsWord_19  rfl rfl p0
def F_5_needsWord_20  : Nat → Mem → Int32 × Mem
  | 0, M => (0, M)
  | n + 1, M => if (rd M 1560 1) ≤ (rd M 1560 2) then ((1, wr M 1560 3 (rd M 1560 2))) else (if (F_5_isLetter_0 M (F_5_byteAt_0 M (rd M 1560 2))) = 0 then ((1, wr M 1560 3 (rd M 1560 2))) else ((F_5_needsWord_20 n) (wr M 1560 2 ((rd M 1560 2) + 1))))
def P_5_needsWord_20  : Nat → Mem → Prop
  | 0, _ => False
  | n + 1, M => (((rd M 1560 1) ≤ (rd M 1560 2) → True) ∧ (¬ (rd M 1560 1) ≤ (rd M 1560 2) → ((P_5_byteAt_0 M (rd M 1560 2)) ∧ ((((((F_5_isLetter_0 M (F_5_byteAt_0 M (rd M 1560 2))) = 0 → True) ∧ (¬ (F_5_isLetter_0 M (F_5_byteAt_0 M (rd M 1560 2))) = 0 → ((P_5_needsWord_20 n) (wr M 1560 2 ((rd M 1560 2) + 1)))))))))))
theorem T_5_needsWord_20 {g : Gl} : ∀ (n : Nat)  (M : Mem) (hp : P_5_needsWord_20 n M), Rn g 1 m5_needsWord 20 [some (.ref 1560)] [] M (some (.int (F_5_needsWord_20 n M).1)) ((F_5_needsWord_20 n M).2) := by
  intro n
  induction n with
  | zero => intro M hp; exact hp.elim
  | succ n ih =>
    intro M hp
    rw [F_5_needsWord_20]
    rw [P_5_needsWord_20] at hp
    refine b5_needsWord_20  (fun h => ?_) (fun h => ?_)
    · rw [if_pos h]
      exact b5_needsWord_58  rfl rfl
    · rw [if_neg h]
      have hp := hp.2 h
      obtain ⟨hc, hp⟩ := hp
      refine b5_needsWord_31  (C_5_byteAt (rd M 1560 2) M hc) (Nat.le_of_ble_eq_true rfl) ?_
      refine b5_needsWord_39  (C_5_isLetter (F_5_byteAt_0 M (rd M 1560 2)) M) (Nat.le_of_ble_eq_true rfl) ?_
      refine b5_needsWord_42  (fun h => ?_) (fun h => ?_)
      · rw [if_pos h]
        exact b5_needsWord_58  rfl rfl
      · rw [if_neg h]
        have hp := hp.2 h
        refine b5_needsWord_45  ?_
        exact ih (wr M 1560 2 ((rd M 1560 2) + 1)) hp
def F_5_needsWord_4 (xs0 : Int32) (M : Mem) : Int32 × Mem := if (F_5_isLetter_0 M xs0) = 0 then (F_5_needsWord_19 ((F_5_fail_0 1 (rd M 1560 4) M).1) ((F_5_fail_0 1 (rd M 1560 4) M).2)) else (F_5_needsWord_20 FU M)
def P_5_needsWord_4 (xs0 : Int32) (M : Mem) : Prop := ((((¬ (F_5_isLetter_0 M xs0) = 0 → P_5_needsWord_20 FU M) ∧ ((F_5_isLetter_0 M xs0) = 0 → ((P_5_needsWord_19 ((F_5_fail_0 1 (rd M 1560 4) M).1) ((F_5_fail_0 1 (rd M 1560 4) M).2)))))))
theorem T_5_needsWord_4 {g : Gl} (xs0 : Int32) (M : Mem) (hp : P_5_needsWord_4 xs0 M) : Rn g 1 m5_needsWord 4 [some (.ref 1560)] [.int xs0] M (some (.int (F_5_needsWord_4 xs0 M).1)) ((F_5_needsWord_4 xs0 M).2) := by
  rw [F_5_needsWord_4]
  rw [P_5_needsWord_4] at hp
  refine b5_needsWord_4  (C_5_isLetter xs0 M) (Nat.le_of_ble_eq_true rfl) ?_
  refine b5_needsWord_7  (fun h => ?_) (fun h => ?_)
  · rw [if_neg h]
    have hp := hp.1 h
    exact T_5_needsWord_20 FU M hp
  · rw [if_pos h]
    have hp := hp.2 h
    refine b5_needsWord_10  (C_5_fail 1 (rd M 1560 4) M) (Nat.le_of_ble_eq_true rfl) ?_
    exact T_5_needsWord_19 ((F_5_fail_0 1 (rd M 1560 4) M).1) ((F_5_fail_0 1 (rd M 1560 4) M).2) hp
def F_5_needsWord_0 (M : Mem) : Int32 × Mem := F_5_needsWord_4 ((F_5_peek_0 FU M).1) ((F_5_peek_0 FU M).2)
def P_5_needsWord_0 (M : Mem) : Prop := ((P_5_peek_0 FU M) ∧ (P_5_needsWord_4 ((F_5_peek_0 FU M).1) ((F_5_peek_0 FU M).2)))
theorem T_5_needsWord_0 {g : Gl} (M : Mem) (hp : P_5_needsWord_0 M) : Rn g 1 m5_needsWord 0 [some (.ref 1560)] [] M (some (.int (F_5_needsWord_0 M).1)) ((F_5_needsWord_0 M).2) := by
  rw [F_5_needsWord_0]
  rw [P_5_needsWord_0] at hp
  obtain ⟨hc, hp⟩ := hp
  refine b5_needsWord_0  (C_5_peek  M hc) (Nat.le_of_ble_eq_true rfl) ?_
  exact T_5_needsWord_4 ((F_5_peek_0 FU M).1) ((F_5_peek_0 FU M).2) hp
theorem C_5_needsWord {g : Gl}   (M : Mem) (hp : P_5_needsWord_0 M) : Ms g 1 m5_needsWord [.ref 1560] M (some (.int (F_5_needsWord_0 M).1)) ((F_5_needsWord_0 M).2) := Ms.of okM_m5_needsWord (Nat.le_of_ble_eq_true rfl) (R_wk (lc rfl l0) (T_5_needsWord_0 M hp))
def F_2_readPair_15 (rF : Int32 → Mem → Int32 × Mem) (xs0 : Int32) (M : Mem) : Int32 × Mem := (xs0, M)
def P_2_readPair_15 (rF : Int32 → Mem → Int32 × Mem) (rP : Int32 → Mem → Prop) (xs0 : Int32) (M : Mem) : Prop := (narrow .boolean (.int xs0) = .int xs0)
theorem T_2_readPair_15 {g : Gl} (rF : Int32 → Mem → Int32 × Mem) (rP : Int32 → Mem → Prop) {dr : Nat} (rT : ∀ (a0 : Int32) (M : Mem), rP a0 M → Ms g dr m2_readSum [.ref 1583, .ref 1560, .int a0] M (some (.int (rF a0 M).1)) ((rF a0 M).2)) (xs0 : Int32) (M : Mem) (hp : P_2_readPair_15 rF rP xs0 M) : Rn g (dr + 2) m2_readPair 15 [none, none, none, none] [.int xs0] M (some (.int (F_2_readPair_15 rF xs0 M).1)) ((F_2_readPair_15 rF xs0 M).2) := by
  rw [F_2_readPair_15]
  rw [P_2_readPair_15] at hp
  have p0 := hp
  exact b2_readPair_15  rfl rfl p0
def F_2_readPair_74 (rF : Int32 → Mem → Int32 × Mem) (M : Mem) : Int32 × Mem := (1, M)
theorem T_2_readPair_74 {g : Gl} (rF : Int32 → Mem → Int32 × Mem) (rP : Int32 → Mem → Prop) {dr : Nat} (rT : ∀ (a0 : Int32) (M : Mem), rP a0 M → Ms g dr m2_readSum [.ref 1583, .ref 1560, .int a0] M (some (.int (rF a0 M).1)) ((rF a0 M).2)) (M : Mem)  : Rn g (dr + 2) m2_readPair 74 [none, none, none, none] [] M (some (.int (F_2_readPair_74 rF M).1)) ((F_2_readPair_74 rF M).2) := by
  rw [F_2_readPair_74]
  exact b2_readPair_74  rfl rfl
def F_2_readPair_64 (rF : Int32 → Mem → Int32 × Mem) (x3 : Int32) (xs0 : Int32) (M : Mem) : Int32 × Mem := if xs0 = 0 then ((0, M)) else (F_2_readPair_74 rF (F_2_put_0 x3 M))
def P_2_readPair_64 (rF : Int32 → Mem → Int32 × Mem) (rP : Int32 → Mem → Prop) (x3 : Int32) (xs0 : Int32) (M : Mem) : Prop := ((¬ xs0 = 0 → ((P_2_put_0 x3 M))) ∧ (xs0 = 0 → True))
theorem T_2_readPair_64 {g : Gl} (rF : Int32 → Mem → Int32 × Mem) (rP : Int32 → Mem → Prop) {dr : Nat} (rT : ∀ (a0 : Int32) (M : Mem), rP a0 M → Ms g dr m2_readSum [.ref 1583, .ref 1560, .int a0] M (some (.int (rF a0 M).1)) ((rF a0 M).2)) (x3 : Int32) (xs0 : Int32) (M : Mem) (hp : P_2_readPair_64 rF rP x3 xs0 M) : Rn g (dr + 2) m2_readPair 64 [some (.ref 1583), none, none, some (.int x3)] [.int xs0] M (some (.int (F_2_readPair_64 rF x3 xs0 M).1)) ((F_2_readPair_64 rF x3 xs0 M).2) := by
  rw [F_2_readPair_64]
  rw [P_2_readPair_64] at hp
  refine b2_readPair_64  (fun h => ?_) (fun h => ?_)
  · rw [if_neg h]
    have hp := hp.1 h
    have hc := hp
    refine b2_readPair_69  (C_2_put x3 M hc) (by omega) ?_
    exact T_2_readPair_74 rF rP rT (F_2_put_0 x3 M)
  · rw [if_pos h]
    exact b2_readPair_67  rfl rfl
def F_2_readPair_55 (rF : Int32 → Mem → Int32 × Mem) (x3 : Int32) (xs0 : Int32) (M : Mem) : Int32 × Mem := if xs0 = 0 then ((0, M)) else (F_2_readPair_64 rF x3 ((F_5_needs_0 93 M).1) ((F_5_needs_0 93 M).2))
def P_2_readPair_55 (rF : Int32 → Mem → Int32 × Mem) (rP : Int32 → Mem → Prop) (x3 : Int32) (xs0 : Int32) (M : Mem) : Prop := ((xs0 = 0 → True) ∧ (¬ xs0 = 0 → ((P_5_needs_0 93 M) ∧ (P_2_readPair_64 rF rP x3 ((F_5_needs_0 93 M).1) ((F_5_needs_0 93 M).2)))))
theorem T_2_readPair_55 {g : Gl} (rF : Int32 → Mem → Int32 × Mem) (rP : Int32 → Mem → Prop) {dr : Nat} (rT : ∀ (a0 : Int32) (M : Mem), rP a0 M → Ms g dr m2_readSum [.ref 1583, .ref 1560, .int a0] M (some (.int (rF a0 M).1)) ((rF a0 M).2)) (x3 : Int32) (xs0 : Int32) (M : Mem) (hp : P_2_readPair_55 rF rP x3 xs0 M) : Rn g (dr + 2) m2_readPair 55 [some (.ref 1583), some (.ref 1560), none, some (.int x3)] [.int xs0] M (some (.int (F_2_readPair_55 rF x3 xs0 M).1)) ((F_2_readPair_55 rF x3 xs0 M).2) := by
  rw [F_2_readPair_55]
  rw [P_2_readPair_55] at hp
  refine b2_readPair_55  (fun h => ?_) (fun h => ?_)
  · rw [if_pos h]
    exact b2_readPair_67  rfl rfl
  · rw [if_neg h]
    have hp := hp.2 h
    obtain ⟨hc, hp⟩ := hp
    refine b2_readPair_58  (C_5_needs 93 M hc) (by omega) ?_
    exact T_2_readPair_64 rF rP rT x3 ((F_5_needs_0 93 M).1) ((F_5_needs_0 93 M).2) hp
def F_2_readPair_44 (rF : Int32 → Mem → Int32 × Mem) (x2 : Int32) (x3 : Int32) (xs0 : Int32) (M : Mem) : Int32 × Mem := if xs0 = 0 then ((0, M)) else (F_2_readPair_55 rF x3 ((rF (x2 + 1) M).1) ((rF (x2 + 1) M).2))
def P_2_readPair_44 (rF : Int32 → Mem → Int32 × Mem) (rP : Int32 → Mem → Prop) (x2 : Int32) (x3 : Int32) (xs0 : Int32) (M : Mem) : Prop := ((xs0 = 0 → True) ∧ (¬ xs0 = 0 → ((rP (x2 + 1) M) ∧ (P_2_readPair_55 rF rP x3 ((rF (x2 + 1) M).1) ((rF (x2 + 1) M).2)))))
theorem T_2_readPair_44 {g : Gl} (rF : Int32 → Mem → Int32 × Mem) (rP : Int32 → Mem → Prop) {dr : Nat} (rT : ∀ (a0 : Int32) (M : Mem), rP a0 M → Ms g dr m2_readSum [.ref 1583, .ref 1560, .int a0] M (some (.int (rF a0 M).1)) ((rF a0 M).2)) (x2 : Int32) (x3 : Int32) (xs0 : Int32) (M : Mem) (hp : P_2_readPair_44 rF rP x2 x3 xs0 M) : Rn g (dr + 2) m2_readPair 44 [some (.ref 1583), some (.ref 1560), some (.int x2), some (.int x3)] [.int xs0] M (some (.int (F_2_readPair_44 rF x2 x3 xs0 M).1)) ((F_2_readPair_44 rF x2 x3 xs0 M).2) := by
  rw [F_2_readPair_44]
  rw [P_2_readPair_44] at hp
  refine b2_readPair_44  (fun h => ?_) (fun h => ?_)
  · rw [if_pos h]
    exact b2_readPair_67  rfl rfl
  · rw [if_neg h]
    have hp := hp.2 h
    obtain ⟨hc, hp⟩ := hp
    refine b2_readPair_47  (rT (x2 + 1) M hc) (by omega) ?_
    exact T_2_readPair_55 rF rP rT x3 ((rF (x2 + 1) M).1) ((rF (x2 + 1) M).2) hp
def F_2_readPair_33 (rF : Int32 → Mem → Int32 × Mem) (x2 : Int32) (x3 : Int32) (xs0 : Int32) (M : Mem) : Int32 × Mem := if xs0 = 0 then ((0, M)) else (F_2_readPair_44 rF x2 x3 ((F_5_needs_0 44 M).1) ((F_5_needs_0 44 M).2))
def P_2_readPair_33 (rF : Int32 → Mem → Int32 × Mem) (rP : Int32 → Mem → Prop) (x2 : Int32) (x3 : Int32) (xs0 : Int32) (M : Mem) : Prop := ((¬ xs0 = 0 → ((P_5_needs_0 44 M) ∧ (P_2_readPair_44 rF rP x2 x3 ((F_5_needs_0 44 M).1) ((F_5_needs_0 44 M).2)))) ∧ (xs0 = 0 → True))
theorem T_2_readPair_33 {g : Gl} (rF : Int32 → Mem → Int32 × Mem) (rP : Int32 → Mem → Prop) {dr : Nat} (rT : ∀ (a0 : Int32) (M : Mem), rP a0 M → Ms g dr m2_readSum [.ref 1583, .ref 1560, .int a0] M (some (.int (rF a0 M).1)) ((rF a0 M).2)) (x2 : Int32) (x3 : Int32) (xs0 : Int32) (M : Mem) (hp : P_2_readPair_33 rF rP x2 x3 xs0 M) : Rn g (dr + 2) m2_readPair 33 [some (.ref 1583), some (.ref 1560), some (.int x2), some (.int x3)] [.int xs0] M (some (.int (F_2_readPair_33 rF x2 x3 xs0 M).1)) ((F_2_readPair_33 rF x2 x3 xs0 M).2) := by
  rw [F_2_readPair_33]
  rw [P_2_readPair_33] at hp
  refine b2_readPair_33  (fun h => ?_) (fun h => ?_)
  · rw [if_neg h]
    have hp := hp.1 h
    obtain ⟨hc, hp⟩ := hp
    refine b2_readPair_38  (C_5_needs 44 M hc) (by omega) ?_
    exact T_2_readPair_44 rF rP rT x2 x3 ((F_5_needs_0 44 M).1) ((F_5_needs_0 44 M).2) hp
  · rw [if_pos h]
    exact b2_readPair_36  rfl rfl
def F_2_readPair_22 (rF : Int32 → Mem → Int32 × Mem) (x2 : Int32) (x3 : Int32) (xs0 : Int32) (M : Mem) : Int32 × Mem := if xs0 = 0 then ((0, M)) else (F_2_readPair_33 rF x2 x3 ((rF (x2 + 1) M).1) ((rF (x2 + 1) M).2))
def P_2_readPair_22 (rF : Int32 → Mem → Int32 × Mem) (rP : Int32 → Mem → Prop) (x2 : Int32) (x3 : Int32) (xs0 : Int32) (M : Mem) : Prop := ((xs0 = 0 → True) ∧ (¬ xs0 = 0 → ((rP (x2 + 1) M) ∧ (P_2_readPair_33 rF rP x2 x3 ((rF (x2 + 1) M).1) ((rF (x2 + 1) M).2)))))
theorem T_2_readPair_22 {g : Gl} (rF : Int32 → Mem → Int32 × Mem) (rP : Int32 → Mem → Prop) {dr : Nat} (rT : ∀ (a0 : Int32) (M : Mem), rP a0 M → Ms g dr m2_readSum [.ref 1583, .ref 1560, .int a0] M (some (.int (rF a0 M).1)) ((rF a0 M).2)) (x2 : Int32) (x3 : Int32) (xs0 : Int32) (M : Mem) (hp : P_2_readPair_22 rF rP x2 x3 xs0 M) : Rn g (dr + 2) m2_readPair 22 [some (.ref 1583), some (.ref 1560), some (.int x2), some (.int x3)] [.int xs0] M (some (.int (F_2_readPair_22 rF x2 x3 xs0 M).1)) ((F_2_readPair_22 rF x2 x3 xs0 M).2) := by
  rw [F_2_readPair_22]
  rw [P_2_readPair_22] at hp
  refine b2_readPair_22  (fun h => ?_) (fun h => ?_)
  · rw [if_pos h]
    exact b2_readPair_36  rfl rfl
  · rw [if_neg h]
    have hp := hp.2 h
    obtain ⟨hc, hp⟩ := hp
    refine b2_readPair_25  (rT (x2 + 1) M hc) (by omega) ?_
    exact T_2_readPair_33 rF rP rT x2 x3 ((rF (x2 + 1) M).1) ((rF (x2 + 1) M).2) hp
def F_2_readPair_0 (rF : Int32 → Mem → Int32 × Mem) (x2 : Int32) (x3 : Int32) (M : Mem) : Int32 × Mem := if x2 < 6 then (F_2_readPair_22 rF x2 x3 ((F_5_needs_0 91 M).1) ((F_5_needs_0 91 M).2)) else (F_2_readPair_15 rF ((F_5_fail_0 3 (rd M 1560 4) M).1) ((F_5_fail_0 3 (rd M 1560 4) M).2))
def P_2_readPair_0 (rF : Int32 → Mem → Int32 × Mem) (rP : Int32 → Mem → Prop) (x2 : Int32) (x3 : Int32) (M : Mem) : Prop := ((x2 < 6 → ((P_5_needs_0 91 M) ∧ (P_2_readPair_22 rF rP x2 x3 ((F_5_needs_0 91 M).1) ((F_5_needs_0 91 M).2)))) ∧ (¬ x2 < 6 → ((P_2_readPair_15 rF rP ((F_5_fail_0 3 (rd M 1560 4) M).1) ((F_5_fail_0 3 (rd M 1560 4) M).2)))))
theorem T_2_readPair_0 {g : Gl} (rF : Int32 → Mem → Int32 × Mem) (rP : Int32 → Mem → Prop) {dr : Nat} (rT : ∀ (a0 : Int32) (M : Mem), rP a0 M → Ms g dr m2_readSum [.ref 1583, .ref 1560, .int a0] M (some (.int (rF a0 M).1)) ((rF a0 M).2)) (x2 : Int32) (x3 : Int32) (M : Mem) (hp : P_2_readPair_0 rF rP x2 x3 M) : Rn g (dr + 2) m2_readPair 0 [some (.ref 1583), some (.ref 1560), some (.int x2), some (.int x3)] [] M (some (.int (F_2_readPair_0 rF x2 x3 M).1)) ((F_2_readPair_0 rF x2 x3 M).2) := by
  rw [F_2_readPair_0]
  rw [P_2_readPair_0] at hp
  refine b2_readPair_0  (fun h => ?_) (fun h => ?_)
  · rw [if_pos h]
    have hp := hp.1 h
    obtain ⟨hc, hp⟩ := hp
    refine b2_readPair_16  (C_5_needs 91 M hc) (by omega) ?_
    exact T_2_readPair_22 rF rP rT x2 x3 ((F_5_needs_0 91 M).1) ((F_5_needs_0 91 M).2) hp
  · rw [if_neg h]
    have hp := hp.2 h
    refine b2_readPair_6  (C_5_fail 3 (rd M 1560 4) M) (by omega) ?_
    exact T_2_readPair_15 rF rP rT ((F_5_fail_0 3 (rd M 1560 4) M).1) ((F_5_fail_0 3 (rd M 1560 4) M).2) hp
theorem C_2_readPair {g : Gl} (rF : Int32 → Mem → Int32 × Mem) (rP : Int32 → Mem → Prop) {dr : Nat} (rT : ∀ (a0 : Int32) (M : Mem), rP a0 M → Ms g dr m2_readSum [.ref 1583, .ref 1560, .int a0] M (some (.int (rF a0 M).1)) ((rF a0 M).2)) (x2 : Int32) (x3 : Int32) (M : Mem) (hp : P_2_readPair_0 rF rP x2 x3 M) : Ms g (dr + 2) m2_readPair [.ref 1583, .ref 1560, .int x2, .int x3] M (some (.int (F_2_readPair_0 rF x2 x3 M).1)) ((F_2_readPair_0 rF x2 x3 M).2) := Ms.of okM_m2_readPair (Nat.le_of_ble_eq_true rfl) (R_wk (lc rfl (lc rfl (lc rfl (lc rfl l0)))) (T_2_readPair_0 rF rP rT x2 x3 M hp))
def F_2_readUnit_30 (rF : Int32 → Mem → Int32 × Mem) (M : Mem) : Int32 × Mem := (1, M)
theorem T_2_readUnit_30 {g : Gl} (rF : Int32 → Mem → Int32 × Mem) (rP : Int32 → Mem → Prop) {dr : Nat} (rT : ∀ (a0 : Int32) (M : Mem), rP a0 M → Ms g dr m2_readSum [.ref 1583, .ref 1560, .int a0] M (some (.int (rF a0 M).1)) ((rF a0 M).2)) (M : Mem)  : Rn g (dr + 6) m2_readUnit 30 [none, none, none, none] [] M (some (.int (F_2_readUnit_30 rF M).1)) ((F_2_readUnit_30 rF M).2) := by
  rw [F_2_readUnit_30]
  exact b2_readUnit_30  rfl rfl
def F_2_readUnit_17 (rF : Int32 → Mem → Int32 × Mem) (xs0 : Int32) (M : Mem) : Int32 × Mem := if xs0 = 0 then ((0, M)) else (F_2_readUnit_30 rF (F_2_put_0 (rd M 1560 5) M))
def P_2_readUnit_17 (rF : Int32 → Mem → Int32 × Mem) (rP : Int32 → Mem → Prop) (xs0 : Int32) (M : Mem) : Prop := ((¬ xs0 = 0 → ((P_2_put_0 (rd M 1560 5) M))) ∧ (xs0 = 0 → True))
theorem T_2_readUnit_17 {g : Gl} (rF : Int32 → Mem → Int32 × Mem) (rP : Int32 → Mem → Prop) {dr : Nat} (rT : ∀ (a0 : Int32) (M : Mem), rP a0 M → Ms g dr m2_readSum [.ref 1583, .ref 1560, .int a0] M (some (.int (rF a0 M).1)) ((rF a0 M).2)) (xs0 : Int32) (M : Mem) (hp : P_2_readUnit_17 rF rP xs0 M) : Rn g (dr + 6) m2_readUnit 17 [some (.ref 1583), some (.ref 1560), none, none] [.int xs0] M (some (.int (F_2_readUnit_17 rF xs0 M).1)) ((F_2_readUnit_17 rF xs0 M).2) := by
  rw [F_2_readUnit_17]
  rw [P_2_readUnit_17] at hp
  refine b2_readUnit_17  (fun h => ?_) (fun h => ?_)
  · rw [if_neg h]
    have hp := hp.1 h
    have hc := hp
    refine b2_readUnit_22  (C_2_put (rd M 1560 5) M hc) (by omega) ?_
    exact T_2_readUnit_30 rF rP rT (F_2_put_0 (rd M 1560 5) M)
  · rw [if_pos h]
    exact b2_readUnit_20  rfl rfl
def F_2_readUnit_47 (rF : Int32 → Mem → Int32 × Mem) (xs0 : Int32) (M : Mem) : Int32 × Mem := (xs0, M)
def P_2_readUnit_47 (rF : Int32 → Mem → Int32 × Mem) (rP : Int32 → Mem → Prop) (xs0 : Int32) (M : Mem) : Prop := (narrow .boolean (.int xs0) = .int xs0)
theorem T_2_readUnit_47 {g : Gl} (rF : Int32 → Mem → Int32 × Mem) (rP : Int32 → Mem → Prop) {dr : Nat} (rT : ∀ (a0 : Int32) (M : Mem), rP a0 M → Ms g dr m2_readSum [.ref 1583, .ref 1560, .int a0] M (some (.int (rF a0 M).1)) ((rF a0 M).2)) (xs0 : Int32) (M : Mem) (hp : P_2_readUnit_47 rF rP xs0 M) : Rn g (dr + 6) m2_readUnit 47 [none, none, none, none] [.int xs0] M (some (.int (F_2_readUnit_47 rF xs0 M).1)) ((F_2_readUnit_47 rF xs0 M).2) := by
  rw [F_2_readUnit_47]
  rw [P_2_readUnit_47] at hp
  have p0 := hp
  exact b2_readUnit_47  rfl rfl p0
def F_2_readUnit_77 (rF : Int32 → Mem → Int32 × Mem) (xs0 : Int32) (M : Mem) : Int32 × Mem := (xs0, M)
def P_2_readUnit_77 (rF : Int32 → Mem → Int32 × Mem) (rP : Int32 → Mem → Prop) (xs0 : Int32) (M : Mem) : Prop := (narrow .boolean (.int xs0) = .int xs0)
theorem T_2_readUnit_77 {g : Gl} (rF : Int32 → Mem → Int32 × Mem) (rP : Int32 → Mem → Prop) {dr : Nat} (rT : ∀ (a0 : Int32) (M : Mem), rP a0 M → Ms g dr m2_readSum [.ref 1583, .ref 1560, .int a0] M (some (.int (rF a0 M).1)) ((rF a0 M).2)) (xs0 : Int32) (M : Mem) (hp : P_2_readUnit_77 rF rP xs0 M) : Rn g (dr + 6) m2_readUnit 77 [none, none, none, none] [.int xs0] M (some (.int (F_2_readUnit_77 rF xs0 M).1)) ((F_2_readUnit_77 rF xs0 M).2) := by
  rw [F_2_readUnit_77]
  rw [P_2_readUnit_77] at hp
  have p0 := hp
  exact b2_readUnit_77  rfl rfl p0
def F_2_readUnit_97 (rF : Int32 → Mem → Int32 × Mem) (xs0 : Int32) (M : Mem) : Int32 × Mem := (xs0, M)
def P_2_readUnit_97 (rF : Int32 → Mem → Int32 × Mem) (rP : Int32 → Mem → Prop) (xs0 : Int32) (M : Mem) : Prop := (narrow .boolean (.int xs0) = .int xs0)
theorem T_2_readUnit_97 {g : Gl} (rF : Int32 → Mem → Int32 × Mem) (rP : Int32 → Mem → Prop) {dr : Nat} (rT : ∀ (a0 : Int32) (M : Mem), rP a0 M → Ms g dr m2_readSum [.ref 1583, .ref 1560, .int a0] M (some (.int (rF a0 M).1)) ((rF a0 M).2)) (xs0 : Int32) (M : Mem) (hp : P_2_readUnit_97 rF rP xs0 M) : Rn g (dr + 6) m2_readUnit 97 [none, none, none, none] [.int xs0] M (some (.int (F_2_readUnit_97 rF xs0 M).1)) ((F_2_readUnit_97 rF xs0 M).2) := by
  rw [F_2_readUnit_97]
  rw [P_2_readUnit_97] at hp
  have p0 := hp
  exact b2_readUnit_97  rfl rfl p0
def F_2_readUnit_90 (rF : Int32 → Mem → Int32 × Mem) (x2 : Int32) (x3 : Int32) (M : Mem) : Int32 × Mem := F_2_readUnit_97 rF ((F_2_readPair_0 rF x2 x3 M).1) ((F_2_readPair_0 rF x2 x3 M).2)
def P_2_readUnit_90 (rF : Int32 → Mem → Int32 × Mem) (rP : Int32 → Mem → Prop) (x2 : Int32) (x3 : Int32) (M : Mem) : Prop := ((P_2_readPair_0 rF rP x2 x3 M) ∧ (P_2_readUnit_97 rF rP ((F_2_readPair_0 rF x2 x3 M).1) ((F_2_readPair_0 rF x2 x3 M).2)))
theorem T_2_readUnit_90 {g : Gl} (rF : Int32 → Mem → Int32 × Mem) (rP : Int32 → Mem → Prop) {dr : Nat} (rT : ∀ (a0 : Int32) (M : Mem), rP a0 M → Ms g dr m2_readSum [.ref 1583, .ref 1560, .int a0] M (some (.int (rF a0 M).1)) ((rF a0 M).2)) (x2 : Int32) (x3 : Int32) (M : Mem) (hp : P_2_readUnit_90 rF rP x2 x3 M) : Rn g (dr + 6) m2_readUnit 90 [some (.ref 1583), some (.ref 1560), some (.int x2), some (.int x3)] [] M (some (.int (F_2_readUnit_90 rF x2 x3 M).1)) ((F_2_readUnit_90 rF x2 x3 M).2) := by
  rw [F_2_readUnit_90]
  rw [P_2_readUnit_90] at hp
  obtain ⟨hc, hp⟩ := hp
  refine b2_readUnit_90  (C_2_readPair rF rP rT x2 x3 M hc) (by omega) ?_
  exact T_2_readUnit_97 rF rP rT ((F_2_readPair_0 rF x2 x3 M).1) ((F_2_readPair_0 rF x2 x3 M).2) hp
def F_2_readUnit_103 (rF : Int32 → Mem → Int32 × Mem) (M : Mem) : Int32 × Mem := (1, M)
theorem T_2_readUnit_103 {g : Gl} (rF : Int32 → Mem → Int32 × Mem) (rP : Int32 → Mem → Prop) {dr : Nat} (rT : ∀ (a0 : Int32) (M : Mem), rP a0 M → Ms g dr m2_readSum [.ref 1583, .ref 1560, .int a0] M (some (.int (rF a0 M).1)) ((rF a0 M).2)) (M : Mem)  : Rn g (dr + 6) m2_readUnit 103 [none, none, none, none] [] M (some (.int (F_2_readUnit_103 rF M).1)) ((F_2_readUnit_103 rF M).2) := by
  rw [F_2_readUnit_103]
  exact b2_readUnit_103  rfl rfl
def F_2_readUnit_52 (rF : Int32 → Mem → Int32 × Mem) (x2 : Int32) (xs0 : Int32) (M : Mem) : Int32 × Mem := if xs0 = 0 then ((0, M)) else (if (F_2_codeOfWord_0 M) = (-16) then (F_2_readUnit_77 rF ((F_5_fail_0 1 (rd M 1560 4) M).1) ((F_5_fail_0 1 (rd M 1560 4) M).2)) else (if (F_2_codeOfWord_0 M) = (-9) then (F_2_readUnit_90 rF x2 (F_2_codeOfWord_0 M) M) else (if (F_2_codeOfWord_0 M) = (-10) then (F_2_readUnit_90 rF x2 (F_2_codeOfWord_0 M) M) else (F_2_readUnit_103 rF (F_2_put_0 (F_2_codeOfWord_0 M) M)))))
def P_2_readUnit_52 (rF : Int32 → Mem → Int32 × Mem) (rP : Int32 → Mem → Prop) (x2 : Int32) (xs0 : Int32) (M : Mem) : Prop := ((¬ xs0 = 0 → ((P_2_codeOfWord_0 M) ∧ (((¬ (F_2_codeOfWord_0 M) = (-16) → (((F_2_codeOfWord_0 M) = (-9) → P_2_readUnit_90 rF rP x2 (F_2_codeOfWord_0 M) M) ∧ (¬ (F_2_codeOfWord_0 M) = (-9) → ((¬ (F_2_codeOfWord_0 M) = (-10) → ((P_2_put_0 (F_2_codeOfWord_0 M) M))) ∧ ((F_2_codeOfWord_0 M) = (-10) → P_2_readUnit_90 rF rP x2 (F_2_codeOfWord_0 M) M))))) ∧ ((F_2_codeOfWord_0 M) = (-16) → ((P_2_readUnit_77 rF rP ((F_5_fail_0 1 (rd M 1560 4) M).1) ((F_5_fail_0 1 (rd M 1560 4) M).2)))))))) ∧ (xs0 = 0 → True))
theorem T_2_readUnit_52 {g : Gl} (rF : Int32 → Mem → Int32 × Mem) (rP : Int32 → Mem → Prop) {dr : Nat} (rT : ∀ (a0 : Int32) (M : Mem), rP a0 M → Ms g dr m2_readSum [.ref 1583, .ref 1560, .int a0] M (some (.int (rF a0 M).1)) ((rF a0 M).2)) (x2 : Int32) (xs0 : Int32) (M : Mem) (hp : P_2_readUnit_52 rF rP x2 xs0 M) : Rn g (dr + 6) m2_readUnit 52 [some (.ref 1583), some (.ref 1560), some (.int x2), none] [.int xs0] M (some (.int (F_2_readUnit_52 rF x2 xs0 M).1)) ((F_2_readUnit_52 rF x2 xs0 M).2) := by
  rw [F_2_readUnit_52]
  rw [P_2_readUnit_52] at hp
  refine b2_readUnit_52  (fun h => ?_) (fun h => ?_)
  · rw [if_neg h]
    have hp := hp.1 h
    obtain ⟨hc, hp⟩ := hp
    refine b2_readUnit_57  (C_2_codeOfWord  M hc) (by omega) ?_
    refine b2_readUnit_61  (fun h => ?_) (fun h => ?_)
    · rw [if_neg h]
      have hp := hp.1 h
      refine b2_readUnit_78  (fun h => ?_) (fun h => ?_)
      · rw [if_pos h]
        have hp := hp.1 h
        exact T_2_readUnit_90 rF rP rT x2 (F_2_codeOfWord_0 M) M hp
      · rw [if_neg h]
        have hp := hp.2 h
        refine b2_readUnit_84  (fun h => ?_) (fun h => ?_)
        · rw [if_neg h]
          have hp := hp.1 h
          have hc := hp
          refine b2_readUnit_98  (C_2_put (F_2_codeOfWord_0 M) M hc) (by omega) ?_
          exact T_2_readUnit_103 rF rP rT (F_2_put_0 (F_2_codeOfWord_0 M) M)
        · rw [if_pos h]
          have hp := hp.2 h
          exact T_2_readUnit_90 rF rP rT x2 (F_2_codeOfWord_0 M) M hp
    · rw [if_pos h]
      have hp := hp.2 h
      refine b2_readUnit_68  (C_5_fail 1 (rd M 1560 4) M) (by omega) ?_
      exact T_2_readUnit_77 rF rP rT ((F_5_fail_0 1 (rd M 1560 4) M).1) ((F_5_fail_0 1 (rd M 1560 4) M).2) hp
  · rw [if_pos h]
    exact b2_readUnit_55  rfl rfl
def F_2_readUnit_36 (rF : Int32 → Mem → Int32 × Mem) (x2 : Int32) (xs0 : Int32) (M : Mem) : Int32 × Mem := if xs0 = 40 then (F_2_readUnit_47 rF ((F_2_readBracket_0 rF x2 M).1) ((F_2_readBracket_0 rF x2 M).2)) else (F_2_readUnit_52 rF x2 ((F_5_needsWord_0 M).1) ((F_5_needsWord_0 M).2))
def P_2_readUnit_36 (rF : Int32 → Mem → Int32 × Mem) (rP : Int32 → Mem → Prop) (x2 : Int32) (xs0 : Int32) (M : Mem) : Prop := ((¬ xs0 = 40 → ((P_5_needsWord_0 M) ∧ (P_2_readUnit_52 rF rP x2 ((F_5_needsWord_0 M).1) ((F_5_needsWord_0 M).2)))) ∧ (xs0 = 40 → ((P_2_readBracket_0 rF rP x2 M) ∧ (P_2_readUnit_47 rF rP ((F_2_readBracket_0 rF x2 M).1) ((F_2_readBracket_0 rF x2 M).2)))))
theorem T_2_readUnit_36 {g : Gl} (rF : Int32 → Mem → Int32 × Mem) (rP : Int32 → Mem → Prop) {dr : Nat} (rT : ∀ (a0 : Int32) (M : Mem), rP a0 M → Ms g dr m2_readSum [.ref 1583, .ref 1560, .int a0] M (some (.int (rF a0 M).1)) ((rF a0 M).2)) (x2 : Int32) (xs0 : Int32) (M : Mem) (hp : P_2_readUnit_36 rF rP x2 xs0 M) : Rn g (dr + 6) m2_readUnit 36 [some (.ref 1583), some (.ref 1560), some (.int x2), none] [.int xs0] M (some (.int (F_2_readUnit_36 rF x2 xs0 M).1)) ((F_2_readUnit_36 rF x2 xs0 M).2) := by
  rw [F_2_readUnit_36]
  rw [P_2_readUnit_36] at hp
  refine b2_readUnit_36  (fun h => ?_) (fun h => ?_)
  · rw [if_neg h]
    have hp := hp.1 h
    obtain ⟨hc, hp⟩ := hp
    refine b2_readUnit_48  (C_5_needsWord  M hc) (by omega) ?_
    exact T_2_readUnit_52 rF rP rT x2 ((F_5_needsWord_0 M).1) ((F_5_needsWord_0 M).2) hp
  · rw [if_pos h]
    have hp := hp.2 h
    obtain ⟨hc, hp⟩ := hp
    refine b2_readUnit_41  (C_2_readBracket rF rP rT x2 M hc) (by omega) ?_
    exact T_2_readUnit_47 rF rP rT ((F_2_readBracket_0 rF x2 M).1) ((F_2_readBracket_0 rF x2 M).2) hp
def F_2_readUnit_4 (rF : Int32 → Mem → Int32 × Mem) (x2 : Int32) (xs0 : Int32) (M : Mem) : Int32 × Mem := if (F_5_isDigit_0 M xs0) = 0 then (F_2_readUnit_36 rF x2 ((F_5_peek_0 FU M).1) ((F_5_peek_0 FU M).2)) else (F_2_readUnit_17 rF ((F_5_needsNumber_0 999 M).1) ((F_5_needsNumber_0 999 M).2))
def P_2_readUnit_4 (rF : Int32 → Mem → Int32 × Mem) (rP : Int32 → Mem → Prop) (x2 : Int32) (xs0 : Int32) (M : Mem) : Prop := (((((F_5_isDigit_0 M xs0) = 0 → ((P_5_peek_0 FU M) ∧ (P_2_readUnit_36 rF rP x2 ((F_5_peek_0 FU M).1) ((F_5_peek_0 FU M).2)))) ∧ (¬ (F_5_isDigit_0 M xs0) = 0 → ((P_5_needsNumber_0 999 M) ∧ (P_2_readUnit_17 rF rP ((F_5_needsNumber_0 999 M).1) ((F_5_needsNumber_0 999 M).2)))))))
theorem T_2_readUnit_4 {g : Gl} (rF : Int32 → Mem → Int32 × Mem) (rP : Int32 → Mem → Prop) {dr : Nat} (rT : ∀ (a0 : Int32) (M : Mem), rP a0 M → Ms g dr m2_readSum [.ref 1583, .ref 1560, .int a0] M (some (.int (rF a0 M).1)) ((rF a0 M).2)) (x2 : Int32) (xs0 : Int32) (M : Mem) (hp : P_2_readUnit_4 rF rP x2 xs0 M) : Rn g (dr + 6) m2_readUnit 4 [some (.ref 1583), some (.ref 1560), some (.int x2), none] [.int xs0] M (some (.int (F_2_readUnit_4 rF x2 xs0 M).1)) ((F_2_readUnit_4 rF x2 xs0 M).2) := by
  rw [F_2_readUnit_4]
  rw [P_2_readUnit_4] at hp
  refine b2_readUnit_4  (C_5_isDigit xs0 M) (by omega) ?_
  refine b2_readUnit_7  (fun h => ?_) (fun h => ?_)
  · rw [if_pos h]
    have hp := hp.1 h
    obtain ⟨hc, hp⟩ := hp
    refine b2_readUnit_32  (C_5_peek  M hc) (by omega) ?_
    exact T_2_readUnit_36 rF rP rT x2 ((F_5_peek_0 FU M).1) ((F_5_peek_0 FU M).2) hp
  · rw [if_neg h]
    have hp := hp.2 h
    obtain ⟨hc, hp⟩ := hp
    refine b2_readUnit_10  (C_5_needsNumber 999 M hc) (by omega) ?_
    exact T_2_readUnit_17 rF rP rT ((F_5_needsNumber_0 999 M).1) ((F_5_needsNumber_0 999 M).2) hp
def F_2_readUnit_0 (rF : Int32 → Mem → Int32 × Mem) (x2 : Int32) (M : Mem) : Int32 × Mem := F_2_readUnit_4 rF x2 ((F_5_peek_0 FU M).1) ((F_5_peek_0 FU M).2)
def P_2_readUnit_0 (rF : Int32 → Mem → Int32 × Mem) (rP : Int32 → Mem → Prop) (x2 : Int32) (M : Mem) : Prop := ((P_5_peek_0 FU M) ∧ (P_2_readUnit_4 rF rP x2 ((F_5_peek_0 FU M).1) ((F_5_peek_0 FU M).2)))
theorem T_2_readUnit_0 {g : Gl} (rF : Int32 → Mem → Int32 × Mem) (rP : Int32 → Mem → Prop) {dr : Nat} (rT : ∀ (a0 : Int32) (M : Mem), rP a0 M → Ms g dr m2_readSum [.ref 1583, .ref 1560, .int a0] M (some (.int (rF a0 M).1)) ((rF a0 M).2)) (x2 : Int32) (M : Mem) (hp : P_2_readUnit_0 rF rP x2 M) : Rn g (dr + 6) m2_readUnit 0 [some (.ref 1583), some (.ref 1560), some (.int x2), none] [] M (some (.int (F_2_readUnit_0 rF x2 M).1)) ((F_2_readUnit_0 rF x2 M).2) := by
  rw [F_2_readUnit_0]
  rw [P_2_readUnit_0] at hp
  obtain ⟨hc, hp⟩ := hp
  refine b2_readUnit_0  (C_5_peek  M hc) (by omega) ?_
  exact T_2_readUnit_4 rF rP rT x2 ((F_5_peek_0 FU M).1) ((F_5_peek_0 FU M).2) hp
theorem C_2_readUnit {g : Gl} (rF : Int32 → Mem → Int32 × Mem) (rP : Int32 → Mem → Prop) {dr : Nat} (rT : ∀ (a0 : Int32) (M : Mem), rP a0 M → Ms g dr m2_readSum [.ref 1583, .ref 1560, .int a0] M (some (.int (rF a0 M).1)) ((rF a0 M).2)) (x2 : Int32) (M : Mem) (hp : P_2_readUnit_0 rF rP x2 M) : Ms g (dr + 6) m2_readUnit [.ref 1583, .ref 1560, .int x2] M (some (.int (F_2_readUnit_0 rF x2 M).1)) ((F_2_readUnit_0 rF x2 M).2) := Ms.of okM_m2_readUnit (Nat.le_of_ble_eq_true rfl) (R_wk (lc rfl (lc rfl (lc rfl (ln l0)))) (T_2_readUnit_0 rF rP rT x2 M hp))
def F_2_readProduct_92 (rF : Int32 → Mem → Int32 × Mem) (k13 : Int32 → Int32 → Mem → Int32 × Mem) (x2 : Int32) (x3 : Int32) (M : Mem) : Int32 × Mem := k13 x2 (x3 + 1) M
def P_2_readProduct_92 (rF : Int32 → Mem → Int32 × Mem) (rP : Int32 → Mem → Prop) (pk13 : Int32 → Int32 → Mem → Prop) (x2 : Int32) (x3 : Int32) (M : Mem) : Prop := (pk13 x2 (x3 + 1) M)
theorem T_2_readProduct_92 {g : Gl} (rF : Int32 → Mem → Int32 × Mem) (rP : Int32 → Mem → Prop) (k13 : Int32 → Int32 → Mem → Int32 × Mem) (pk13 : Int32 → Int32 → Mem → Prop) {dr : Nat} (rT : ∀ (a0 : Int32) (M : Mem), rP a0 M → Ms g dr m2_readSum [.ref 1583, .ref 1560, .int a0] M (some (.int (rF a0 M).1)) ((rF a0 M).2)) (ih13 : ∀ (x2 : Int32) (x3 : Int32) (M : Mem), pk13 x2 x3 M → Rn g (dr + 7) m2_readProduct 13 [some (.ref 1583), some (.ref 1560), some (.int x2), some (.int x3), none] [] M (some (.int (k13 x2 x3 M).1)) ((k13 x2 x3 M).2)) (x2 : Int32) (x3 : Int32) (M : Mem) (hp : P_2_readProduct_92 rF rP pk13 x2 x3 M) : Rn g (dr + 7) m2_readProduct 92 [some (.ref 1583), some (.ref 1560), some (.int x2), some (.int x3), none] [] M (some (.int (F_2_readProduct_92 rF k13 x2 x3 M).1)) ((F_2_readProduct_92 rF k13 x2 x3 M).2) := by
  rw [F_2_readProduct_92]
  rw [P_2_readProduct_92] at hp
  refine b2_readProduct_92  ?_
  exact ih13 x2 (x3 + 1) M hp
def F_2_readProduct_81 (rF : Int32 → Mem → Int32 × Mem) (k13 : Int32 → Int32 → Mem → Int32 × Mem) (x2 : Int32) (x3 : Int32) (x4 : Int32) (xs0 : Int32) (M : Mem) : Int32 × Mem := if xs0 = 0 then ((0, M)) else (F_2_readProduct_92 rF k13 x2 x3 (F_2_put_0 x4 M))
def P_2_readProduct_81 (rF : Int32 → Mem → Int32 × Mem) (rP : Int32 → Mem → Prop) (pk13 : Int32 → Int32 → Mem → Prop) (x2 : Int32) (x3 : Int32) (x4 : Int32) (xs0 : Int32) (M : Mem) : Prop := ((¬ xs0 = 0 → ((P_2_put_0 x4 M) ∧ (P_2_readProduct_92 rF rP pk13 x2 x3 (F_2_put_0 x4 M)))) ∧ (xs0 = 0 → True))
theorem T_2_readProduct_81 {g : Gl} (rF : Int32 → Mem → Int32 × Mem) (rP : Int32 → Mem → Prop) (k13 : Int32 → Int32 → Mem → Int32 × Mem) (pk13 : Int32 → Int32 → Mem → Prop) {dr : Nat} (rT : ∀ (a0 : Int32) (M : Mem), rP a0 M → Ms g dr m2_readSum [.ref 1583, .ref 1560, .int a0] M (some (.int (rF a0 M).1)) ((rF a0 M).2)) (ih13 : ∀ (x2 : Int32) (x3 : Int32) (M : Mem), pk13 x2 x3 M → Rn g (dr + 7) m2_readProduct 13 [some (.ref 1583), some (.ref 1560), some (.int x2), some (.int x3), none] [] M (some (.int (k13 x2 x3 M).1)) ((k13 x2 x3 M).2)) (x2 : Int32) (x3 : Int32) (x4 : Int32) (xs0 : Int32) (M : Mem) (hp : P_2_readProduct_81 rF rP pk13 x2 x3 x4 xs0 M) : Rn g (dr + 7) m2_readProduct 81 [some (.ref 1583), some (.ref 1560), some (.int x2), some (.int x3), some (.int x4)] [.int xs0] M (some (.int (F_2_readProduct_81 rF k13 x2 x3 x4 xs0 M).1)) ((F_2_readProduct_81 rF k13 x2 x3 x4 xs0 M).2) := by
  rw [F_2_readProduct_81]
  rw [P_2_readProduct_81] at hp
  refine b2_readProduct_81  (fun h => ?_) (fun h => ?_)
  · rw [if_neg h]
    have hp := hp.1 h
    obtain ⟨hc, hp⟩ := hp
    refine b2_readProduct_86  (C_2_put x4 M hc) (by omega) ?_
    exact T_2_readProduct_92 rF rP k13 pk13 rT ih13 x2 x3 (F_2_put_0 x4 M) hp
  · rw [if_pos h]
    exact b2_readProduct_84  rfl rfl
def F_2_readProduct_64 (rF : Int32 → Mem → Int32 × Mem) (k13 : Int32 → Int32 → Mem → Int32 × Mem) (x2 : Int32) (x3 : Int32) (xs0 : Int32) (M : Mem) : Int32 × Mem := if xs0 = (-16) then ((1, M)) else (F_2_readProduct_81 rF k13 x2 x3 xs0 ((F_2_readUnit_0 rF x2 M).1) ((F_2_readUnit_0 rF x2 M).2))
def P_2_readProduct_64 (rF : Int32 → Mem → Int32 × Mem) (rP : Int32 → Mem → Prop) (pk13 : Int32 → Int32 → Mem → Prop) (x2 : Int32) (x3 : Int32) (xs0 : Int32) (M : Mem) : Prop := ((¬ xs0 = (-16) → ((P_2_readUnit_0 rF rP x2 M) ∧ (P_2_readProduct_81 rF rP pk13 x2 x3 xs0 ((F_2_readUnit_0 rF x2 M).1) ((F_2_readUnit_0 rF x2 M).2)))) ∧ (xs0 = (-16) → True))
theorem T_2_readProduct_64 {g : Gl} (rF : Int32 → Mem → Int32 × Mem) (rP : Int32 → Mem → Prop) (k13 : Int32 → Int32 → Mem → Int32 × Mem) (pk13 : Int32 → Int32 → Mem → Prop) {dr : Nat} (rT : ∀ (a0 : Int32) (M : Mem), rP a0 M → Ms g dr m2_readSum [.ref 1583, .ref 1560, .int a0] M (some (.int (rF a0 M).1)) ((rF a0 M).2)) (ih13 : ∀ (x2 : Int32) (x3 : Int32) (M : Mem), pk13 x2 x3 M → Rn g (dr + 7) m2_readProduct 13 [some (.ref 1583), some (.ref 1560), some (.int x2), some (.int x3), none] [] M (some (.int (k13 x2 x3 M).1)) ((k13 x2 x3 M).2)) (x2 : Int32) (x3 : Int32) (xs0 : Int32) (M : Mem) (hp : P_2_readProduct_64 rF rP pk13 x2 x3 xs0 M) : Rn g (dr + 7) m2_readProduct 64 [some (.ref 1583), some (.ref 1560), some (.int x2), some (.int x3), none] [.int xs0] M (some (.int (F_2_readProduct_64 rF k13 x2 x3 xs0 M).1)) ((F_2_readProduct_64 rF k13 x2 x3 xs0 M).2) := by
  rw [F_2_readProduct_64]
  rw [P_2_readProduct_64] at hp
  refine b2_readProduct_64  (fun h => ?_) (fun h => ?_)
  · rw [if_neg h]
    have hp := hp.1 h
    obtain ⟨hc, hp⟩ := hp
    refine b2_readProduct_75  (C_2_readUnit rF rP rT x2 M hc) (by omega) ?_
    exact T_2_readProduct_81 rF rP k13 pk13 rT ih13 x2 x3 xs0 ((F_2_readUnit_0 rF x2 M).1) ((F_2_readUnit_0 rF x2 M).2) hp
  · rw [if_pos h]
    exact b2_readProduct_73  rfl rfl
def F_2_readProduct_54 (rF : Int32 → Mem → Int32 × Mem) (k13 : Int32 → Int32 → Mem → Int32 × Mem) (x2 : Int32) (x3 : Int32) (xs0 : Int32) (M : Mem) : Int32 × Mem := if xs0 = 0 then (F_2_readProduct_64 rF k13 x2 x3 (-16) M) else (F_2_readProduct_64 rF k13 x2 x3 (-15) M)
def P_2_readProduct_54 (rF : Int32 → Mem → Int32 × Mem) (rP : Int32 → Mem → Prop) (pk13 : Int32 → Int32 → Mem → Prop) (x2 : Int32) (x3 : Int32) (xs0 : Int32) (M : Mem) : Prop := ((xs0 = 0 → (P_2_readProduct_64 rF rP pk13 x2 x3 (-16) M)) ∧ (¬ xs0 = 0 → (P_2_readProduct_64 rF rP pk13 x2 x3 (-15) M)))
theorem T_2_readProduct_54 {g : Gl} (rF : Int32 → Mem → Int32 × Mem) (rP : Int32 → Mem → Prop) (k13 : Int32 → Int32 → Mem → Int32 × Mem) (pk13 : Int32 → Int32 → Mem → Prop) {dr : Nat} (rT : ∀ (a0 : Int32) (M : Mem), rP a0 M → Ms g dr m2_readSum [.ref 1583, .ref 1560, .int a0] M (some (.int (rF a0 M).1)) ((rF a0 M).2)) (ih13 : ∀ (x2 : Int32) (x3 : Int32) (M : Mem), pk13 x2 x3 M → Rn g (dr + 7) m2_readProduct 13 [some (.ref 1583), some (.ref 1560), some (.int x2), some (.int x3), none] [] M (some (.int (k13 x2 x3 M).1)) ((k13 x2 x3 M).2)) (x2 : Int32) (x3 : Int32) (xs0 : Int32) (M : Mem) (hp : P_2_readProduct_54 rF rP pk13 x2 x3 xs0 M) : Rn g (dr + 7) m2_readProduct 54 [some (.ref 1583), some (.ref 1560), some (.int x2), some (.int x3), none] [.int xs0] M (some (.int (F_2_readProduct_54 rF k13 x2 x3 xs0 M).1)) ((F_2_readProduct_54 rF k13 x2 x3 xs0 M).2) := by
  rw [F_2_readProduct_54]
  rw [P_2_readProduct_54] at hp
  refine b2_readProduct_54  (fun h => ?_) (fun h => ?_)
  · rw [if_pos h]
    have hp := hp.1 h
    refine b2_readProduct_62  ?_
    exact T_2_readProduct_64 rF rP k13 pk13 rT ih13 x2 x3 (-16) M hp
  · rw [if_neg h]
    have hp := hp.2 h
    refine b2_readProduct_57  ?_
    exact T_2_readProduct_64 rF rP k13 pk13 rT ih13 x2 x3 (-15) M hp
def F_2_readProduct_40 (rF : Int32 → Mem → Int32 × Mem) (k13 : Int32 → Int32 → Mem → Int32 × Mem) (x2 : Int32) (x3 : Int32) (xs0 : Int32) (M : Mem) : Int32 × Mem := if xs0 = 0 then (F_2_readProduct_54 rF k13 x2 x3 ((F_5_takes_0 37 M).1) ((F_5_takes_0 37 M).2)) else (F_2_readProduct_64 rF k13 x2 x3 (-14) M)
def P_2_readProduct_40 (rF : Int32 → Mem → Int32 × Mem) (rP : Int32 → Mem → Prop) (pk13 : Int32 → Int32 → Mem → Prop) (x2 : Int32) (x3 : Int32) (xs0 : Int32) (M : Mem) : Prop := ((xs0 = 0 → ((P_5_takes_0 37 M) ∧ (P_2_readProduct_54 rF rP pk13 x2 x3 ((F_5_takes_0 37 M).1) ((F_5_takes_0 37 M).2)))) ∧ (¬ xs0 = 0 → (P_2_readProduct_64 rF rP pk13 x2 x3 (-14) M)))
theorem T_2_readProduct_40 {g : Gl} (rF : Int32 → Mem → Int32 × Mem) (rP : Int32 → Mem → Prop) (k13 : Int32 → Int32 → Mem → Int32 × Mem) (pk13 : Int32 → Int32 → Mem → Prop) {dr : Nat} (rT : ∀ (a0 : Int32) (M : Mem), rP a0 M → Ms g dr m2_readSum [.ref 1583, .ref 1560, .int a0] M (some (.int (rF a0 M).1)) ((rF a0 M).2)) (ih13 : ∀ (x2 : Int32) (x3 : Int32) (M : Mem), pk13 x2 x3 M → Rn g (dr + 7) m2_readProduct 13 [some (.ref 1583), some (.ref 1560), some (.int x2), some (.int x3), none] [] M (some (.int (k13 x2 x3 M).1)) ((k13 x2 x3 M).2)) (x2 : Int32) (x3 : Int32) (xs0 : Int32) (M : Mem) (hp : P_2_readProduct_40 rF rP pk13 x2 x3 xs0 M) : Rn g (dr + 7) m2_readProduct 40 [some (.ref 1583), some (.ref 1560), some (.int x2), some (.int x3), none] [.int xs0] M (some (.int (F_2_readProduct_40 rF k13 x2 x3 xs0 M).1)) ((F_2_readProduct_40 rF k13 x2 x3 xs0 M).2) := by
  rw [F_2_readProduct_40]
  rw [P_2_readProduct_40] at hp
  refine b2_readProduct_40  (fun h => ?_) (fun h => ?_)
  · rw [if_pos h]
    have hp := hp.1 h
    obtain ⟨hc, hp⟩ := hp
    refine b2_readProduct_48  (C_5_takes 37 M hc) (by omega) ?_
    exact T_2_readProduct_54 rF rP k13 pk13 rT ih13 x2 x3 ((F_5_takes_0 37 M).1) ((F_5_takes_0 37 M).2) hp
  · rw [if_neg h]
    have hp := hp.2 h
    refine b2_readProduct_43  ?_
    exact T_2_readProduct_64 rF rP k13 pk13 rT ih13 x2 x3 (-14) M hp
def F_2_readProduct_26 (rF : Int32 → Mem → Int32 × Mem) (k13 : Int32 → Int32 → Mem → Int32 × Mem) (x2 : Int32) (x3 : Int32) (xs0 : Int32) (M : Mem) : Int32 × Mem := if xs0 = 0 then (F_2_readProduct_40 rF k13 x2 x3 ((F_5_takes_0 47 M).1) ((F_5_takes_0 47 M).2)) else (F_2_readProduct_64 rF k13 x2 x3 (-13) M)
def P_2_readProduct_26 (rF : Int32 → Mem → Int32 × Mem) (rP : Int32 → Mem → Prop) (pk13 : Int32 → Int32 → Mem → Prop) (x2 : Int32) (x3 : Int32) (xs0 : Int32) (M : Mem) : Prop := ((xs0 = 0 → ((P_5_takes_0 47 M) ∧ (P_2_readProduct_40 rF rP pk13 x2 x3 ((F_5_takes_0 47 M).1) ((F_5_takes_0 47 M).2)))) ∧ (¬ xs0 = 0 → (P_2_readProduct_64 rF rP pk13 x2 x3 (-13) M)))
theorem T_2_readProduct_26 {g : Gl} (rF : Int32 → Mem → Int32 × Mem) (rP : Int32 → Mem → Prop) (k13 : Int32 → Int32 → Mem → Int32 × Mem) (pk13 : Int32 → Int32 → Mem → Prop) {dr : Nat} (rT : ∀ (a0 : Int32) (M : Mem), rP a0 M → Ms g dr m2_readSum [.ref 1583, .ref 1560, .int a0] M (some (.int (rF a0 M).1)) ((rF a0 M).2)) (ih13 : ∀ (x2 : Int32) (x3 : Int32) (M : Mem), pk13 x2 x3 M → Rn g (dr + 7) m2_readProduct 13 [some (.ref 1583), some (.ref 1560), some (.int x2), some (.int x3), none] [] M (some (.int (k13 x2 x3 M).1)) ((k13 x2 x3 M).2)) (x2 : Int32) (x3 : Int32) (xs0 : Int32) (M : Mem) (hp : P_2_readProduct_26 rF rP pk13 x2 x3 xs0 M) : Rn g (dr + 7) m2_readProduct 26 [some (.ref 1583), some (.ref 1560), some (.int x2), some (.int x3), none] [.int xs0] M (some (.int (F_2_readProduct_26 rF k13 x2 x3 xs0 M).1)) ((F_2_readProduct_26 rF k13 x2 x3 xs0 M).2) := by
  rw [F_2_readProduct_26]
  rw [P_2_readProduct_26] at hp
  refine b2_readProduct_26  (fun h => ?_) (fun h => ?_)
  · rw [if_pos h]
    have hp := hp.1 h
    obtain ⟨hc, hp⟩ := hp
    refine b2_readProduct_34  (C_5_takes 47 M hc) (by omega) ?_
    exact T_2_readProduct_40 rF rP k13 pk13 rT ih13 x2 x3 ((F_5_takes_0 47 M).1) ((F_5_takes_0 47 M).2) hp
  · rw [if_neg h]
    have hp := hp.2 h
    refine b2_readProduct_29  ?_
    exact T_2_readProduct_64 rF rP k13 pk13 rT ih13 x2 x3 (-13) M hp
def F_2_readProduct_13 (rF : Int32 → Mem → Int32 × Mem) : Nat → Int32 → Int32 → Mem → Int32 × Mem
  | 0, _, _, M => (0, M)
  | n + 1, x2, x3, M => if (150 : Int32) ≤ x3 then ((1, M)) else (F_2_readProduct_26 rF (F_2_readProduct_13 rF n) x2 x3 ((F_5_takes_0 42 M).1) ((F_5_takes_0 42 M).2))
def P_2_readProduct_13 (rF : Int32 → Mem → Int32 × Mem) (rP : Int32 → Mem → Prop) : Nat → Int32 → Int32 → Mem → Prop
  | 0, _, _, _ => False
  | n + 1, x2, x3, M => (((150 : Int32) ≤ x3 → True) ∧ (¬ (150 : Int32) ≤ x3 → ((P_5_takes_0 42 M) ∧ (P_2_readProduct_26 rF rP (P_2_readProduct_13 rF rP n) x2 x3 ((F_5_takes_0 42 M).1) ((F_5_takes_0 42 M).2)))))
theorem T_2_readProduct_13 {g : Gl} (rF : Int32 → Mem → Int32 × Mem) (rP : Int32 → Mem → Prop) {dr : Nat} (rT : ∀ (a0 : Int32) (M : Mem), rP a0 M → Ms g dr m2_readSum [.ref 1583, .ref 1560, .int a0] M (some (.int (rF a0 M).1)) ((rF a0 M).2)) : ∀ (n : Nat) (x2 : Int32) (x3 : Int32) (M : Mem) (hp : P_2_readProduct_13 rF rP n x2 x3 M), Rn g (dr + 7) m2_readProduct 13 [some (.ref 1583), some (.ref 1560), some (.int x2), some (.int x3), none] [] M (some (.int (F_2_readProduct_13 rF n x2 x3 M).1)) ((F_2_readProduct_13 rF n x2 x3 M).2) := by
  intro n
  induction n with
  | zero => intro x2 x3 M hp; exact hp.elim
  | succ n ih =>
    intro x2 x3 M hp
    rw [F_2_readProduct_13]
    rw [P_2_readProduct_13] at hp
    refine b2_readProduct_13  (fun h => ?_) (fun h => ?_)
    · rw [if_pos h]
      exact b2_readProduct_98  rfl rfl
    · rw [if_neg h]
      have hp := hp.2 h
      obtain ⟨hc, hp⟩ := hp
      refine b2_readProduct_20  (C_5_takes 42 M hc) (by omega) ?_
      exact T_2_readProduct_26 rF rP (F_2_readProduct_13 rF n) (P_2_readProduct_13 rF rP n) rT ih x2 x3 ((F_5_takes_0 42 M).1) ((F_5_takes_0 42 M).2) hp
def F_2_readProduct_6 (rF : Int32 → Mem → Int32 × Mem) (x2 : Int32) (xs0 : Int32) (M : Mem) : Int32 × Mem := if xs0 = 0 then ((0, M)) else (F_2_readProduct_13 rF FU x2 0 M)
def P_2_readProduct_6 (rF : Int32 → Mem → Int32 × Mem) (rP : Int32 → Mem → Prop) (x2 : Int32) (xs0 : Int32) (M : Mem) : Prop := ((¬ xs0 = 0 → (P_2_readProduct_13 rF rP FU x2 0 M)) ∧ (xs0 = 0 → True))
theorem T_2_readProduct_6 {g : Gl} (rF : Int32 → Mem → Int32 × Mem) (rP : Int32 → Mem → Prop) {dr : Nat} (rT : ∀ (a0 : Int32) (M : Mem), rP a0 M → Ms g dr m2_readSum [.ref 1583, .ref 1560, .int a0] M (some (.int (rF a0 M).1)) ((rF a0 M).2)) (x2 : Int32) (xs0 : Int32) (M : Mem) (hp : P_2_readProduct_6 rF rP x2 xs0 M) : Rn g (dr + 7) m2_readProduct 6 [some (.ref 1583), some (.ref 1560), some (.int x2), none, none] [.int xs0] M (some (.int (F_2_readProduct_6 rF x2 xs0 M).1)) ((F_2_readProduct_6 rF x2 xs0 M).2) := by
  rw [F_2_readProduct_6]
  rw [P_2_readProduct_6] at hp
  refine b2_readProduct_6  (fun h => ?_) (fun h => ?_)
  · rw [if_neg h]
    have hp := hp.1 h
    refine b2_readProduct_11  ?_
    exact T_2_readProduct_13 rF rP rT FU x2 0 M hp
  · rw [if_pos h]
    exact b2_readProduct_9  rfl rfl
def F_2_readProduct_0 (rF : Int32 → Mem → Int32 × Mem) (x2 : Int32) (M : Mem) : Int32 × Mem := F_2_readProduct_6 rF x2 ((F_2_readUnit_0 rF x2 M).1) ((F_2_readUnit_0 rF x2 M).2)
def P_2_readProduct_0 (rF : Int32 → Mem → Int32 × Mem) (rP : Int32 → Mem → Prop) (x2 : Int32) (M : Mem) : Prop := ((P_2_readUnit_0 rF rP x2 M) ∧ (P_2_readProduct_6 rF rP x2 ((F_2_readUnit_0 rF x2 M).1) ((F_2_readUnit_0 rF x2 M).2)))
theorem T_2_readProduct_0 {g : Gl} (rF : Int32 → Mem → Int32 × Mem) (rP : Int32 → Mem → Prop) {dr : Nat} (rT : ∀ (a0 : Int32) (M : Mem), rP a0 M → Ms g dr m2_readSum [.ref 1583, .ref 1560, .int a0] M (some (.int (rF a0 M).1)) ((rF a0 M).2)) (x2 : Int32) (M : Mem) (hp : P_2_readProduct_0 rF rP x2 M) : Rn g (dr + 7) m2_readProduct 0 [some (.ref 1583), some (.ref 1560), some (.int x2), none, none] [] M (some (.int (F_2_readProduct_0 rF x2 M).1)) ((F_2_readProduct_0 rF x2 M).2) := by
  rw [F_2_readProduct_0]
  rw [P_2_readProduct_0] at hp
  obtain ⟨hc, hp⟩ := hp
  refine b2_readProduct_0  (C_2_readUnit rF rP rT x2 M hc) (by omega) ?_
  exact T_2_readProduct_6 rF rP rT x2 ((F_2_readUnit_0 rF x2 M).1) ((F_2_readUnit_0 rF x2 M).2) hp
theorem C_2_readProduct {g : Gl} (rF : Int32 → Mem → Int32 × Mem) (rP : Int32 → Mem → Prop) {dr : Nat} (rT : ∀ (a0 : Int32) (M : Mem), rP a0 M → Ms g dr m2_readSum [.ref 1583, .ref 1560, .int a0] M (some (.int (rF a0 M).1)) ((rF a0 M).2)) (x2 : Int32) (M : Mem) (hp : P_2_readProduct_0 rF rP x2 M) : Ms g (dr + 7) m2_readProduct [.ref 1583, .ref 1560, .int x2] M (some (.int (F_2_readProduct_0 rF x2 M).1)) ((F_2_readProduct_0 rF x2 M).2) := Ms.of okM_m2_readProduct (Nat.le_of_ble_eq_true rfl) (R_wk (lc rfl (lc rfl (lc rfl (ln (ln l0))))) (T_2_readProduct_0 rF rP rT x2 M hp))
def F_2_readSum_78 (rF : Int32 → Mem → Int32 × Mem) (k13 : Int32 → Int32 → Mem → Int32 × Mem) (x2 : Int32) (x3 : Int32) (M : Mem) : Int32 × Mem := k13 x2 (x3 + 1) M
def P_2_readSum_78 (rF : Int32 → Mem → Int32 × Mem) (rP : Int32 → Mem → Prop) (pk13 : Int32 → Int32 → Mem → Prop) (x2 : Int32) (x3 : Int32) (M : Mem) : Prop := (pk13 x2 (x3 + 1) M)
theorem T_2_readSum_78 {g : Gl} (rF : Int32 → Mem → Int32 × Mem) (rP : Int32 → Mem → Prop) (k13 : Int32 → Int32 → Mem → Int32 × Mem) (pk13 : Int32 → Int32 → Mem → Prop) {dr : Nat} (rT : ∀ (a0 : Int32) (M : Mem), rP a0 M → Ms g dr m2_readSum [.ref 1583, .ref 1560, .int a0] M (some (.int (rF a0 M).1)) ((rF a0 M).2)) (ih13 : ∀ (x2 : Int32) (x3 : Int32) (M : Mem), pk13 x2 x3 M → Rn g (dr + 8) m2_readSum 13 [some (.ref 1583), some (.ref 1560), some (.int x2), some (.int x3), none] [] M (some (.int (k13 x2 x3 M).1)) ((k13 x2 x3 M).2)) (x2 : Int32) (x3 : Int32) (M : Mem) (hp : P_2_readSum_78 rF rP pk13 x2 x3 M) : Rn g (dr + 8) m2_readSum 78 [some (.ref 1583), some (.ref 1560), some (.int x2), some (.int x3), none] [] M (some (.int (F_2_readSum_78 rF k13 x2 x3 M).1)) ((F_2_readSum_78 rF k13 x2 x3 M).2) := by
  rw [F_2_readSum_78]
  rw [P_2_readSum_78] at hp
  refine b2_readSum_78  ?_
  exact ih13 x2 (x3 + 1) M hp
def F_2_readSum_67 (rF : Int32 → Mem → Int32 × Mem) (k13 : Int32 → Int32 → Mem → Int32 × Mem) (x2 : Int32) (x3 : Int32) (x4 : Int32) (xs0 : Int32) (M : Mem) : Int32 × Mem := if xs0 = 0 then ((0, M)) else (F_2_readSum_78 rF k13 x2 x3 (F_2_put_0 x4 M))
def P_2_readSum_67 (rF : Int32 → Mem → Int32 × Mem) (rP : Int32 → Mem → Prop) (pk13 : Int32 → Int32 → Mem → Prop) (x2 : Int32) (x3 : Int32) (x4 : Int32) (xs0 : Int32) (M : Mem) : Prop := ((¬ xs0 = 0 → ((P_2_put_0 x4 M) ∧ (P_2_readSum_78 rF rP pk13 x2 x3 (F_2_put_0 x4 M)))) ∧ (xs0 = 0 → True))
theorem T_2_readSum_67 {g : Gl} (rF : Int32 → Mem → Int32 × Mem) (rP : Int32 → Mem → Prop) (k13 : Int32 → Int32 → Mem → Int32 × Mem) (pk13 : Int32 → Int32 → Mem → Prop) {dr : Nat} (rT : ∀ (a0 : Int32) (M : Mem), rP a0 M → Ms g dr m2_readSum [.ref 1583, .ref 1560, .int a0] M (some (.int (rF a0 M).1)) ((rF a0 M).2)) (ih13 : ∀ (x2 : Int32) (x3 : Int32) (M : Mem), pk13 x2 x3 M → Rn g (dr + 8) m2_readSum 13 [some (.ref 1583), some (.ref 1560), some (.int x2), some (.int x3), none] [] M (some (.int (k13 x2 x3 M).1)) ((k13 x2 x3 M).2)) (x2 : Int32) (x3 : Int32) (x4 : Int32) (xs0 : Int32) (M : Mem) (hp : P_2_readSum_67 rF rP pk13 x2 x3 x4 xs0 M) : Rn g (dr + 8) m2_readSum 67 [some (.ref 1583), some (.ref 1560), some (.int x2), some (.int x3), some (.int x4)] [.int xs0] M (some (.int (F_2_readSum_67 rF k13 x2 x3 x4 xs0 M).1)) ((F_2_readSum_67 rF k13 x2 x3 x4 xs0 M).2) := by
  rw [F_2_readSum_67]
  rw [P_2_readSum_67] at hp
  refine b2_readSum_67  (fun h => ?_) (fun h => ?_)
  · rw [if_neg h]
    have hp := hp.1 h
    obtain ⟨hc, hp⟩ := hp
    refine b2_readSum_72  (C_2_put x4 M hc) (by omega) ?_
    exact T_2_readSum_78 rF rP k13 pk13 rT ih13 x2 x3 (F_2_put_0 x4 M) hp
  · rw [if_pos h]
    exact b2_readSum_70  rfl rfl
def F_2_readSum_50 (rF : Int32 → Mem → Int32 × Mem) (k13 : Int32 → Int32 → Mem → Int32 × Mem) (x2 : Int32) (x3 : Int32) (xs0 : Int32) (M : Mem) : Int32 × Mem := if xs0 = (-16) then ((1, M)) else (F_2_readSum_67 rF k13 x2 x3 xs0 ((F_2_readProduct_0 rF x2 M).1) ((F_2_readProduct_0 rF x2 M).2))
def P_2_readSum_50 (rF : Int32 → Mem → Int32 × Mem) (rP : Int32 → Mem → Prop) (pk13 : Int32 → Int32 → Mem → Prop) (x2 : Int32) (x3 : Int32) (xs0 : Int32) (M : Mem) : Prop := ((¬ xs0 = (-16) → ((P_2_readProduct_0 rF rP x2 M) ∧ (P_2_readSum_67 rF rP pk13 x2 x3 xs0 ((F_2_readProduct_0 rF x2 M).1) ((F_2_readProduct_0 rF x2 M).2)))) ∧ (xs0 = (-16) → True))
theorem T_2_readSum_50 {g : Gl} (rF : Int32 → Mem → Int32 × Mem) (rP : Int32 → Mem → Prop) (k13 : Int32 → Int32 → Mem → Int32 × Mem) (pk13 : Int32 → Int32 → Mem → Prop) {dr : Nat} (rT : ∀ (a0 : Int32) (M : Mem), rP a0 M → Ms g dr m2_readSum [.ref 1583, .ref 1560, .int a0] M (some (.int (rF a0 M).1)) ((rF a0 M).2)) (ih13 : ∀ (x2 : Int32) (x3 : Int32) (M : Mem), pk13 x2 x3 M → Rn g (dr + 8) m2_readSum 13 [some (.ref 1583), some (.ref 1560), some (.int x2), some (.int x3), none] [] M (some (.int (k13 x2 x3 M).1)) ((k13 x2 x3 M).2)) (x2 : Int32) (x3 : Int32) (xs0 : Int32) (M : Mem) (hp : P_2_readSum_50 rF rP pk13 x2 x3 xs0 M) : Rn g (dr + 8) m2_readSum 50 [some (.ref 1583), some (.ref 1560), some (.int x2), some (.int x3), none] [.int xs0] M (some (.int (F_2_readSum_50 rF k13 x2 x3 xs0 M).1)) ((F_2_readSum_50 rF k13 x2 x3 xs0 M).2) := by
  rw [F_2_readSum_50]
  rw [P_2_readSum_50] at hp
  refine b2_readSum_50  (fun h => ?_) (fun h => ?_)
  · rw [if_neg h]
    have hp := hp.1 h
    obtain ⟨hc, hp⟩ := hp
    refine b2_readSum_61  (C_2_readProduct rF rP rT x2 M hc) (by omega) ?_
    exact T_2_readSum_67 rF rP k13 pk13 rT ih13 x2 x3 xs0 ((F_2_readProduct_0 rF x2 M).1) ((F_2_readProduct_0 rF x2 M).2) hp
  · rw [if_pos h]
    exact b2_readSum_59  rfl rfl
def F_2_readSum_40 (rF : Int32 → Mem → Int32 × Mem) (k13 : Int32 → Int32 → Mem → Int32 × Mem) (x2 : Int32) (x3 : Int32) (xs0 : Int32) (M : Mem) : Int32 × Mem := if xs0 = 0 then (F_2_readSum_50 rF k13 x2 x3 (-16) M) else (F_2_readSum_50 rF k13 x2 x3 (-12) M)
def P_2_readSum_40 (rF : Int32 → Mem → Int32 × Mem) (rP : Int32 → Mem → Prop) (pk13 : Int32 → Int32 → Mem → Prop) (x2 : Int32) (x3 : Int32) (xs0 : Int32) (M : Mem) : Prop := ((xs0 = 0 → (P_2_readSum_50 rF rP pk13 x2 x3 (-16) M)) ∧ (¬ xs0 = 0 → (P_2_readSum_50 rF rP pk13 x2 x3 (-12) M)))
theorem T_2_readSum_40 {g : Gl} (rF : Int32 → Mem → Int32 × Mem) (rP : Int32 → Mem → Prop) (k13 : Int32 → Int32 → Mem → Int32 × Mem) (pk13 : Int32 → Int32 → Mem → Prop) {dr : Nat} (rT : ∀ (a0 : Int32) (M : Mem), rP a0 M → Ms g dr m2_readSum [.ref 1583, .ref 1560, .int a0] M (some (.int (rF a0 M).1)) ((rF a0 M).2)) (ih13 : ∀ (x2 : Int32) (x3 : Int32) (M : Mem), pk13 x2 x3 M → Rn g (dr + 8) m2_readSum 13 [some (.ref 1583), some (.ref 1560), some (.int x2), some (.int x3), none] [] M (some (.int (k13 x2 x3 M).1)) ((k13 x2 x3 M).2)) (x2 : Int32) (x3 : Int32) (xs0 : Int32) (M : Mem) (hp : P_2_readSum_40 rF rP pk13 x2 x3 xs0 M) : Rn g (dr + 8) m2_readSum 40 [some (.ref 1583), some (.ref 1560), some (.int x2), some (.int x3), none] [.int xs0] M (some (.int (F_2_readSum_40 rF k13 x2 x3 xs0 M).1)) ((F_2_readSum_40 rF k13 x2 x3 xs0 M).2) := by
  rw [F_2_readSum_40]
  rw [P_2_readSum_40] at hp
  refine b2_readSum_40  (fun h => ?_) (fun h => ?_)
  · rw [if_pos h]
    have hp := hp.1 h
    refine b2_readSum_48  ?_
    exact T_2_readSum_50 rF rP k13 pk13 rT ih13 x2 x3 (-16) M hp
  · rw [if_neg h]
    have hp := hp.2 h
    refine b2_readSum_43  ?_
    exact T_2_readSum_50 rF rP k13 pk13 rT ih13 x2 x3 (-12) M hp
def F_2_readSum_26 (rF : Int32 → Mem → Int32 × Mem) (k13 : Int32 → Int32 → Mem → Int32 × Mem) (x2 : Int32) (x3 : Int32) (xs0 : Int32) (M : Mem) : Int32 × Mem := if xs0 = 0 then (F_2_readSum_40 rF k13 x2 x3 ((F_5_takes_0 45 M).1) ((F_5_takes_0 45 M).2)) else (F_2_readSum_50 rF k13 x2 x3 (-11) M)
def P_2_readSum_26 (rF : Int32 → Mem → Int32 × Mem) (rP : Int32 → Mem → Prop) (pk13 : Int32 → Int32 → Mem → Prop) (x2 : Int32) (x3 : Int32) (xs0 : Int32) (M : Mem) : Prop := ((xs0 = 0 → ((P_5_takes_0 45 M) ∧ (P_2_readSum_40 rF rP pk13 x2 x3 ((F_5_takes_0 45 M).1) ((F_5_takes_0 45 M).2)))) ∧ (¬ xs0 = 0 → (P_2_readSum_50 rF rP pk13 x2 x3 (-11) M)))
theorem T_2_readSum_26 {g : Gl} (rF : Int32 → Mem → Int32 × Mem) (rP : Int32 → Mem → Prop) (k13 : Int32 → Int32 → Mem → Int32 × Mem) (pk13 : Int32 → Int32 → Mem → Prop) {dr : Nat} (rT : ∀ (a0 : Int32) (M : Mem), rP a0 M → Ms g dr m2_readSum [.ref 1583, .ref 1560, .int a0] M (some (.int (rF a0 M).1)) ((rF a0 M).2)) (ih13 : ∀ (x2 : Int32) (x3 : Int32) (M : Mem), pk13 x2 x3 M → Rn g (dr + 8) m2_readSum 13 [some (.ref 1583), some (.ref 1560), some (.int x2), some (.int x3), none] [] M (some (.int (k13 x2 x3 M).1)) ((k13 x2 x3 M).2)) (x2 : Int32) (x3 : Int32) (xs0 : Int32) (M : Mem) (hp : P_2_readSum_26 rF rP pk13 x2 x3 xs0 M) : Rn g (dr + 8) m2_readSum 26 [some (.ref 1583), some (.ref 1560), some (.int x2), some (.int x3), none] [.int xs0] M (some (.int (F_2_readSum_26 rF k13 x2 x3 xs0 M).1)) ((F_2_readSum_26 rF k13 x2 x3 xs0 M).2) := by
  rw [F_2_readSum_26]
  rw [P_2_readSum_26] at hp
  refine b2_readSum_26  (fun h => ?_) (fun h => ?_)
  · rw [if_pos h]
    have hp := hp.1 h
    obtain ⟨hc, hp⟩ := hp
    refine b2_readSum_34  (C_5_takes 45 M hc) (by omega) ?_
    exact T_2_readSum_40 rF rP k13 pk13 rT ih13 x2 x3 ((F_5_takes_0 45 M).1) ((F_5_takes_0 45 M).2) hp
  · rw [if_neg h]
    have hp := hp.2 h
    refine b2_readSum_29  ?_
    exact T_2_readSum_50 rF rP k13 pk13 rT ih13 x2 x3 (-11) M hp
def F_2_readSum_13 (rF : Int32 → Mem → Int32 × Mem) : Nat → Int32 → Int32 → Mem → Int32 × Mem
  | 0, _, _, M => (0, M)
  | n + 1, x2, x3, M => if (150 : Int32) ≤ x3 then ((1, M)) else (F_2_readSum_26 rF (F_2_readSum_13 rF n) x2 x3 ((F_5_takes_0 43 M).1) ((F_5_takes_0 43 M).2))
def P_2_readSum_13 (rF : Int32 → Mem → Int32 × Mem) (rP : Int32 → Mem → Prop) : Nat → Int32 → Int32 → Mem → Prop
  | 0, _, _, _ => False
  | n + 1, x2, x3, M => (((150 : Int32) ≤ x3 → True) ∧ (¬ (150 : Int32) ≤ x3 → ((P_5_takes_0 43 M) ∧ (P_2_readSum_26 rF rP (P_2_readSum_13 rF rP n) x2 x3 ((F_5_takes_0 43 M).1) ((F_5_takes_0 43 M).2)))))
theorem T_2_readSum_13 {g : Gl} (rF : Int32 → Mem → Int32 × Mem) (rP : Int32 → Mem → Prop) {dr : Nat} (rT : ∀ (a0 : Int32) (M : Mem), rP a0 M → Ms g dr m2_readSum [.ref 1583, .ref 1560, .int a0] M (some (.int (rF a0 M).1)) ((rF a0 M).2)) : ∀ (n : Nat) (x2 : Int32) (x3 : Int32) (M : Mem) (hp : P_2_readSum_13 rF rP n x2 x3 M), Rn g (dr + 8) m2_readSum 13 [some (.ref 1583), some (.ref 1560), some (.int x2), some (.int x3), none] [] M (some (.int (F_2_readSum_13 rF n x2 x3 M).1)) ((F_2_readSum_13 rF n x2 x3 M).2) := by
  intro n
  induction n with
  | zero => intro x2 x3 M hp; exact hp.elim
  | succ n ih =>
    intro x2 x3 M hp
    rw [F_2_readSum_13]
    rw [P_2_readSum_13] at hp
    refine b2_readSum_13  (fun h => ?_) (fun h => ?_)
    · rw [if_pos h]
      exact b2_readSum_84  rfl rfl
    · rw [if_neg h]
      have hp := hp.2 h
      obtain ⟨hc, hp⟩ := hp
      refine b2_readSum_20  (C_5_takes 43 M hc) (by omega) ?_
      exact T_2_readSum_26 rF rP (F_2_readSum_13 rF n) (P_2_readSum_13 rF rP n) rT ih x2 x3 ((F_5_takes_0 43 M).1) ((F_5_takes_0 43 M).2) hp
def F_2_readSum_6 (rF : Int32 → Mem → Int32 × Mem) (x2 : Int32) (xs0 : Int32) (M : Mem) : Int32 × Mem := if xs0 = 0 then ((0, M)) else (F_2_readSum_13 rF FU x2 0 M)
def P_2_readSum_6 (rF : Int32 → Mem → Int32 × Mem) (rP : Int32 → Mem → Prop) (x2 : Int32) (xs0 : Int32) (M : Mem) : Prop := ((¬ xs0 = 0 → (P_2_readSum_13 rF rP FU x2 0 M)) ∧ (xs0 = 0 → True))
theorem T_2_readSum_6 {g : Gl} (rF : Int32 → Mem → Int32 × Mem) (rP : Int32 → Mem → Prop) {dr : Nat} (rT : ∀ (a0 : Int32) (M : Mem), rP a0 M → Ms g dr m2_readSum [.ref 1583, .ref 1560, .int a0] M (some (.int (rF a0 M).1)) ((rF a0 M).2)) (x2 : Int32) (xs0 : Int32) (M : Mem) (hp : P_2_readSum_6 rF rP x2 xs0 M) : Rn g (dr + 8) m2_readSum 6 [some (.ref 1583), some (.ref 1560), some (.int x2), none, none] [.int xs0] M (some (.int (F_2_readSum_6 rF x2 xs0 M).1)) ((F_2_readSum_6 rF x2 xs0 M).2) := by
  rw [F_2_readSum_6]
  rw [P_2_readSum_6] at hp
  refine b2_readSum_6  (fun h => ?_) (fun h => ?_)
  · rw [if_neg h]
    have hp := hp.1 h
    refine b2_readSum_11  ?_
    exact T_2_readSum_13 rF rP rT FU x2 0 M hp
  · rw [if_pos h]
    exact b2_readSum_9  rfl rfl
def F_2_readSum_0 (rF : Int32 → Mem → Int32 × Mem) (x2 : Int32) (M : Mem) : Int32 × Mem := F_2_readSum_6 rF x2 ((F_2_readProduct_0 rF x2 M).1) ((F_2_readProduct_0 rF x2 M).2)
def P_2_readSum_0 (rF : Int32 → Mem → Int32 × Mem) (rP : Int32 → Mem → Prop) (x2 : Int32) (M : Mem) : Prop := ((P_2_readProduct_0 rF rP x2 M) ∧ (P_2_readSum_6 rF rP x2 ((F_2_readProduct_0 rF x2 M).1) ((F_2_readProduct_0 rF x2 M).2)))
theorem T_2_readSum_0 {g : Gl} (rF : Int32 → Mem → Int32 × Mem) (rP : Int32 → Mem → Prop) {dr : Nat} (rT : ∀ (a0 : Int32) (M : Mem), rP a0 M → Ms g dr m2_readSum [.ref 1583, .ref 1560, .int a0] M (some (.int (rF a0 M).1)) ((rF a0 M).2)) (x2 : Int32) (M : Mem) (hp : P_2_readSum_0 rF rP x2 M) : Rn g (dr + 8) m2_readSum 0 [some (.ref 1583), some (.ref 1560), some (.int x2), none, none] [] M (some (.int (F_2_readSum_0 rF x2 M).1)) ((F_2_readSum_0 rF x2 M).2) := by
  rw [F_2_readSum_0]
  rw [P_2_readSum_0] at hp
  obtain ⟨hc, hp⟩ := hp
  refine b2_readSum_0  (C_2_readProduct rF rP rT x2 M hc) (by omega) ?_
  exact T_2_readSum_6 rF rP rT x2 ((F_2_readProduct_0 rF x2 M).1) ((F_2_readProduct_0 rF x2 M).2) hp
theorem C_2_readSum {g : Gl} (rF : Int32 → Mem → Int32 × Mem) (rP : Int32 → Mem → Prop) {dr : Nat} (rT : ∀ (a0 : Int32) (M : Mem), rP a0 M → Ms g dr m2_readSum [.ref 1583, .ref 1560, .int a0] M (some (.int (rF a0 M).1)) ((rF a0 M).2)) (x2 : Int32) (M : Mem) (hp : P_2_readSum_0 rF rP x2 M) : Ms g (dr + 8) m2_readSum [.ref 1583, .ref 1560, .int x2] M (some (.int (F_2_readSum_0 rF x2 M).1)) ((F_2_readSum_0 rF x2 M).2) := Ms.of okM_m2_readSum (Nat.le_of_ble_eq_true rfl) (R_wk (lc rfl (lc rfl (lc rfl (ln (ln l0))))) (T_2_readSum_0 rF rP rT x2 M hp))
def G_2_readSum  : Nat → Int32 → Mem → Int32 × Mem
  | 0, _, M => (0, M)
  | n + 1, a0, M => F_2_readSum_0 (G_2_readSum n) a0 M
def H_2_readSum  : Nat → Int32 → Mem → Prop
  | 0, _, _ => False
  | n + 1, a0, M => P_2_readSum_0 (G_2_readSum n) (H_2_readSum n) a0 M
theorem D_2_readSum {g : Gl}  : ∀ (n : Nat) (a0 : Int32) (M : Mem), H_2_readSum n a0 M → Ms g (8 * n) m2_readSum [.ref 1583, .ref 1560, .int a0] M (some (.int (G_2_readSum n a0 M).1)) ((G_2_readSum n a0 M).2) := by
  intro n
  induction n with
  | zero => intro a0 M hp; exact hp.elim
  | succ n ih =>
    intro a0 M hp
    rw [G_2_readSum]
    rw [H_2_readSum] at hp
    exact C_2_readSum (G_2_readSum n) (H_2_readSum n) ih a0 M hp
def F_5_needsEnd_20 (M : Mem) : Int32 × Mem := (1, M)
theorem T_5_needsEnd_20 {g : Gl} (M : Mem)  : Rn g 1 m5_needsEnd 20 [none] [] M (some (.int (F_5_needsEnd_20 M).1)) ((F_5_needsEnd_20 M).2) := by
  rw [F_5_needsEnd_20]
  refine b5_needsEnd_20  ?_
  exact b5_needsEnd_25  rfl rfl rfl
def F_5_needsEnd_17 (xs0 : Int32) (M : Mem) : Int32 × Mem := if xs0 = 0 then ((0, M)) else (F_5_needsEnd_20 M)
theorem T_5_needsEnd_17 {g : Gl} (xs0 : Int32) (M : Mem)  : Rn g 1 m5_needsEnd 17 [none] [.int xs0] M (some (.int (F_5_needsEnd_17 xs0 M).1)) ((F_5_needsEnd_17 xs0 M).2) := by
  rw [F_5_needsEnd_17]
  refine b5_needsEnd_17  (fun h => ?_) (fun h => ?_)
  · rw [if_pos h]
    refine b5_needsEnd_24  ?_
    exact b5_needsEnd_25  rfl rfl rfl
  · rw [if_neg h]
    exact T_5_needsEnd_20 M
def F_5_needsEnd_4 (xs0 : Int32) (M : Mem) : Int32 × Mem := if xs0 = (-1) then (F_5_needsEnd_20 M) else (F_5_needsEnd_17 ((F_5_fail_0 1 (rd M 1560 4) M).1) ((F_5_fail_0 1 (rd M 1560 4) M).2))
theorem T_5_needsEnd_4 {g : Gl} (xs0 : Int32) (M : Mem)  : Rn g 1 m5_needsEnd 4 [some (.ref 1560)] [.int xs0] M (some (.int (F_5_needsEnd_4 xs0 M).1)) ((F_5_needsEnd_4 xs0 M).2) := by
  rw [F_5_needsEnd_4]
  refine b5_needsEnd_4  (fun h => ?_) (fun h => ?_)
  · rw [if_pos h]
    exact T_5_needsEnd_20 M
  · rw [if_neg h]
    refine b5_needsEnd_8  (C_5_fail 1 (rd M 1560 4) M) (Nat.le_of_ble_eq_true rfl) ?_
    exact T_5_needsEnd_17 ((F_5_fail_0 1 (rd M 1560 4) M).1) ((F_5_fail_0 1 (rd M 1560 4) M).2)
def F_5_needsEnd_0 (M : Mem) : Int32 × Mem := F_5_needsEnd_4 ((F_5_peek_0 FU M).1) ((F_5_peek_0 FU M).2)
def P_5_needsEnd_0 (M : Mem) : Prop := ((P_5_peek_0 FU M))
theorem T_5_needsEnd_0 {g : Gl} (M : Mem) (hp : P_5_needsEnd_0 M) : Rn g 1 m5_needsEnd 0 [some (.ref 1560)] [] M (some (.int (F_5_needsEnd_0 M).1)) ((F_5_needsEnd_0 M).2) := by
  rw [F_5_needsEnd_0]
  rw [P_5_needsEnd_0] at hp
  have hc := hp
  refine b5_needsEnd_0  (C_5_peek  M hc) (Nat.le_of_ble_eq_true rfl) ?_
  exact T_5_needsEnd_4 ((F_5_peek_0 FU M).1) ((F_5_peek_0 FU M).2)
theorem C_5_needsEnd {g : Gl}   (M : Mem) (hp : P_5_needsEnd_0 M) : Ms g 1 m5_needsEnd [.ref 1560] M (some (.int (F_5_needsEnd_0 M).1)) ((F_5_needsEnd_0 M).2) := Ms.of okM_m5_needsEnd (Nat.le_of_ble_eq_true rfl) (R_wk (lc rfl l0) (T_5_needsEnd_0 M hp))
def F_2_read_18 (xs0 : Int32) (M : Mem) : Int32 × Mem := if xs0 = 0 then ((0, M)) else ((1, wr (cpM M 1585 (0 : Int32).toNatClampNeg 1584 (0 : Int32).toNatClampNeg (rd M 1583 4).toNatClampNeg) 1583 3 (rd (cpM M 1585 (0 : Int32).toNatClampNeg 1584 (0 : Int32).toNatClampNeg (rd M 1583 4).toNatClampNeg) 1583 4)))
def P_2_read_18 (xs0 : Int32) (M : Mem) : Prop := ((¬ xs0 = 0 → (¬ (rd M 1583 4) < 0) ∧ ((0 : Int32).toNatClampNeg + (rd M 1583 4).toNatClampNeg ≤ 150)) ∧ (xs0 = 0 → True))
theorem T_2_read_18 {g : Gl} (xs0 : Int32) (M : Mem) (hp : P_2_read_18 xs0 M) : Rn g 65 m2_read 18 [some (.ref 1583), none] [.int xs0] M (some (.int (F_2_read_18 xs0 M).1)) ((F_2_read_18 xs0 M).2) := by
  rw [F_2_read_18]
  rw [P_2_read_18] at hp
  refine b2_read_18  (fun h => ?_) (fun h => ?_)
  · rw [if_neg h]
    have hp := hp.1 h
    obtain ⟨p0, p1⟩ := hp
    refine b2_read_23 p0 p1 (Nat.le_of_ble_eq_true rfl) ?_
    exact b2_read_40  rfl rfl
  · rw [if_pos h]
    exact b2_read_21  rfl rfl
def F_2_read_11 (xs0 : Int32) (M : Mem) : Int32 × Mem := if xs0 = 0 then ((0, M)) else (F_2_read_18 ((F_5_needsEnd_0 M).1) ((F_5_needsEnd_0 M).2))
def P_2_read_11 (xs0 : Int32) (M : Mem) : Prop := ((xs0 = 0 → True) ∧ (¬ xs0 = 0 → ((P_5_needsEnd_0 M) ∧ (P_2_read_18 ((F_5_needsEnd_0 M).1) ((F_5_needsEnd_0 M).2)))))
theorem T_2_read_11 {g : Gl} (xs0 : Int32) (M : Mem) (hp : P_2_read_11 xs0 M) : Rn g 65 m2_read 11 [some (.ref 1583), some (.ref 1560)] [.int xs0] M (some (.int (F_2_read_11 xs0 M).1)) ((F_2_read_11 xs0 M).2) := by
  rw [F_2_read_11]
  rw [P_2_read_11] at hp
  refine b2_read_11  (fun h => ?_) (fun h => ?_)
  · rw [if_pos h]
    exact b2_read_21  rfl rfl
  · rw [if_neg h]
    have hp := hp.2 h
    obtain ⟨hc, hp⟩ := hp
    refine b2_read_14  (C_5_needsEnd  M hc) (Nat.le_of_ble_eq_true rfl) ?_
    exact T_2_read_18 ((F_5_needsEnd_0 M).1) ((F_5_needsEnd_0 M).2) hp
def F_2_read_0 (M : Mem) : Int32 × Mem := F_2_read_11 ((G_2_readSum 8 0 (wr M 1583 4 0)).1) ((G_2_readSum 8 0 (wr M 1583 4 0)).2)
def P_2_read_0 (M : Mem) : Prop := ((H_2_readSum 8 0 (wr M 1583 4 0)) ∧ (P_2_read_11 ((G_2_readSum 8 0 (wr M 1583 4 0)).1) ((G_2_readSum 8 0 (wr M 1583 4 0)).2)))
theorem T_2_read_0 {g : Gl} (M : Mem) (hp : P_2_read_0 M) : Rn g 65 m2_read 0 [some (.ref 1583), some (.ref 1560)] [] M (some (.int (F_2_read_0 M).1)) ((F_2_read_0 M).2) := by
  rw [F_2_read_0]
  rw [P_2_read_0] at hp
  obtain ⟨hc, hp⟩ := hp
  refine b2_read_0  (D_2_readSum 8 0 (wr M 1583 4 0) hc) (Nat.le_of_ble_eq_true rfl) ?_
  exact T_2_read_11 ((G_2_readSum 8 0 (wr M 1583 4 0)).1) ((G_2_readSum 8 0 (wr M 1583 4 0)).2) hp
theorem C_2_read {g : Gl}   (M : Mem) (hp : P_2_read_0 M) : Ms g 65 m2_read [.ref 1583, .ref 1560] M (some (.int (F_2_read_0 M).1)) ((F_2_read_0 M).2) := Ms.of okM_m2_read (Nat.le_of_ble_eq_true rfl) (R_wk (lc rfl (lc rfl l0)) (T_2_read_0 M hp))
def F_4_allDoors_0 (M : Mem) : Int32 := (((1 : Int32) <<< ((rd M 1561 1) &&& 31)) - 1)
theorem T_4_allDoors_0 {g : Gl} (M : Mem)  : Rn g 0 m4_allDoors 0 [some (.ref 1561)] [] M (some (.int (F_4_allDoors_0 M))) (M) := by
  rw [F_4_allDoors_0]
  exact b4_allDoors_0  rfl rfl
theorem C_4_allDoors {g : Gl}   (M : Mem)  : Ms g 0 m4_allDoors [.ref 1561] M (some (.int (F_4_allDoors_0 M))) (M) := Ms.of okM_m4_allDoors (Nat.le_of_ble_eq_true rfl) (R_wk (lc rfl l0) (T_4_allDoors_0 M))
def F_3_leadsTo_0 (M : Mem) (x1 : Int32) (x2 : Int32) : Int32 := if (((rd M 1606 5) >>> (x1 &&& 31)) &&& 1) = 0 then (if (rd M 1567 x1.toNatClampNeg) = x2 then ((rd M 1568 x1.toNatClampNeg)) else ((-1))) else (if (rd M 1568 x1.toNatClampNeg) = x2 then ((rd M 1567 x1.toNatClampNeg)) else ((-1)))
def P_3_leadsTo_0 (M : Mem) (x1 : Int32) (x2 : Int32) : Prop := (((((rd M 1606 5) >>> (x1 &&& 31)) &&& 1) = 0 → (vp_in x1 24) ∧ ((¬ (rd M 1567 x1.toNatClampNeg) = x2 → True) ∧ ((rd M 1567 x1.toNatClampNeg) = x2 → (vp_in x1 24)))) ∧ (¬ (((rd M 1606 5) >>> (x1 &&& 31)) &&& 1) = 0 → (vp_in x1 24) ∧ ((¬ (rd M 1568 x1.toNatClampNeg) = x2 → True) ∧ ((rd M 1568 x1.toNatClampNeg) = x2 → (vp_in x1 24)))))
theorem T_3_leadsTo_0 {g : Gl} (M : Mem) (x1 : Int32) (x2 : Int32) (hp : P_3_leadsTo_0 M x1 x2) : Rn g 0 m3_leadsTo 0 [some (.ref 1606), some (.int x1), some (.int x2)] [] M (some (.int (F_3_leadsTo_0 M x1 x2))) (M) := by
  rw [F_3_leadsTo_0]
  rw [P_3_leadsTo_0] at hp
  refine b3_leadsTo_0  (fun h => ?_) (fun h => ?_)
  · rw [if_pos h]
    have hp := hp.1 h
    obtain ⟨p0, hp⟩ := hp
    refine b3_leadsTo_38 p0 (fun h => ?_) (fun h => ?_)
    · rw [if_neg h]
      refine b3_leadsTo_63  ?_
      exact b3_leadsTo_64  rfl rfl
    · rw [if_pos h]
      have hp := hp.2 h
      have p1 := hp
      refine b3_leadsTo_51 p1 ?_
      exact b3_leadsTo_64  rfl rfl
  · rw [if_neg h]
    have hp := hp.2 h
    obtain ⟨p2, hp⟩ := hp
    refine b3_leadsTo_11 p2 (fun h => ?_) (fun h => ?_)
    · rw [if_neg h]
      refine b3_leadsTo_36  ?_
      exact b3_leadsTo_37  rfl rfl
    · rw [if_pos h]
      have hp := hp.2 h
      have p3 := hp
      refine b3_leadsTo_24 p3 ?_
      exact b3_leadsTo_37  rfl rfl
theorem C_3_leadsTo {g : Gl}  (x1 : Int32) (x2 : Int32) (M : Mem) (hp : P_3_leadsTo_0 M x1 x2) : Ms g 0 m3_leadsTo [.ref 1606, .int x1, .int x2] M (some (.int (F_3_leadsTo_0 M x1 x2))) (M) := Ms.of okM_m3_leadsTo (Nat.le_of_ble_eq_true rfl) (R_wk (lc rfl (lc rfl (lc rfl l0))) (T_3_leadsTo_0 M x1 x2 hp))
def F_3_takeWay_5  : Nat → Int32 → Int32 → Int32 → Mem → Mem
  | 0, _, _, _, M => M
  | n + 1, x1, x3, x4, M => if (10 : Int32) ≤ x4 then (M) else (if x3 = x1 then (M) else ((F_3_takeWay_5 n) x1 (rd (wr M 1606 5 ((rd M 1606 5) ^^^ ((1 : Int32) <<< ((rd M 1608 x3.toNatClampNeg) &&& 31)))) 1609 x3.toNatClampNeg) (x4 + 1) (wr M 1606 5 ((rd M 1606 5) ^^^ ((1 : Int32) <<< ((rd M 1608 x3.toNatClampNeg) &&& 31))))))
def P_3_takeWay_5  : Nat → Int32 → Int32 → Int32 → Mem → Prop
  | 0, _, _, _, _ => False
  | n + 1, x1, x3, x4, M => (((10 : Int32) ≤ x4 → True) ∧ (¬ (10 : Int32) ≤ x4 → ((x3 = x1 → True) ∧ (¬ x3 = x1 → (vp_in x3 10) ∧ ((P_3_takeWay_5 n) x1 (rd (wr M 1606 5 ((rd M 1606 5) ^^^ ((1 : Int32) <<< ((rd M 1608 x3.toNatClampNeg) &&& 31)))) 1609 x3.toNatClampNeg) (x4 + 1) (wr M 1606 5 ((rd M 1606 5) ^^^ ((1 : Int32) <<< ((rd M 1608 x3.toNatClampNeg) &&& 31)))))))))
theorem T_3_takeWay_5 {g : Gl} : ∀ (n : Nat) (x1 : Int32) (x3 : Int32) (x4 : Int32) (M : Mem) (hp : P_3_takeWay_5 n x1 x3 x4 M), Rn g 0 m3_takeWay 5 [some (.ref 1606), some (.int x1), none, some (.int x3), some (.int x4)] [] M (none) ((F_3_takeWay_5 n x1 x3 x4 M)) := by
  intro n
  induction n with
  | zero => intro x1 x3 x4 M hp; exact hp.elim
  | succ n ih =>
    intro x1 x3 x4 M hp
    rw [F_3_takeWay_5]
    rw [P_3_takeWay_5] at hp
    refine b3_takeWay_5  (fun h => ?_) (fun h => ?_)
    · rw [if_pos h]
      exact b3_takeWay_47  rfl rfl
    · rw [if_neg h]
      have hp := hp.2 h
      refine b3_takeWay_12  (fun h => ?_) (fun h => ?_)
      · rw [if_pos h]
        exact b3_takeWay_47  rfl rfl
      · rw [if_neg h]
        have hp := hp.2 h
        obtain ⟨p0, hp⟩ := hp
        refine b3_takeWay_17 p0 ?_
        exact ih x1 (rd (wr M 1606 5 ((rd M 1606 5) ^^^ ((1 : Int32) <<< ((rd M 1608 x3.toNatClampNeg) &&& 31)))) 1609 x3.toNatClampNeg) (x4 + 1) (wr M 1606 5 ((rd M 1606 5) ^^^ ((1 : Int32) <<< ((rd M 1608 x3.toNatClampNeg) &&& 31)))) hp
def F_3_takeWay_0 (x1 : Int32) (x2 : Int32) (M : Mem) : Mem := F_3_takeWay_5 FU x1 x2 0 M
def P_3_takeWay_0 (x1 : Int32) (x2 : Int32) (M : Mem) : Prop := (P_3_takeWay_5 FU x1 x2 0 M)
theorem T_3_takeWay_0 {g : Gl} (x1 : Int32) (x2 : Int32) (M : Mem) (hp : P_3_takeWay_0 x1 x2 M) : Rn g 0 m3_takeWay 0 [some (.ref 1606), some (.int x1), some (.int x2), none, none] [] M (none) ((F_3_takeWay_0 x1 x2 M)) := by
  rw [F_3_takeWay_0]
  rw [P_3_takeWay_0] at hp
  refine b3_takeWay_0  ?_
  exact T_3_takeWay_5 FU x1 x2 0 M hp
theorem C_3_takeWay {g : Gl}  (x1 : Int32) (x2 : Int32) (M : Mem) (hp : P_3_takeWay_0 x1 x2 M) : Ms g 0 m3_takeWay [.ref 1606, .int x1, .int x2] M (none) ((F_3_takeWay_0 x1 x2 M)) := Ms.of okM_m3_takeWay (Nat.le_of_ble_eq_true rfl) (R_wk (lc rfl (lc rfl (lc rfl (ln (ln l0))))) (T_3_takeWay_0 x1 x2 M hp))
def F_3_findsWay_141 (k18 : Int32 → Int32 → Int32 → Int32 → Int32 → Int32 → Mem → Int32 × Mem) (k44 : Int32 → Int32 → Int32 → Int32 → Int32 → Int32 → Int32 → Int32 → Mem → Int32 × Mem) (x1 : Int32) (x2 : Int32) (x3 : Int32) (x4 : Int32) (x5 : Int32) (x6 : Int32) (x7 : Int32) (x8 : Int32) (M : Mem) : Int32 × Mem := k44 x1 x2 x3 x4 x5 x6 x7 (x8 + 1) M
def P_3_findsWay_141 (pk18 : Int32 → Int32 → Int32 → Int32 → Int32 → Int32 → Mem → Prop) (pk44 : Int32 → Int32 → Int32 → Int32 → Int32 → Int32 → Int32 → Int32 → Mem → Prop) (x1 : Int32) (x2 : Int32) (x3 : Int32) (x4 : Int32) (x5 : Int32) (x6 : Int32) (x7 : Int32) (x8 : Int32) (M : Mem) : Prop := (pk44 x1 x2 x3 x4 x5 x6 x7 (x8 + 1) M)
theorem T_3_findsWay_141 {g : Gl} (k18 : Int32 → Int32 → Int32 → Int32 → Int32 → Int32 → Mem → Int32 × Mem) (k44 : Int32 → Int32 → Int32 → Int32 → Int32 → Int32 → Int32 → Int32 → Mem → Int32 × Mem) (pk18 : Int32 → Int32 → Int32 → Int32 → Int32 → Int32 → Mem → Prop) (pk44 : Int32 → Int32 → Int32 → Int32 → Int32 → Int32 → Int32 → Int32 → Mem → Prop) (ih18 : ∀ (x1 : Int32) (x2 : Int32) (x3 : Int32) (x4 : Int32) (x5 : Int32) (x6 : Int32) (M : Mem), pk18 x1 x2 x3 x4 x5 x6 M → Rn g 1 m3_findsWay 18 [some (.ref 1606), some (.int x1), some (.int x2), some (.int x3), some (.int x4), some (.int x5), some (.int x6), none, none, none] [] M (some (.int (k18 x1 x2 x3 x4 x5 x6 M).1)) ((k18 x1 x2 x3 x4 x5 x6 M).2)) (ih44 : ∀ (x1 : Int32) (x2 : Int32) (x3 : Int32) (x4 : Int32) (x5 : Int32) (x6 : Int32) (x7 : Int32) (x8 : Int32) (M : Mem), pk44 x1 x2 x3 x4 x5 x6 x7 x8 M → Rn g 1 m3_findsWay 44 [some (.ref 1606), some (.int x1), some (.int x2), some (.int x3), some (.int x4), some (.int x5), some (.int x6), some (.int x7), some (.int x8), none] [] M (some (.int (k44 x1 x2 x3 x4 x5 x6 x7 x8 M).1)) ((k44 x1 x2 x3 x4 x5 x6 x7 x8 M).2)) (x1 : Int32) (x2 : Int32) (x3 : Int32) (x4 : Int32) (x5 : Int32) (x6 : Int32) (x7 : Int32) (x8 : Int32) (M : Mem) (hp : P_3_findsWay_141 pk18 pk44 x1 x2 x3 x4 x5 x6 x7 x8 M) : Rn g 1 m3_findsWay 141 [some (.ref 1606), some (.int x1), some (.int x2), some (.int x3), some (.int x4), some (.int x5), some (.int x6), some (.int x7), some (.int x8), none] [] M (some (.int (F_3_findsWay_141 k18 k44 x1 x2 x3 x4 x5 x6 x7 x8 M).1)) ((F_3_findsWay_141 k18 k44 x1 x2 x3 x4 x5 x6 x7 x8 M).2) := by
  rw [F_3_findsWay_141]
  rw [P_3_findsWay_141] at hp
  refine b3_findsWay_141  ?_
  exact ih44 x1 x2 x3 x4 x5 x6 x7 (x8 + 1) M hp
def F_3_findsWay_77 (k18 : Int32 → Int32 → Int32 → Int32 → Int32 → Int32 → Mem → Int32 × Mem) (k44 : Int32 → Int32 → Int32 → Int32 → Int32 → Int32 → Int32 → Int32 → Mem → Int32 × Mem) (x1 : Int32) (x2 : Int32) (x3 : Int32) (x4 : Int32) (x5 : Int32) (x6 : Int32) (x7 : Int32) (x8 : Int32) (xs0 : Int32) (M : Mem) : Int32 × Mem := if xs0 = (-1) then (F_3_findsWay_141 k18 k44 x1 x2 x3 x4 x5 x6 x7 x8 M) else (if ((x4 >>> (xs0 &&& 31)) &&& 1) = 0 then (if (10 : Int32) ≤ x5 then (F_3_findsWay_141 k18 k44 x1 x2 x3 x4 x5 x6 x7 x8 M) else (F_3_findsWay_141 k18 k44 x1 x2 x3 (x4 ||| ((1 : Int32) <<< (xs0 &&& 31))) (x5 + 1) x6 x7 x8 (wr (wr (wr M 1608 xs0.toNatClampNeg x8) 1609 xs0.toNatClampNeg x7) 1607 x5.toNatClampNeg xs0))) else (F_3_findsWay_141 k18 k44 x1 x2 x3 x4 x5 x6 x7 x8 M))
def P_3_findsWay_77 (pk18 : Int32 → Int32 → Int32 → Int32 → Int32 → Int32 → Mem → Prop) (pk44 : Int32 → Int32 → Int32 → Int32 → Int32 → Int32 → Int32 → Int32 → Mem → Prop) (x1 : Int32) (x2 : Int32) (x3 : Int32) (x4 : Int32) (x5 : Int32) (x6 : Int32) (x7 : Int32) (x8 : Int32) (xs0 : Int32) (M : Mem) : Prop := ((xs0 = (-1) → P_3_findsWay_141 pk18 pk44 x1 x2 x3 x4 x5 x6 x7 x8 M) ∧ (¬ xs0 = (-1) → ((¬ ((x4 >>> (xs0 &&& 31)) &&& 1) = 0 → P_3_findsWay_141 pk18 pk44 x1 x2 x3 x4 x5 x6 x7 x8 M) ∧ (((x4 >>> (xs0 &&& 31)) &&& 1) = 0 → (((10 : Int32) ≤ x5 → P_3_findsWay_141 pk18 pk44 x1 x2 x3 x4 x5 x6 x7 x8 M) ∧ (¬ (10 : Int32) ≤ x5 → (vp_in xs0 10) ∧ (vp_in x5 10) ∧ (P_3_findsWay_141 pk18 pk44 x1 x2 x3 (x4 ||| ((1 : Int32) <<< (xs0 &&& 31))) (x5 + 1) x6 x7 x8 (wr (wr (wr M 1608 xs0.toNatClampNeg x8) 1609 xs0.toNatClampNeg x7) 1607 x5.toNatClampNeg xs0))))))))
theorem T_3_findsWay_77 {g : Gl} (k18 : Int32 → Int32 → Int32 → Int32 → Int32 → Int32 → Mem → Int32 × Mem) (k44 : Int32 → Int32 → Int32 → Int32 → Int32 → Int32 → Int32 → Int32 → Mem → Int32 × Mem) (pk18 : Int32 → Int32 → Int32 → Int32 → Int32 → Int32 → Mem → Prop) (pk44 : Int32 → Int32 → Int32 → Int32 → Int32 → Int32 → Int32 → Int32 → Mem → Prop) (ih18 : ∀ (x1 : Int32) (x2 : Int32) (x3 : Int32) (x4 : Int32) (x5 : Int32) (x6 : Int32) (M : Mem), pk18 x1 x2 x3 x4 x5 x6 M → Rn g 1 m3_findsWay 18 [some (.ref 1606), some (.int x1), some (.int x2), some (.int x3), some (.int x4), some (.int x5), some (.int x6), none, none, none] [] M (some (.int (k18 x1 x2 x3 x4 x5 x6 M).1)) ((k18 x1 x2 x3 x4 x5 x6 M).2)) (ih44 : ∀ (x1 : Int32) (x2 : Int32) (x3 : Int32) (x4 : Int32) (x5 : Int32) (x6 : Int32) (x7 : Int32) (x8 : Int32) (M : Mem), pk44 x1 x2 x3 x4 x5 x6 x7 x8 M → Rn g 1 m3_findsWay 44 [some (.ref 1606), some (.int x1), some (.int x2), some (.int x3), some (.int x4), some (.int x5), some (.int x6), some (.int x7), some (.int x8), none] [] M (some (.int (k44 x1 x2 x3 x4 x5 x6 x7 x8 M).1)) ((k44 x1 x2 x3 x4 x5 x6 x7 x8 M).2)) (x1 : Int32) (x2 : Int32) (x3 : Int32) (x4 : Int32) (x5 : Int32) (x6 : Int32) (x7 : Int32) (x8 : Int32) (xs0 : Int32) (M : Mem) (hp : P_3_findsWay_77 pk18 pk44 x1 x2 x3 x4 x5 x6 x7 x8 xs0 M) : Rn g 1 m3_findsWay 77 [some (.ref 1606), some (.int x1), some (.int x2), some (.int x3), some (.int x4), some (.int x5), some (.int x6), some (.int x7), some (.int x8), none] [.int xs0] M (some (.int (F_3_findsWay_77 k18 k44 x1 x2 x3 x4 x5 x6 x7 x8 xs0 M).1)) ((F_3_findsWay_77 k18 k44 x1 x2 x3 x4 x5 x6 x7 x8 xs0 M).2) := by
  rw [F_3_findsWay_77]
  rw [P_3_findsWay_77] at hp
  refine b3_findsWay_77  (fun h => ?_) (fun h => ?_)
  · rw [if_pos h]
    have hp := hp.1 h
    exact T_3_findsWay_141 k18 k44 pk18 pk44 ih18 ih44 x1 x2 x3 x4 x5 x6 x7 x8 M hp
  · rw [if_neg h]
    have hp := hp.2 h
    refine b3_findsWay_85  (fun h => ?_) (fun h => ?_)
    · rw [if_neg h]
      have hp := hp.1 h
      exact T_3_findsWay_141 k18 k44 pk18 pk44 ih18 ih44 x1 x2 x3 x4 x5 x6 x7 x8 M hp
    · rw [if_pos h]
      have hp := hp.2 h
      refine b3_findsWay_95  (fun h => ?_) (fun h => ?_)
      · rw [if_pos h]
        have hp := hp.1 h
        exact T_3_findsWay_141 k18 k44 pk18 pk44 ih18 ih44 x1 x2 x3 x4 x5 x6 x7 x8 M hp
      · rw [if_neg h]
        have hp := hp.2 h
        obtain ⟨p0, p1, hp⟩ := hp
        refine b3_findsWay_102 p0 p1 ?_
        exact T_3_findsWay_141 k18 k44 pk18 pk44 ih18 ih44 x1 x2 x3 (x4 ||| ((1 : Int32) <<< (xs0 &&& 31))) (x5 + 1) x6 x7 x8 (wr (wr (wr M 1608 xs0.toNatClampNeg x8) 1609 xs0.toNatClampNeg x7) 1607 x5.toNatClampNeg xs0) hp
def F_3_findsWay_44 (k18 : Int32 → Int32 → Int32 → Int32 → Int32 → Int32 → Mem → Int32 × Mem) : Nat → Int32 → Int32 → Int32 → Int32 → Int32 → Int32 → Int32 → Int32 → Mem → Int32 × Mem
  | 0, _, _, _, _, _, _, _, _, M => (0, M)
  | n + 1, x1, x2, x3, x4, x5, x6, x7, x8, M => if (rd M 1561 1) ≤ x8 then (k18 x1 x2 x3 x4 x5 (x6 + 1) M) else (if ((x3 >>> (x8 &&& 31)) &&& 1) = 0 then (F_3_findsWay_77 k18 (F_3_findsWay_44 k18 n) x1 x2 x3 x4 x5 x6 x7 x8 (-1) M) else (F_3_findsWay_77 k18 (F_3_findsWay_44 k18 n) x1 x2 x3 x4 x5 x6 x7 x8 (F_3_leadsTo_0 M x8 x7) M))
def P_3_findsWay_44 (pk18 : Int32 → Int32 → Int32 → Int32 → Int32 → Int32 → Mem → Prop) : Nat → Int32 → Int32 → Int32 → Int32 → Int32 → Int32 → Int32 → Int32 → Mem → Prop
  | 0, _, _, _, _, _, _, _, _, _ => False
  | n + 1, x1, x2, x3, x4, x5, x6, x7, x8, M => (((rd M 1561 1) ≤ x8 → (pk18 x1 x2 x3 x4 x5 (x6 + 1) M)) ∧ (¬ (rd M 1561 1) ≤ x8 → ((((x3 >>> (x8 &&& 31)) &&& 1) = 0 → (P_3_findsWay_77 pk18 (P_3_findsWay_44 pk18 n) x1 x2 x3 x4 x5 x6 x7 x8 (-1) M)) ∧ (¬ ((x3 >>> (x8 &&& 31)) &&& 1) = 0 → ((P_3_leadsTo_0 M x8 x7) ∧ ((P_3_findsWay_77 pk18 (P_3_findsWay_44 pk18 n) x1 x2 x3 x4 x5 x6 x7 x8 (F_3_leadsTo_0 M x8 x7) M)))))))
theorem T_3_findsWay_44 {g : Gl} (k18 : Int32 → Int32 → Int32 → Int32 → Int32 → Int32 → Mem → Int32 × Mem) (pk18 : Int32 → Int32 → Int32 → Int32 → Int32 → Int32 → Mem → Prop) (ih18 : ∀ (x1 : Int32) (x2 : Int32) (x3 : Int32) (x4 : Int32) (x5 : Int32) (x6 : Int32) (M : Mem), pk18 x1 x2 x3 x4 x5 x6 M → Rn g 1 m3_findsWay 18 [some (.ref 1606), some (.int x1), some (.int x2), some (.int x3), some (.int x4), some (.int x5), some (.int x6), none, none, none] [] M (some (.int (k18 x1 x2 x3 x4 x5 x6 M).1)) ((k18 x1 x2 x3 x4 x5 x6 M).2)) : ∀ (n : Nat) (x1 : Int32) (x2 : Int32) (x3 : Int32) (x4 : Int32) (x5 : Int32) (x6 : Int32) (x7 : Int32) (x8 : Int32) (M : Mem) (hp : P_3_findsWay_44 pk18 n x1 x2 x3 x4 x5 x6 x7 x8 M), Rn g 1 m3_findsWay 44 [some (.ref 1606), some (.int x1), some (.int x2), some (.int x3), some (.int x4), some (.int x5), some (.int x6), some (.int x7), some (.int x8), none] [] M (some (.int (F_3_findsWay_44 k18 n x1 x2 x3 x4 x5 x6 x7 x8 M).1)) ((F_3_findsWay_44 k18 n x1 x2 x3 x4 x5 x6 x7 x8 M).2) := by
  intro n
  induction n with
  | zero => intro x1 x2 x3 x4 x5 x6 x7 x8 M hp; exact hp.elim
  | succ n ih =>
    intro x1 x2 x3 x4 x5 x6 x7 x8 M hp
    rw [F_3_findsWay_44]
    rw [P_3_findsWay_44] at hp
    refine b3_findsWay_44  (fun h => ?_) (fun h => ?_)
    · rw [if_pos h]
      have hp := hp.1 h
      refine b3_findsWay_147  ?_
      exact ih18 x1 x2 x3 x4 x5 (x6 + 1) M hp
    · rw [if_neg h]
      have hp := hp.2 h
      refine b3_findsWay_56  (fun h => ?_) (fun h => ?_)
      · rw [if_pos h]
        have hp := hp.1 h
        refine b3_findsWay_76  ?_
        exact T_3_findsWay_77 k18 (F_3_findsWay_44 k18 n) pk18 (P_3_findsWay_44 pk18 n) ih18 ih x1 x2 x3 x4 x5 x6 x7 x8 (-1) M hp
      · rw [if_neg h]
        have hp := hp.2 h
        obtain ⟨hc, hp⟩ := hp
        refine b3_findsWay_65  (C_3_leadsTo x8 x7 M hc) (Nat.le_of_ble_eq_true rfl) ?_
        refine b3_findsWay_73  ?_
        exact T_3_findsWay_77 k18 (F_3_findsWay_44 k18 n) pk18 (P_3_findsWay_44 pk18 n) ih18 ih x1 x2 x3 x4 x5 x6 x7 x8 (F_3_leadsTo_0 M x8 x7) M hp
def F_3_findsWay_170 (M : Mem) : Int32 × Mem := (1, M)
theorem T_3_findsWay_170 {g : Gl} (M : Mem)  : Rn g 1 m3_findsWay 170 [none, none, none, none, none, none, none, none, none, none] [] M (some (.int (F_3_findsWay_170 M).1)) ((F_3_findsWay_170 M).2) := by
  rw [F_3_findsWay_170]
  exact b3_findsWay_170  rfl rfl
def F_3_findsWay_153 (x1 : Int32) (x2 : Int32) (x4 : Int32) (M : Mem) : Int32 × Mem := if ((x4 >>> (x2 &&& 31)) &&& 1) = 0 then ((0, M)) else (F_3_findsWay_170 (F_3_takeWay_0 x1 x2 M))
def P_3_findsWay_153 (x1 : Int32) (x2 : Int32) (x4 : Int32) (M : Mem) : Prop := ((¬ ((x4 >>> (x2 &&& 31)) &&& 1) = 0 → ((P_3_takeWay_0 x1 x2 M))) ∧ (((x4 >>> (x2 &&& 31)) &&& 1) = 0 → True))
theorem T_3_findsWay_153 {g : Gl} (x1 : Int32) (x2 : Int32) (x4 : Int32) (M : Mem) (hp : P_3_findsWay_153 x1 x2 x4 M) : Rn g 1 m3_findsWay 153 [some (.ref 1606), some (.int x1), some (.int x2), none, some (.int x4), none, none, none, none, none] [] M (some (.int (F_3_findsWay_153 x1 x2 x4 M).1)) ((F_3_findsWay_153 x1 x2 x4 M).2) := by
  rw [F_3_findsWay_153]
  rw [P_3_findsWay_153] at hp
  refine b3_findsWay_153  (fun h => ?_) (fun h => ?_)
  · rw [if_neg h]
    have hp := hp.1 h
    have hc := hp
    refine b3_findsWay_164  (C_3_takeWay x1 x2 M hc) (Nat.le_of_ble_eq_true rfl) ?_
    exact T_3_findsWay_170 (F_3_takeWay_0 x1 x2 M)
  · rw [if_pos h]
    exact b3_findsWay_162  rfl rfl
def F_3_findsWay_18  : Nat → Int32 → Int32 → Int32 → Int32 → Int32 → Int32 → Mem → Int32 × Mem
  | 0, _, _, _, _, _, _, M => (0, M)
  | n + 1, x1, x2, x3, x4, x5, x6, M => if x5 ≤ x6 then (F_3_findsWay_153 x1 x2 x4 M) else (if (10 : Int32) ≤ x6 then (F_3_findsWay_153 x1 x2 x4 M) else (F_3_findsWay_44 (F_3_findsWay_18 n) FU x1 x2 x3 x4 x5 x6 (rd M 1607 x6.toNatClampNeg) 0 M))
def P_3_findsWay_18  : Nat → Int32 → Int32 → Int32 → Int32 → Int32 → Int32 → Mem → Prop
  | 0, _, _, _, _, _, _, _ => False
  | n + 1, x1, x2, x3, x4, x5, x6, M => ((x5 ≤ x6 → P_3_findsWay_153 x1 x2 x4 M) ∧ (¬ x5 ≤ x6 → (((10 : Int32) ≤ x6 → P_3_findsWay_153 x1 x2 x4 M) ∧ (¬ (10 : Int32) ≤ x6 → (vp_in x6 10) ∧ (P_3_findsWay_44 (P_3_findsWay_18 n) FU x1 x2 x3 x4 x5 x6 (rd M 1607 x6.toNatClampNeg) 0 M)))))
theorem T_3_findsWay_18 {g : Gl} : ∀ (n : Nat) (x1 : Int32) (x2 : Int32) (x3 : Int32) (x4 : Int32) (x5 : Int32) (x6 : Int32) (M : Mem) (hp : P_3_findsWay_18 n x1 x2 x3 x4 x5 x6 M), Rn g 1 m3_findsWay 18 [some (.ref 1606), some (.int x1), some (.int x2), some (.int x3), some (.int x4), some (.int x5), some (.int x6), none, none, none] [] M (some (.int (F_3_findsWay_18 n x1 x2 x3 x4 x5 x6 M).1)) ((F_3_findsWay_18 n x1 x2 x3 x4 x5 x6 M).2) := by
  intro n
  induction n with
  | zero => intro x1 x2 x3 x4 x5 x6 M hp; exact hp.elim
  | succ n ih =>
    intro x1 x2 x3 x4 x5 x6 M hp
    rw [F_3_findsWay_18]
    rw [P_3_findsWay_18] at hp
    refine b3_findsWay_18  (fun h => ?_) (fun h => ?_)
    · rw [if_pos h]
      have hp := hp.1 h
      exact T_3_findsWay_153 x1 x2 x4 M hp
    · rw [if_neg h]
      have hp := hp.2 h
      refine b3_findsWay_25  (fun h => ?_) (fun h => ?_)
      · rw [if_pos h]
        have hp := hp.1 h
        exact T_3_findsWay_153 x1 x2 x4 M hp
      · rw [if_neg h]
        have hp := hp.2 h
        obtain ⟨p0, hp⟩ := hp
        refine b3_findsWay_32 p0 ?_
        exact T_3_findsWay_44 (F_3_findsWay_18 n) (P_3_findsWay_18 n) ih FU x1 x2 x3 x4 x5 x6 (rd M 1607 x6.toNatClampNeg) 0 M hp
def F_3_findsWay_0 (x1 : Int32) (x2 : Int32) (x3 : Int32) (M : Mem) : Int32 × Mem := F_3_findsWay_18 FU x1 x2 x3 ((1 : Int32) <<< (x1 &&& 31)) 1 0 (wr M 1607 ((0 : Int32).toNatClampNeg) x1)
def P_3_findsWay_0 (x1 : Int32) (x2 : Int32) (x3 : Int32) (M : Mem) : Prop := (P_3_findsWay_18 FU x1 x2 x3 ((1 : Int32) <<< (x1 &&& 31)) 1 0 (wr M 1607 ((0 : Int32).toNatClampNeg) x1))
theorem T_3_findsWay_0 {g : Gl} (x1 : Int32) (x2 : Int32) (x3 : Int32) (M : Mem) (hp : P_3_findsWay_0 x1 x2 x3 M) : Rn g 1 m3_findsWay 0 [some (.ref 1606), some (.int x1), some (.int x2), some (.int x3), none, none, none, none, none, none] [] M (some (.int (F_3_findsWay_0 x1 x2 x3 M).1)) ((F_3_findsWay_0 x1 x2 x3 M).2) := by
  rw [F_3_findsWay_0]
  rw [P_3_findsWay_0] at hp
  refine b3_findsWay_0 (vpl (by decide)) ?_
  exact T_3_findsWay_18 FU x1 x2 x3 ((1 : Int32) <<< (x1 &&& 31)) 1 0 (wr M 1607 ((0 : Int32).toNatClampNeg) x1) hp
theorem C_3_findsWay {g : Gl}  (x1 : Int32) (x2 : Int32) (x3 : Int32) (M : Mem) (hp : P_3_findsWay_0 x1 x2 x3 M) : Ms g 1 m3_findsWay [.ref 1606, .int x1, .int x2, .int x3] M (some (.int (F_3_findsWay_0 x1 x2 x3 M).1)) ((F_3_findsWay_0 x1 x2 x3 M).2) := Ms.of okM_m3_findsWay (Nat.le_of_ble_eq_true rfl) (R_wk (lc rfl (lc rfl (lc rfl (lc rfl (ln (ln (ln (ln (ln (ln l0)))))))))) (T_3_findsWay_0 x1 x2 x3 M hp))
