def F_6_bitCount_0f7a4_0 (M : Mem) (x0 : Int32) : Int32 := ((((((((x0 - (((x0.toUInt32 >>> ((1 : Int32).toUInt32 &&& Int32.toUInt32 31)).toInt32) &&& 1431655765)) &&& 858993459) + ((((x0 - (((x0.toUInt32 >>> ((1 : Int32).toUInt32 &&& Int32.toUInt32 31)).toInt32) &&& 1431655765)).toUInt32 >>> ((2 : Int32).toUInt32 &&& Int32.toUInt32 31)).toInt32) &&& 858993459)) + (((((x0 - (((x0.toUInt32 >>> ((1 : Int32).toUInt32 &&& Int32.toUInt32 31)).toInt32) &&& 1431655765)) &&& 858993459) + ((((x0 - (((x0.toUInt32 >>> ((1 : Int32).toUInt32 &&& Int32.toUInt32 31)).toInt32) &&& 1431655765)).toUInt32 >>> ((2 : Int32).toUInt32 &&& Int32.toUInt32 31)).toInt32) &&& 858993459)).toUInt32 >>> ((4 : Int32).toUInt32 &&& Int32.toUInt32 31)).toInt32)) &&& 252645135) + (((((((x0 - (((x0.toUInt32 >>> ((1 : Int32).toUInt32 &&& Int32.toUInt32 31)).toInt32) &&& 1431655765)) &&& 858993459) + ((((x0 - (((x0.toUInt32 >>> ((1 : Int32).toUInt32 &&& Int32.toUInt32 31)).toInt32) &&& 1431655765)).toUInt32 >>> ((2 : Int32).toUInt32 &&& Int32.toUInt32 31)).toInt32) &&& 858993459)) + (((((x0 - (((x0.toUInt32 >>> ((1 : Int32).toUInt32 &&& Int32.toUInt32 31)).toInt32) &&& 1431655765)) &&& 858993459) + ((((x0 - (((x0.toUInt32 >>> ((1 : Int32).toUInt32 &&& Int32.toUInt32 31)).toInt32) &&& 1431655765)).toUInt32 >>> ((2 : Int32).toUInt32 &&& Int32.toUInt32 31)).toInt32) &&& 858993459)).toUInt32 >>> ((4 : Int32).toUInt32 &&& Int32.toUInt32 31)).toInt32)) &&& 252645135).toUInt32 >>> ((8 : Int32).toUInt32 &&& Int32.toUInt32 31)).toInt32)) + ((((((((x0 - (((x0.toUInt32 >>> ((1 : Int32).toUInt32 &&& Int32.toUInt32 31)).toInt32) &&& 1431655765)) &&& 858993459) + ((((x0 - (((x0.toUInt32 >>> ((1 : Int32).toUInt32 &&& Int32.toUInt32 31)).toInt32) &&& 1431655765)).toUInt32 >>> ((2 : Int32).toUInt32 &&& Int32.toUInt32 31)).toInt32) &&& 858993459)) + (((((x0 - (((x0.toUInt32 >>> ((1 : Int32).toUInt32 &&& Int32.toUInt32 31)).toInt32) &&& 1431655765)) &&& 858993459) + ((((x0 - (((x0.toUInt32 >>> ((1 : Int32).toUInt32 &&& Int32.toUInt32 31)).toInt32) &&& 1431655765)).toUInt32 >>> ((2 : Int32).toUInt32 &&& Int32.toUInt32 31)).toInt32) &&& 858993459)).toUInt32 >>> ((4 : Int32).toUInt32 &&& Int32.toUInt32 31)).toInt32)) &&& 252645135) + (((((((x0 - (((x0.toUInt32 >>> ((1 : Int32).toUInt32 &&& Int32.toUInt32 31)).toInt32) &&& 1431655765)) &&& 858993459) + ((((x0 - (((x0.toUInt32 >>> ((1 : Int32).toUInt32 &&& Int32.toUInt32 31)).toInt32) &&& 1431655765)).toUInt32 >>> ((2 : Int32).toUInt32 &&& Int32.toUInt32 31)).toInt32) &&& 858993459)) + (((((x0 - (((x0.toUInt32 >>> ((1 : Int32).toUInt32 &&& Int32.toUInt32 31)).toInt32) &&& 1431655765)) &&& 858993459) + ((((x0 - (((x0.toUInt32 >>> ((1 : Int32).toUInt32 &&& Int32.toUInt32 31)).toInt32) &&& 1431655765)).toUInt32 >>> ((2 : Int32).toUInt32 &&& Int32.toUInt32 31)).toInt32) &&& 858993459)).toUInt32 >>> ((4 : Int32).toUInt32 &&& Int32.toUInt32 31)).toInt32)) &&& 252645135).toUInt32 >>> ((8 : Int32).toUInt32 &&& Int32.toUInt32 31)).toInt32)).toUInt32 >>> ((16 : Int32).toUInt32 &&& Int32.toUInt32 31)).toInt32)) &&& 63)
theorem T_6_bitCount_0f7a4_0 {g : Gl} (M : Mem) (x0 : Int32)  : Rn g 0 mJ6_bitCount_0f7a4 0 [some (.int x0)] [] M (some (.int (F_6_bitCount_0f7a4_0 M x0))) (M) := by
  rw [F_6_bitCount_0f7a4_0]
  exact b6_bitCount_0f7a4_0  rfl rfl
theorem C_6_bitCount_0f7a4 {g : Gl}  (x0 : Int32) (M : Mem)  : Ms g 0 mJ6_bitCount_0f7a4 [.int x0] M (some (.int (F_6_bitCount_0f7a4_0 M x0))) (M) := Ms.of okM_mJ6_bitCount_0f7a4 (Nat.le_of_ble_eq_true rfl) (R_wk (lc rfl l0) (T_6_bitCount_0f7a4_0 M x0))
def F_0_renew_111 (k30 : Int32 → Mem → Mem) (x1 : Int32) (M : Mem) : Mem := k30 (x1 + 1) M
def P_0_renew_111 (pk30 : Int32 → Mem → Prop) (x1 : Int32) (M : Mem) : Prop := (pk30 (x1 + 1) M)
theorem T_0_renew_111 {g : Gl} (k30 : Int32 → Mem → Mem) (pk30 : Int32 → Mem → Prop) (ih30 : ∀ (x1 : Int32) (M : Mem), pk30 x1 M → Rn g 0 m0_renew 30 [some (.ref 1599), some (.int x1)] [] M (none) ((k30 x1 M))) (x1 : Int32) (M : Mem) (hp : P_0_renew_111 pk30 x1 M) : Rn g 0 m0_renew 111 [some (.ref 1599), some (.int x1)] [] M (none) ((F_0_renew_111 k30 x1 M)) := by
  rw [F_0_renew_111]
  rw [P_0_renew_111] at hp
  refine b0_renew_111  ?_
  exact ih30 (x1 + 1) M hp
def F_0_renew_30  : Nat → Int32 → Mem → Mem
  | 0, _, M => M
  | n + 1, x1, M => if (rd M 1561 1) ≤ x1 then (M) else (if (((rd M 1622 2) >>> (x1 &&& 31)) &&& 1) = 0 then (F_0_renew_111 (F_0_renew_30 n) x1 (wr (wr M 1600 ((rd M 1567 x1.toNatClampNeg).toNatClampNeg) ((rd M 1600 ((rd M 1567 x1.toNatClampNeg).toNatClampNeg)) ||| ((1 : Int32) <<< ((rd M 1568 x1.toNatClampNeg) &&& 31)))) 1601 ((rd (wr M 1600 ((rd M 1567 x1.toNatClampNeg).toNatClampNeg) ((rd M 1600 ((rd M 1567 x1.toNatClampNeg).toNatClampNeg)) ||| ((1 : Int32) <<< ((rd M 1568 x1.toNatClampNeg) &&& 31)))) 1568 x1.toNatClampNeg).toNatClampNeg) ((rd (wr M 1600 ((rd M 1567 x1.toNatClampNeg).toNatClampNeg) ((rd M 1600 ((rd M 1567 x1.toNatClampNeg).toNatClampNeg)) ||| ((1 : Int32) <<< ((rd M 1568 x1.toNatClampNeg) &&& 31)))) 1601 ((rd (wr M 1600 ((rd M 1567 x1.toNatClampNeg).toNatClampNeg) ((rd M 1600 ((rd M 1567 x1.toNatClampNeg).toNatClampNeg)) ||| ((1 : Int32) <<< ((rd M 1568 x1.toNatClampNeg) &&& 31)))) 1568 x1.toNatClampNeg).toNatClampNeg)) ||| ((1 : Int32) <<< ((rd (wr M 1600 ((rd M 1567 x1.toNatClampNeg).toNatClampNeg) ((rd M 1600 ((rd M 1567 x1.toNatClampNeg).toNatClampNeg)) ||| ((1 : Int32) <<< ((rd M 1568 x1.toNatClampNeg) &&& 31)))) 1567 x1.toNatClampNeg) &&& 31))))) else (F_0_renew_111 (F_0_renew_30 n) x1 M))
def P_0_renew_30  : Nat → Int32 → Mem → Prop
  | 0, _, _ => False
  | n + 1, x1, M => (((rd M 1561 1) ≤ x1 → True) ∧ (¬ (rd M 1561 1) ≤ x1 → ((¬ (((rd M 1622 2) >>> (x1 &&& 31)) &&& 1) = 0 → P_0_renew_111 (P_0_renew_30 n) x1 M) ∧ ((((rd M 1622 2) >>> (x1 &&& 31)) &&& 1) = 0 → (vp_in x1 24) ∧ (vp_in (rd M 1567 x1.toNatClampNeg) 10) ∧ (vp_in (rd (wr M 1600 ((rd M 1567 x1.toNatClampNeg).toNatClampNeg) ((rd M 1600 ((rd M 1567 x1.toNatClampNeg).toNatClampNeg)) ||| ((1 : Int32) <<< ((rd M 1568 x1.toNatClampNeg) &&& 31)))) 1568 x1.toNatClampNeg) 10) ∧ (P_0_renew_111 (P_0_renew_30 n) x1 (wr (wr M 1600 ((rd M 1567 x1.toNatClampNeg).toNatClampNeg) ((rd M 1600 ((rd M 1567 x1.toNatClampNeg).toNatClampNeg)) ||| ((1 : Int32) <<< ((rd M 1568 x1.toNatClampNeg) &&& 31)))) 1601 ((rd (wr M 1600 ((rd M 1567 x1.toNatClampNeg).toNatClampNeg) ((rd M 1600 ((rd M 1567 x1.toNatClampNeg).toNatClampNeg)) ||| ((1 : Int32) <<< ((rd M 1568 x1.toNatClampNeg) &&& 31)))) 1568 x1.toNatClampNeg).toNatClampNeg) ((rd (wr M 1600 ((rd M 1567 x1.toNatClampNeg).toNatClampNeg) ((rd M 1600 ((rd M 1567 x1.toNatClampNeg).toNatClampNeg)) ||| ((1 : Int32) <<< ((rd M 1568 x1.toNatClampNeg) &&& 31)))) 1601 ((rd (wr M 1600 ((rd M 1567 x1.toNatClampNeg).toNatClampNeg) ((rd M 1600 ((rd M 1567 x1.toNatClampNeg).toNatClampNeg)) ||| ((1 : Int32) <<< ((rd M 1568 x1.toNatClampNeg) &&& 31)))) 1568 x1.toNatClampNeg).toNatClampNeg)) ||| ((1 : Int32) <<< ((rd (wr M 1600 ((rd M 1567 x1.toNatClampNeg).toNatClampNeg) ((rd M 1600 ((rd M 1567 x1.toNatClampNeg).toNatClampNeg)) ||| ((1 : Int32) <<< ((rd M 1568 x1.toNatClampNeg) &&& 31)))) 1567 x1.toNatClampNeg) &&& 31)))))))))
theorem T_0_renew_30 {g : Gl} : ∀ (n : Nat) (x1 : Int32) (M : Mem) (hp : P_0_renew_30 n x1 M), Rn g 0 m0_renew 30 [some (.ref 1599), some (.int x1)] [] M (none) ((F_0_renew_30 n x1 M)) := by
  intro n
  induction n with
  | zero => intro x1 M hp; exact hp.elim
  | succ n ih =>
    intro x1 M hp
    rw [F_0_renew_30]
    rw [P_0_renew_30] at hp
    refine b0_renew_30  (fun h => ?_) (fun h => ?_)
    · rw [if_pos h]
      exact b0_renew_117  rfl rfl
    · rw [if_neg h]
      have hp := hp.2 h
      refine b0_renew_41  (fun h => ?_) (fun h => ?_)
      · rw [if_neg h]
        have hp := hp.1 h
        exact T_0_renew_111 (F_0_renew_30 n) (P_0_renew_30 n) ih x1 M hp
      · rw [if_pos h]
        have hp := hp.2 h
        obtain ⟨p0, p1, p2, hp⟩ := hp
        refine b0_renew_55 p0 p1 p2 ?_
        exact T_0_renew_111 (F_0_renew_30 n) (P_0_renew_30 n) ih x1 (wr (wr M 1600 ((rd M 1567 x1.toNatClampNeg).toNatClampNeg) ((rd M 1600 ((rd M 1567 x1.toNatClampNeg).toNatClampNeg)) ||| ((1 : Int32) <<< ((rd M 1568 x1.toNatClampNeg) &&& 31)))) 1601 ((rd (wr M 1600 ((rd M 1567 x1.toNatClampNeg).toNatClampNeg) ((rd M 1600 ((rd M 1567 x1.toNatClampNeg).toNatClampNeg)) ||| ((1 : Int32) <<< ((rd M 1568 x1.toNatClampNeg) &&& 31)))) 1568 x1.toNatClampNeg).toNatClampNeg) ((rd (wr M 1600 ((rd M 1567 x1.toNatClampNeg).toNatClampNeg) ((rd M 1600 ((rd M 1567 x1.toNatClampNeg).toNatClampNeg)) ||| ((1 : Int32) <<< ((rd M 1568 x1.toNatClampNeg) &&& 31)))) 1601 ((rd (wr M 1600 ((rd M 1567 x1.toNatClampNeg).toNatClampNeg) ((rd M 1600 ((rd M 1567 x1.toNatClampNeg).toNatClampNeg)) ||| ((1 : Int32) <<< ((rd M 1568 x1.toNatClampNeg) &&& 31)))) 1568 x1.toNatClampNeg).toNatClampNeg)) ||| ((1 : Int32) <<< ((rd (wr M 1600 ((rd M 1567 x1.toNatClampNeg).toNatClampNeg) ((rd M 1600 ((rd M 1567 x1.toNatClampNeg).toNatClampNeg)) ||| ((1 : Int32) <<< ((rd M 1568 x1.toNatClampNeg) &&& 31)))) 1567 x1.toNatClampNeg) &&& 31)))) hp
def F_0_renew_2  : Nat → Int32 → Mem → Mem
  | 0, _, M => M
  | n + 1, x1, M => if (10 : Int32) ≤ x1 then (F_0_renew_30 FU 0 M) else ((F_0_renew_2 n) (x1 + 1) (wr (wr M 1600 x1.toNatClampNeg 0) 1601 x1.toNatClampNeg 0))
def P_0_renew_2  : Nat → Int32 → Mem → Prop
  | 0, _, _ => False
  | n + 1, x1, M => (((10 : Int32) ≤ x1 → (P_0_renew_30 FU 0 M)) ∧ (¬ (10 : Int32) ≤ x1 → (vp_in x1 10) ∧ ((P_0_renew_2 n) (x1 + 1) (wr (wr M 1600 x1.toNatClampNeg 0) 1601 x1.toNatClampNeg 0))))
theorem T_0_renew_2 {g : Gl} : ∀ (n : Nat) (x1 : Int32) (M : Mem) (hp : P_0_renew_2 n x1 M), Rn g 0 m0_renew 2 [some (.ref 1599), some (.int x1)] [] M (none) ((F_0_renew_2 n x1 M)) := by
  intro n
  induction n with
  | zero => intro x1 M hp; exact hp.elim
  | succ n ih =>
    intro x1 M hp
    rw [F_0_renew_2]
    rw [P_0_renew_2] at hp
    refine b0_renew_2  (fun h => ?_) (fun h => ?_)
    · rw [if_pos h]
      have hp := hp.1 h
      refine b0_renew_28  ?_
      exact T_0_renew_30 FU 0 M hp
    · rw [if_neg h]
      have hp := hp.2 h
      obtain ⟨p0, hp⟩ := hp
      refine b0_renew_8 p0 ?_
      exact ih (x1 + 1) (wr (wr M 1600 x1.toNatClampNeg 0) 1601 x1.toNatClampNeg 0) hp
def F_0_renew_0 (M : Mem) : Mem := F_0_renew_2 FU 0 M
def P_0_renew_0 (M : Mem) : Prop := (P_0_renew_2 FU 0 M)
theorem T_0_renew_0 {g : Gl} (M : Mem) (hp : P_0_renew_0 M) : Rn g 0 m0_renew 0 [some (.ref 1599), none] [] M (none) ((F_0_renew_0 M)) := by
  rw [F_0_renew_0]
  rw [P_0_renew_0] at hp
  refine b0_renew_0  ?_
  exact T_0_renew_2 FU 0 M hp
theorem C_0_renew {g : Gl}   (M : Mem) (hp : P_0_renew_0 M) : Ms g 0 m0_renew [.ref 1599] M (none) ((F_0_renew_0 M)) := Ms.of okM_m0_renew (Nat.le_of_ble_eq_true rfl) (R_wk (lc rfl (ln l0)) (T_0_renew_0 M hp))
def F_0_aheadOf_19 (M : Mem) : Int32 := 0
theorem T_0_aheadOf_19 {g : Gl} (M : Mem)  : Rn g 0 m0_aheadOf 19 [none, none] [] M (some (.int (F_0_aheadOf_19 M))) (M) := by
  rw [F_0_aheadOf_19]
  refine b0_aheadOf_19  ?_
  exact b0_aheadOf_20  rfl rfl
def F_0_aheadOf_0 (M : Mem) (x1 : Int32) : Int32 := if x1 < 0 then (F_0_aheadOf_19 M) else (if (10 : Int32) ≤ x1 then (F_0_aheadOf_19 M) else ((rd M 1600 x1.toNatClampNeg)))
def P_0_aheadOf_0 (M : Mem) (x1 : Int32) : Prop := ((x1 < 0 → True) ∧ (¬ x1 < 0 → (((10 : Int32) ≤ x1 → True) ∧ (¬ (10 : Int32) ≤ x1 → (vp_in x1 10)))))
theorem T_0_aheadOf_0 {g : Gl} (M : Mem) (x1 : Int32) (hp : P_0_aheadOf_0 M x1) : Rn g 0 m0_aheadOf 0 [some (.ref 1599), some (.int x1)] [] M (some (.int (F_0_aheadOf_0 M x1))) (M) := by
  rw [F_0_aheadOf_0]
  rw [P_0_aheadOf_0] at hp
  refine b0_aheadOf_0  (fun h => ?_) (fun h => ?_)
  · rw [if_pos h]
    exact T_0_aheadOf_19 _
  · rw [if_neg h]
    have hp := hp.2 h
    refine b0_aheadOf_4  (fun h => ?_) (fun h => ?_)
    · rw [if_pos h]
      exact T_0_aheadOf_19 _
    · rw [if_neg h]
      have hp := hp.2 h
      have p0 := hp
      refine b0_aheadOf_10 p0 ?_
      exact b0_aheadOf_20  rfl rfl
theorem C_0_aheadOf {g : Gl}  (x1 : Int32) (M : Mem) (hp : P_0_aheadOf_0 M x1) : Ms g 0 m0_aheadOf [.ref 1599, .int x1] M (some (.int (F_0_aheadOf_0 M x1))) (M) := Ms.of okM_m0_aheadOf (Nat.le_of_ble_eq_true rfl) (R_wk (lc rfl (lc rfl l0)) (T_0_aheadOf_0 M x1 hp))
def F_0_joineda_33 (k5 : Int32 → Int32 → Int32 → Int32) (M : Mem) (x2 : Int32) (x3 : Int32) (x4 : Int32) : Int32 := k5 x2 x3 (x4 + 1)
def P_0_joineda_33 (pk5 : Int32 → Int32 → Int32 → Prop) (M : Mem) (x2 : Int32) (x3 : Int32) (x4 : Int32) : Prop := (pk5 x2 x3 (x4 + 1))
theorem T_0_joineda_33 {g : Gl} (k5 : Int32 → Int32 → Int32 → Int32) (pk5 : Int32 → Int32 → Int32 → Prop) (M : Mem) (ih5 : ∀ (x2 : Int32) (x3 : Int32) (x4 : Int32), pk5 x2 x3 x4 → Rn g 0 m0_joined 5 [some (.ref 1599), some (.ref 1600), some (.int x2), some (.int x3), some (.int x4)] [] M (some (.int (k5 x2 x3 x4))) (M)) (x2 : Int32) (x3 : Int32) (x4 : Int32) (hp : P_0_joineda_33 pk5 M x2 x3 x4) : Rn g 0 m0_joined 33 [some (.ref 1599), some (.ref 1600), some (.int x2), some (.int x3), some (.int x4)] [] M (some (.int (F_0_joineda_33 k5 M x2 x3 x4))) (M) := by
  rw [F_0_joineda_33]
  rw [P_0_joineda_33] at hp
  refine b0_joineda_33  ?_
  exact ih5 x2 x3 (x4 + 1) hp
def F_0_joineda_5 (M : Mem) : Nat → Int32 → Int32 → Int32 → Int32
  | 0, _, _, _ => 0
  | n + 1, x2, x3, x4 => if (rd M 1561 0) ≤ x4 then (x3) else (if ((x2 >>> (x4 &&& 31)) &&& 1) = 0 then (F_0_joineda_33 (F_0_joineda_5 M n) M x2 x3 x4) else (F_0_joineda_33 (F_0_joineda_5 M n) M x2 (x3 ||| (rd M 1600 x4.toNatClampNeg)) x4))
def P_0_joineda_5 (M : Mem) : Nat → Int32 → Int32 → Int32 → Prop
  | 0, _, _, _ => False
  | n + 1, x2, x3, x4 => (((rd M 1561 0) ≤ x4 → True) ∧ (¬ (rd M 1561 0) ≤ x4 → ((((x2 >>> (x4 &&& 31)) &&& 1) = 0 → P_0_joineda_33 (P_0_joineda_5 M n) M x2 x3 x4) ∧ (¬ ((x2 >>> (x4 &&& 31)) &&& 1) = 0 → (vp_in x4 10) ∧ (P_0_joineda_33 (P_0_joineda_5 M n) M x2 (x3 ||| (rd M 1600 x4.toNatClampNeg)) x4)))))
theorem T_0_joineda_5 {g : Gl} (M : Mem) : ∀ (n : Nat) (x2 : Int32) (x3 : Int32) (x4 : Int32) (hp : P_0_joineda_5 M n x2 x3 x4), Rn g 0 m0_joined 5 [some (.ref 1599), some (.ref 1600), some (.int x2), some (.int x3), some (.int x4)] [] M (some (.int (F_0_joineda_5 M n x2 x3 x4))) (M) := by
  intro n
  induction n with
  | zero => intro x2 x3 x4 hp; exact hp.elim
  | succ n ih =>
    intro x2 x3 x4 hp
    rw [F_0_joineda_5]
    rw [P_0_joineda_5] at hp
    refine b0_joineda_5  (fun h => ?_) (fun h => ?_)
    · rw [if_pos h]
      exact b0_joineda_39  rfl rfl
    · rw [if_neg h]
      have hp := hp.2 h
      refine b0_joineda_17  (fun h => ?_) (fun h => ?_)
      · rw [if_pos h]
        have hp := hp.1 h
        exact T_0_joineda_33 (F_0_joineda_5 M n) (P_0_joineda_5 M n) _ ih x2 x3 x4 hp
      · rw [if_neg h]
        have hp := hp.2 h
        obtain ⟨p0, hp⟩ := hp
        refine b0_joineda_26 p0 ?_
        exact T_0_joineda_33 (F_0_joineda_5 M n) (P_0_joineda_5 M n) _ ih x2 (x3 ||| (rd M 1600 x4.toNatClampNeg)) x4 hp
def F_0_joineda_0 (M : Mem) (x2 : Int32) : Int32 := F_0_joineda_5 M FU x2 0 0
def P_0_joineda_0 (M : Mem) (x2 : Int32) : Prop := (P_0_joineda_5 M FU x2 0 0)
theorem T_0_joineda_0 {g : Gl} (M : Mem) (x2 : Int32) (hp : P_0_joineda_0 M x2) : Rn g 0 m0_joined 0 [some (.ref 1599), some (.ref 1600), some (.int x2), none, none] [] M (some (.int (F_0_joineda_0 M x2))) (M) := by
  rw [F_0_joineda_0]
  rw [P_0_joineda_0] at hp
  refine b0_joineda_0  ?_
  exact T_0_joineda_5 _ FU x2 0 0 hp
theorem C_0_joineda {g : Gl}  (x2 : Int32) (M : Mem) (hp : P_0_joineda_0 M x2) : Ms g 0 m0_joined [.ref 1599, .ref 1600, .int x2] M (some (.int (F_0_joineda_0 M x2))) (M) := Ms.of okM_m0_joined (Nat.le_of_ble_eq_true rfl) (R_wk (lc rfl (lc rfl (lc rfl (ln (ln l0))))) (T_0_joineda_0 M x2 hp))
def F_0_joinedb_33 (k5 : Int32 → Int32 → Int32 → Int32) (M : Mem) (x2 : Int32) (x3 : Int32) (x4 : Int32) : Int32 := k5 x2 x3 (x4 + 1)
def P_0_joinedb_33 (pk5 : Int32 → Int32 → Int32 → Prop) (M : Mem) (x2 : Int32) (x3 : Int32) (x4 : Int32) : Prop := (pk5 x2 x3 (x4 + 1))
theorem T_0_joinedb_33 {g : Gl} (k5 : Int32 → Int32 → Int32 → Int32) (pk5 : Int32 → Int32 → Int32 → Prop) (M : Mem) (ih5 : ∀ (x2 : Int32) (x3 : Int32) (x4 : Int32), pk5 x2 x3 x4 → Rn g 0 m0_joined 5 [some (.ref 1599), some (.ref 1601), some (.int x2), some (.int x3), some (.int x4)] [] M (some (.int (k5 x2 x3 x4))) (M)) (x2 : Int32) (x3 : Int32) (x4 : Int32) (hp : P_0_joinedb_33 pk5 M x2 x3 x4) : Rn g 0 m0_joined 33 [some (.ref 1599), some (.ref 1601), some (.int x2), some (.int x3), some (.int x4)] [] M (some (.int (F_0_joinedb_33 k5 M x2 x3 x4))) (M) := by
  rw [F_0_joinedb_33]
  rw [P_0_joinedb_33] at hp
  refine b0_joinedb_33  ?_
  exact ih5 x2 x3 (x4 + 1) hp
def F_0_joinedb_5 (M : Mem) : Nat → Int32 → Int32 → Int32 → Int32
  | 0, _, _, _ => 0
  | n + 1, x2, x3, x4 => if (rd M 1561 0) ≤ x4 then (x3) else (if ((x2 >>> (x4 &&& 31)) &&& 1) = 0 then (F_0_joinedb_33 (F_0_joinedb_5 M n) M x2 x3 x4) else (F_0_joinedb_33 (F_0_joinedb_5 M n) M x2 (x3 ||| (rd M 1601 x4.toNatClampNeg)) x4))
def P_0_joinedb_5 (M : Mem) : Nat → Int32 → Int32 → Int32 → Prop
  | 0, _, _, _ => False
  | n + 1, x2, x3, x4 => (((rd M 1561 0) ≤ x4 → True) ∧ (¬ (rd M 1561 0) ≤ x4 → ((((x2 >>> (x4 &&& 31)) &&& 1) = 0 → P_0_joinedb_33 (P_0_joinedb_5 M n) M x2 x3 x4) ∧ (¬ ((x2 >>> (x4 &&& 31)) &&& 1) = 0 → (vp_in x4 10) ∧ (P_0_joinedb_33 (P_0_joinedb_5 M n) M x2 (x3 ||| (rd M 1601 x4.toNatClampNeg)) x4)))))
theorem T_0_joinedb_5 {g : Gl} (M : Mem) : ∀ (n : Nat) (x2 : Int32) (x3 : Int32) (x4 : Int32) (hp : P_0_joinedb_5 M n x2 x3 x4), Rn g 0 m0_joined 5 [some (.ref 1599), some (.ref 1601), some (.int x2), some (.int x3), some (.int x4)] [] M (some (.int (F_0_joinedb_5 M n x2 x3 x4))) (M) := by
  intro n
  induction n with
  | zero => intro x2 x3 x4 hp; exact hp.elim
  | succ n ih =>
    intro x2 x3 x4 hp
    rw [F_0_joinedb_5]
    rw [P_0_joinedb_5] at hp
    refine b0_joinedb_5  (fun h => ?_) (fun h => ?_)
    · rw [if_pos h]
      exact b0_joinedb_39  rfl rfl
    · rw [if_neg h]
      have hp := hp.2 h
      refine b0_joinedb_17  (fun h => ?_) (fun h => ?_)
      · rw [if_pos h]
        have hp := hp.1 h
        exact T_0_joinedb_33 (F_0_joinedb_5 M n) (P_0_joinedb_5 M n) _ ih x2 x3 x4 hp
      · rw [if_neg h]
        have hp := hp.2 h
        obtain ⟨p0, hp⟩ := hp
        refine b0_joinedb_26 p0 ?_
        exact T_0_joinedb_33 (F_0_joinedb_5 M n) (P_0_joinedb_5 M n) _ ih x2 (x3 ||| (rd M 1601 x4.toNatClampNeg)) x4 hp
def F_0_joinedb_0 (M : Mem) (x2 : Int32) : Int32 := F_0_joinedb_5 M FU x2 0 0
def P_0_joinedb_0 (M : Mem) (x2 : Int32) : Prop := (P_0_joinedb_5 M FU x2 0 0)
theorem T_0_joinedb_0 {g : Gl} (M : Mem) (x2 : Int32) (hp : P_0_joinedb_0 M x2) : Rn g 0 m0_joined 0 [some (.ref 1599), some (.ref 1601), some (.int x2), none, none] [] M (some (.int (F_0_joinedb_0 M x2))) (M) := by
  rw [F_0_joinedb_0]
  rw [P_0_joinedb_0] at hp
  refine b0_joinedb_0  ?_
  exact T_0_joinedb_5 _ FU x2 0 0 hp
theorem C_0_joinedb {g : Gl}  (x2 : Int32) (M : Mem) (hp : P_0_joinedb_0 M x2) : Ms g 0 m0_joined [.ref 1599, .ref 1601, .int x2] M (some (.int (F_0_joinedb_0 M x2))) (M) := Ms.of okM_m0_joined (Nat.le_of_ble_eq_true rfl) (R_wk (lc rfl (lc rfl (lc rfl (ln (ln l0))))) (T_0_joinedb_0 M x2 hp))
def F_0_oneAhead_0 (M : Mem) (x1 : Int32) : Int32 := (F_0_joineda_0 M x1)
def P_0_oneAhead_0 (M : Mem) (x1 : Int32) : Prop := ((P_0_joineda_0 M x1))
theorem T_0_oneAhead_0 {g : Gl} (M : Mem) (x1 : Int32) (hp : P_0_oneAhead_0 M x1) : Rn g 1 m0_oneAhead 0 [some (.ref 1599), some (.int x1)] [] M (some (.int (F_0_oneAhead_0 M x1))) (M) := by
  rw [F_0_oneAhead_0]
  rw [P_0_oneAhead_0] at hp
  have hc := hp
  refine b0_oneAhead_0  (C_0_joineda x1 M hc) (Nat.le_of_ble_eq_true rfl) ?_
  exact b0_oneAhead_9  rfl rfl
theorem C_0_oneAhead {g : Gl}  (x1 : Int32) (M : Mem) (hp : P_0_oneAhead_0 M x1) : Ms g 1 m0_oneAhead [.ref 1599, .int x1] M (some (.int (F_0_oneAhead_0 M x1))) (M) := Ms.of okM_m0_oneAhead (Nat.le_of_ble_eq_true rfl) (R_wk (lc rfl (lc rfl l0)) (T_0_oneAhead_0 M x1 hp))
def F_0_closurea_5 (M : Mem) : Nat → Int32 → Int32 → Int32
  | 0, _, _ => 0
  | n + 1, x3, x4 => if (10 : Int32) ≤ x4 then (x3) else (if (x3 ||| (F_0_joineda_0 M x3)) = x3 then (x3) else ((F_0_closurea_5 M n) (x3 ||| (F_0_joineda_0 M x3)) (x4 + 1)))
def P_0_closurea_5 (M : Mem) : Nat → Int32 → Int32 → Prop
  | 0, _, _ => False
  | n + 1, x3, x4 => (((10 : Int32) ≤ x4 → True) ∧ (¬ (10 : Int32) ≤ x4 → ((P_0_joineda_0 M x3) ∧ (((¬ (x3 ||| (F_0_joineda_0 M x3)) = x3 → ((P_0_closurea_5 M n) (x3 ||| (F_0_joineda_0 M x3)) (x4 + 1))) ∧ ((x3 ||| (F_0_joineda_0 M x3)) = x3 → True))))))
theorem T_0_closurea_5 {g : Gl} (M : Mem) : ∀ (n : Nat) (x3 : Int32) (x4 : Int32) (hp : P_0_closurea_5 M n x3 x4), Rn g 1 m0_closure 5 [some (.ref 1599), some (.ref 1600), none, some (.int x3), some (.int x4), none] [] M (some (.int (F_0_closurea_5 M n x3 x4))) (M) := by
  intro n
  induction n with
  | zero => intro x3 x4 hp; exact hp.elim
  | succ n ih =>
    intro x3 x4 hp
    rw [F_0_closurea_5]
    rw [P_0_closurea_5] at hp
    refine b0_closurea_5  (fun h => ?_) (fun h => ?_)
    · rw [if_pos h]
      exact b0_closurea_39  rfl rfl
    · rw [if_neg h]
      have hp := hp.2 h
      obtain ⟨hc, hp⟩ := hp
      refine b0_closurea_12  (C_0_joineda x3 M hc) (Nat.le_of_ble_eq_true rfl) ?_
      refine b0_closurea_19  (fun h => ?_) (fun h => ?_)
      · rw [if_neg h]
        have hp := hp.1 h
        refine b0_closurea_30  ?_
        exact ih (x3 ||| (F_0_joineda_0 M x3)) (x4 + 1) hp
      · rw [if_pos h]
        exact b0_closurea_28  rfl rfl
def F_0_closurea_0 (M : Mem) (x2 : Int32) : Int32 := F_0_closurea_5 M FU x2 0
def P_0_closurea_0 (M : Mem) (x2 : Int32) : Prop := (P_0_closurea_5 M FU x2 0)
theorem T_0_closurea_0 {g : Gl} (M : Mem) (x2 : Int32) (hp : P_0_closurea_0 M x2) : Rn g 1 m0_closure 0 [some (.ref 1599), some (.ref 1600), some (.int x2), none, none, none] [] M (some (.int (F_0_closurea_0 M x2))) (M) := by
  rw [F_0_closurea_0]
  rw [P_0_closurea_0] at hp
  refine b0_closurea_0  ?_
  exact T_0_closurea_5 _ FU x2 0 hp
theorem C_0_closurea {g : Gl}  (x2 : Int32) (M : Mem) (hp : P_0_closurea_0 M x2) : Ms g 1 m0_closure [.ref 1599, .ref 1600, .int x2] M (some (.int (F_0_closurea_0 M x2))) (M) := Ms.of okM_m0_closure (Nat.le_of_ble_eq_true rfl) (R_wk (lc rfl (lc rfl (lc rfl (ln (ln (ln l0)))))) (T_0_closurea_0 M x2 hp))
def F_0_closureb_5 (M : Mem) : Nat → Int32 → Int32 → Int32
  | 0, _, _ => 0
  | n + 1, x3, x4 => if (10 : Int32) ≤ x4 then (x3) else (if (x3 ||| (F_0_joinedb_0 M x3)) = x3 then (x3) else ((F_0_closureb_5 M n) (x3 ||| (F_0_joinedb_0 M x3)) (x4 + 1)))
def P_0_closureb_5 (M : Mem) : Nat → Int32 → Int32 → Prop
  | 0, _, _ => False
  | n + 1, x3, x4 => (((10 : Int32) ≤ x4 → True) ∧ (¬ (10 : Int32) ≤ x4 → ((P_0_joinedb_0 M x3) ∧ (((¬ (x3 ||| (F_0_joinedb_0 M x3)) = x3 → ((P_0_closureb_5 M n) (x3 ||| (F_0_joinedb_0 M x3)) (x4 + 1))) ∧ ((x3 ||| (F_0_joinedb_0 M x3)) = x3 → True))))))
theorem T_0_closureb_5 {g : Gl} (M : Mem) : ∀ (n : Nat) (x3 : Int32) (x4 : Int32) (hp : P_0_closureb_5 M n x3 x4), Rn g 1 m0_closure 5 [some (.ref 1599), some (.ref 1601), none, some (.int x3), some (.int x4), none] [] M (some (.int (F_0_closureb_5 M n x3 x4))) (M) := by
  intro n
  induction n with
  | zero => intro x3 x4 hp; exact hp.elim
  | succ n ih =>
    intro x3 x4 hp
    rw [F_0_closureb_5]
    rw [P_0_closureb_5] at hp
    refine b0_closureb_5  (fun h => ?_) (fun h => ?_)
    · rw [if_pos h]
      exact b0_closureb_39  rfl rfl
    · rw [if_neg h]
      have hp := hp.2 h
      obtain ⟨hc, hp⟩ := hp
      refine b0_closureb_12  (C_0_joinedb x3 M hc) (Nat.le_of_ble_eq_true rfl) ?_
      refine b0_closureb_19  (fun h => ?_) (fun h => ?_)
      · rw [if_neg h]
        have hp := hp.1 h
        refine b0_closureb_30  ?_
        exact ih (x3 ||| (F_0_joinedb_0 M x3)) (x4 + 1) hp
      · rw [if_pos h]
        exact b0_closureb_28  rfl rfl
def F_0_closureb_0 (M : Mem) (x2 : Int32) : Int32 := F_0_closureb_5 M FU x2 0
def P_0_closureb_0 (M : Mem) (x2 : Int32) : Prop := (P_0_closureb_5 M FU x2 0)
theorem T_0_closureb_0 {g : Gl} (M : Mem) (x2 : Int32) (hp : P_0_closureb_0 M x2) : Rn g 1 m0_closure 0 [some (.ref 1599), some (.ref 1601), some (.int x2), none, none, none] [] M (some (.int (F_0_closureb_0 M x2))) (M) := by
  rw [F_0_closureb_0]
  rw [P_0_closureb_0] at hp
  refine b0_closureb_0  ?_
  exact T_0_closureb_5 _ FU x2 0 hp
theorem C_0_closureb {g : Gl}  (x2 : Int32) (M : Mem) (hp : P_0_closureb_0 M x2) : Ms g 1 m0_closure [.ref 1599, .ref 1601, .int x2] M (some (.int (F_0_closureb_0 M x2))) (M) := Ms.of okM_m0_closure (Nat.le_of_ble_eq_true rfl) (R_wk (lc rfl (lc rfl (lc rfl (ln (ln (ln l0)))))) (T_0_closureb_0 M x2 hp))
def F_0_reachFrom_0 (M : Mem) (x1 : Int32) : Int32 := (F_0_closurea_0 M x1)
def P_0_reachFrom_0 (M : Mem) (x1 : Int32) : Prop := ((P_0_closurea_0 M x1))
theorem T_0_reachFrom_0 {g : Gl} (M : Mem) (x1 : Int32) (hp : P_0_reachFrom_0 M x1) : Rn g 2 m0_reachFrom 0 [some (.ref 1599), some (.int x1)] [] M (some (.int (F_0_reachFrom_0 M x1))) (M) := by
  rw [F_0_reachFrom_0]
  rw [P_0_reachFrom_0] at hp
  have hc := hp
  refine b0_reachFrom_0  (C_0_closurea x1 M hc) (Nat.le_of_ble_eq_true rfl) ?_
  exact b0_reachFrom_9  rfl rfl
theorem C_0_reachFrom {g : Gl}  (x1 : Int32) (M : Mem) (hp : P_0_reachFrom_0 M x1) : Ms g 2 m0_reachFrom [.ref 1599, .int x1] M (some (.int (F_0_reachFrom_0 M x1))) (M) := Ms.of okM_m0_reachFrom (Nat.le_of_ble_eq_true rfl) (R_wk (lc rfl (lc rfl l0)) (T_0_reachFrom_0 M x1 hp))
def F_0_reachTo_0 (M : Mem) (x1 : Int32) : Int32 := (F_0_closureb_0 M x1)
def P_0_reachTo_0 (M : Mem) (x1 : Int32) : Prop := ((P_0_closureb_0 M x1))
theorem T_0_reachTo_0 {g : Gl} (M : Mem) (x1 : Int32) (hp : P_0_reachTo_0 M x1) : Rn g 2 m0_reachTo 0 [some (.ref 1599), some (.int x1)] [] M (some (.int (F_0_reachTo_0 M x1))) (M) := by
  rw [F_0_reachTo_0]
  rw [P_0_reachTo_0] at hp
  have hc := hp
  refine b0_reachTo_0  (C_0_closureb x1 M hc) (Nat.le_of_ble_eq_true rfl) ?_
  exact b0_reachTo_9  rfl rfl
theorem C_0_reachTo {g : Gl}  (x1 : Int32) (M : Mem) (hp : P_0_reachTo_0 M x1) : Ms g 2 m0_reachTo [.ref 1599, .int x1] M (some (.int (F_0_reachTo_0 M x1))) (M) := Ms.of okM_m0_reachTo (Nat.le_of_ble_eq_true rfl) (R_wk (lc rfl (lc rfl l0)) (T_0_reachTo_0 M x1 hp))
def F_0_wingOf_0 (M : Mem) (x1 : Int32) : Int32 := ((F_0_reachFrom_0 M x1) &&& (F_0_reachTo_0 M x1))
def P_0_wingOf_0 (M : Mem) (x1 : Int32) : Prop := ((P_0_reachFrom_0 M x1) ∧ (((P_0_reachTo_0 M x1))))
theorem T_0_wingOf_0 {g : Gl} (M : Mem) (x1 : Int32) (hp : P_0_wingOf_0 M x1) : Rn g 3 m0_wingOf 0 [some (.ref 1599), some (.int x1)] [] M (some (.int (F_0_wingOf_0 M x1))) (M) := by
  rw [F_0_wingOf_0]
  rw [P_0_wingOf_0] at hp
  obtain ⟨hc, hp⟩ := hp
  refine b0_wingOf_0  (C_0_reachFrom x1 M hc) (Nat.le_of_ble_eq_true rfl) ?_
  have hc := hp
  refine b0_wingOf_5  (C_0_reachTo x1 M hc) (Nat.le_of_ble_eq_true rfl) ?_
  exact b0_wingOf_10  rfl rfl
theorem C_0_wingOf {g : Gl}  (x1 : Int32) (M : Mem) (hp : P_0_wingOf_0 M x1) : Ms g 3 m0_wingOf [.ref 1599, .int x1] M (some (.int (F_0_wingOf_0 M x1))) (M) := Ms.of okM_m0_wingOf (Nat.le_of_ble_eq_true rfl) (R_wk (lc rfl (lc rfl l0)) (T_0_wingOf_0 M x1 hp))
def F_0_fewestDoors_5 (M : Mem) : Nat → Int32 → Int32 → Int32 → Int32
  | 0, _, _, _ => 0
  | n + 1, x2, x3, x4 => if (10 : Int32) < x4 then ((-1)) else (if (x3 &&& x2) = 0 then ((F_0_fewestDoors_5 M n) x2 (x3 ||| (F_0_oneAhead_0 M x3)) (x4 + 1)) else (x4))
def P_0_fewestDoors_5 (M : Mem) : Nat → Int32 → Int32 → Int32 → Prop
  | 0, _, _, _ => False
  | n + 1, x2, x3, x4 => (((10 : Int32) < x4 → True) ∧ (¬ (10 : Int32) < x4 → (((x3 &&& x2) = 0 → ((P_0_oneAhead_0 M x3) ∧ (((P_0_fewestDoors_5 M n) x2 (x3 ||| (F_0_oneAhead_0 M x3)) (x4 + 1))))) ∧ (¬ (x3 &&& x2) = 0 → True))))
theorem T_0_fewestDoors_5 {g : Gl} (M : Mem) : ∀ (n : Nat) (x2 : Int32) (x3 : Int32) (x4 : Int32) (hp : P_0_fewestDoors_5 M n x2 x3 x4), Rn g 2 m0_fewestDoors 5 [some (.ref 1599), none, some (.int x2), some (.int x3), some (.int x4)] [] M (some (.int (F_0_fewestDoors_5 M n x2 x3 x4))) (M) := by
  intro n
  induction n with
  | zero => intro x2 x3 x4 hp; exact hp.elim
  | succ n ih =>
    intro x2 x3 x4 hp
    rw [F_0_fewestDoors_5]
    rw [P_0_fewestDoors_5] at hp
    refine b0_fewestDoors_5  (fun h => ?_) (fun h => ?_)
    · rw [if_pos h]
      exact b0_fewestDoors_35  rfl rfl
    · rw [if_neg h]
      have hp := hp.2 h
      refine b0_fewestDoors_12  (fun h => ?_) (fun h => ?_)
      · rw [if_pos h]
        have hp := hp.1 h
        obtain ⟨hc, hp⟩ := hp
        refine b0_fewestDoors_21  (C_0_oneAhead x3 M hc) (Nat.le_of_ble_eq_true rfl) ?_
        refine b0_fewestDoors_27  ?_
        exact ih x2 (x3 ||| (F_0_oneAhead_0 M x3)) (x4 + 1) hp
      · rw [if_neg h]
        exact b0_fewestDoors_18  rfl rfl
def F_0_fewestDoors_0 (M : Mem) (x1 : Int32) (x2 : Int32) : Int32 := F_0_fewestDoors_5 M FU x2 x1 0
def P_0_fewestDoors_0 (M : Mem) (x1 : Int32) (x2 : Int32) : Prop := (P_0_fewestDoors_5 M FU x2 x1 0)
theorem T_0_fewestDoors_0 {g : Gl} (M : Mem) (x1 : Int32) (x2 : Int32) (hp : P_0_fewestDoors_0 M x1 x2) : Rn g 2 m0_fewestDoors 0 [some (.ref 1599), some (.int x1), some (.int x2), none, none] [] M (some (.int (F_0_fewestDoors_0 M x1 x2))) (M) := by
  rw [F_0_fewestDoors_0]
  rw [P_0_fewestDoors_0] at hp
  refine b0_fewestDoors_0  ?_
  exact T_0_fewestDoors_5 _ FU x2 x1 0 hp
theorem C_0_fewestDoors {g : Gl}  (x1 : Int32) (x2 : Int32) (M : Mem) (hp : P_0_fewestDoors_0 M x1 x2) : Ms g 2 m0_fewestDoors [.ref 1599, .int x1, .int x2] M (some (.int (F_0_fewestDoors_0 M x1 x2))) (M) := Ms.of okM_m0_fewestDoors (Nat.le_of_ble_eq_true rfl) (R_wk (lc rfl (lc rfl (lc rfl (ln (ln l0))))) (T_0_fewestDoors_0 M x1 x2 hp))
def F_0_firstDoor_103 (k41 : Int32 → Int32 → Int32 → Int32 → Int32) (M : Mem) (x2 : Int32) (x3 : Int32) (x4 : Int32) (x5 : Int32) : Int32 := k41 x2 x3 x4 (x5 + 1)
def P_0_firstDoor_103 (pk41 : Int32 → Int32 → Int32 → Int32 → Prop) (M : Mem) (x2 : Int32) (x3 : Int32) (x4 : Int32) (x5 : Int32) : Prop := (pk41 x2 x3 x4 (x5 + 1))
theorem T_0_firstDoor_103 {g : Gl} (k41 : Int32 → Int32 → Int32 → Int32 → Int32) (pk41 : Int32 → Int32 → Int32 → Int32 → Prop) (M : Mem) (ih41 : ∀ (x2 : Int32) (x3 : Int32) (x4 : Int32) (x5 : Int32), pk41 x2 x3 x4 x5 → Rn g 3 m0_firstDoor 41 [some (.ref 1599), none, some (.int x2), some (.int x3), some (.int x4), some (.int x5), none] [] M (some (.int (k41 x2 x3 x4 x5))) (M)) (x2 : Int32) (x3 : Int32) (x4 : Int32) (x5 : Int32) (hp : P_0_firstDoor_103 pk41 M x2 x3 x4 x5) : Rn g 3 m0_firstDoor 103 [some (.ref 1599), none, some (.int x2), some (.int x3), some (.int x4), some (.int x5), none] [] M (some (.int (F_0_firstDoor_103 k41 M x2 x3 x4 x5))) (M) := by
  rw [F_0_firstDoor_103]
  rw [P_0_firstDoor_103] at hp
  refine b0_firstDoor_103  ?_
  exact ih41 x2 x3 x4 (x5 + 1) hp
def F_0_firstDoor_68 (k41 : Int32 → Int32 → Int32 → Int32 → Int32) (M : Mem) (x2 : Int32) (x3 : Int32) (x4 : Int32) (x5 : Int32) (xs0 : Int32) : Int32 := if xs0 = 0 then (F_0_firstDoor_103 k41 M x2 x3 x4 x5) else (if (F_0_fewestDoors_0 M ((1 : Int32) <<< ((rd M 1568 x5.toNatClampNeg) &&& 31)) ((1 : Int32) <<< (x2 &&& 31))) = (x3 - 1) then (x5) else (F_0_firstDoor_103 k41 M x2 x3 x4 x5))
def P_0_firstDoor_68 (pk41 : Int32 → Int32 → Int32 → Int32 → Prop) (M : Mem) (x2 : Int32) (x3 : Int32) (x4 : Int32) (x5 : Int32) (xs0 : Int32) : Prop := ((xs0 = 0 → P_0_firstDoor_103 pk41 M x2 x3 x4 x5) ∧ (¬ xs0 = 0 → (vp_in x5 24) ∧ ((P_0_fewestDoors_0 M ((1 : Int32) <<< ((rd M 1568 x5.toNatClampNeg) &&& 31)) ((1 : Int32) <<< (x2 &&& 31))) ∧ (((¬ (F_0_fewestDoors_0 M ((1 : Int32) <<< ((rd M 1568 x5.toNatClampNeg) &&& 31)) ((1 : Int32) <<< (x2 &&& 31))) = (x3 - 1) → P_0_firstDoor_103 pk41 M x2 x3 x4 x5) ∧ ((F_0_fewestDoors_0 M ((1 : Int32) <<< ((rd M 1568 x5.toNatClampNeg) &&& 31)) ((1 : Int32) <<< (x2 &&& 31))) = (x3 - 1) → True))))))
theorem T_0_firstDoor_68 {g : Gl} (k41 : Int32 → Int32 → Int32 → Int32 → Int32) (pk41 : Int32 → Int32 → Int32 → Int32 → Prop) (M : Mem) (ih41 : ∀ (x2 : Int32) (x3 : Int32) (x4 : Int32) (x5 : Int32), pk41 x2 x3 x4 x5 → Rn g 3 m0_firstDoor 41 [some (.ref 1599), none, some (.int x2), some (.int x3), some (.int x4), some (.int x5), none] [] M (some (.int (k41 x2 x3 x4 x5))) (M)) (x2 : Int32) (x3 : Int32) (x4 : Int32) (x5 : Int32) (xs0 : Int32) (hp : P_0_firstDoor_68 pk41 M x2 x3 x4 x5 xs0) : Rn g 3 m0_firstDoor 68 [some (.ref 1599), none, some (.int x2), some (.int x3), some (.int x4), some (.int x5), none] [.int xs0] M (some (.int (F_0_firstDoor_68 k41 M x2 x3 x4 x5 xs0))) (M) := by
  rw [F_0_firstDoor_68]
  rw [P_0_firstDoor_68] at hp
  refine b0_firstDoor_68  (fun h => ?_) (fun h => ?_)
  · rw [if_pos h]
    have hp := hp.1 h
    exact T_0_firstDoor_103 k41 pk41 _ ih41 x2 x3 x4 x5 hp
  · rw [if_neg h]
    have hp := hp.2 h
    obtain ⟨p0, hp⟩ := hp
    obtain ⟨hc, hp⟩ := hp
    refine b0_firstDoor_75 p0 (C_0_fewestDoors ((1 : Int32) <<< ((rd M 1568 x5.toNatClampNeg) &&& 31)) ((1 : Int32) <<< (x2 &&& 31)) M hc) (Nat.le_of_ble_eq_true rfl) ?_
    refine b0_firstDoor_94  (fun h => ?_) (fun h => ?_)
    · rw [if_neg h]
      have hp := hp.1 h
      exact T_0_firstDoor_103 k41 pk41 _ ih41 x2 x3 x4 x5 hp
    · rw [if_pos h]
      exact b0_firstDoor_100  rfl rfl
def F_0_firstDoor_41 (M : Mem) : Nat → Int32 → Int32 → Int32 → Int32 → Int32
  | 0, _, _, _, _ => 0
  | n + 1, x2, x3, x4, x5 => if (rd M 1561 1) ≤ x5 then ((-1)) else (if ((x4 >>> (x5 &&& 31)) &&& 1) = 0 then (F_0_firstDoor_68 (F_0_firstDoor_41 M n) M x2 x3 x4 x5 0) else (F_0_firstDoor_68 (F_0_firstDoor_41 M n) M x2 x3 x4 x5 1))
def P_0_firstDoor_41 (M : Mem) : Nat → Int32 → Int32 → Int32 → Int32 → Prop
  | 0, _, _, _, _ => False
  | n + 1, x2, x3, x4, x5 => (((rd M 1561 1) ≤ x5 → True) ∧ (¬ (rd M 1561 1) ≤ x5 → ((((x4 >>> (x5 &&& 31)) &&& 1) = 0 → (P_0_firstDoor_68 (P_0_firstDoor_41 M n) M x2 x3 x4 x5 0)) ∧ (¬ ((x4 >>> (x5 &&& 31)) &&& 1) = 0 → (P_0_firstDoor_68 (P_0_firstDoor_41 M n) M x2 x3 x4 x5 1)))))
theorem T_0_firstDoor_41 {g : Gl} (M : Mem) : ∀ (n : Nat) (x2 : Int32) (x3 : Int32) (x4 : Int32) (x5 : Int32) (hp : P_0_firstDoor_41 M n x2 x3 x4 x5), Rn g 3 m0_firstDoor 41 [some (.ref 1599), none, some (.int x2), some (.int x3), some (.int x4), some (.int x5), none] [] M (some (.int (F_0_firstDoor_41 M n x2 x3 x4 x5))) (M) := by
  intro n
  induction n with
  | zero => intro x2 x3 x4 x5 hp; exact hp.elim
  | succ n ih =>
    intro x2 x3 x4 x5 hp
    rw [F_0_firstDoor_41]
    rw [P_0_firstDoor_41] at hp
    refine b0_firstDoor_41  (fun h => ?_) (fun h => ?_)
    · rw [if_pos h]
      exact b0_firstDoor_109  rfl rfl
    · rw [if_neg h]
      have hp := hp.2 h
      refine b0_firstDoor_53  (fun h => ?_) (fun h => ?_)
      · rw [if_pos h]
        have hp := hp.1 h
        refine b0_firstDoor_67  ?_
        exact T_0_firstDoor_68 (F_0_firstDoor_41 M n) (P_0_firstDoor_41 M n) _ ih x2 x3 x4 x5 0 hp
      · rw [if_neg h]
        have hp := hp.2 h
        refine b0_firstDoor_63  ?_
        exact T_0_firstDoor_68 (F_0_firstDoor_41 M n) (P_0_firstDoor_41 M n) _ ih x2 x3 x4 x5 1 hp
def F_0_firstDoor_0 (M : Mem) (x1 : Int32) (x2 : Int32) : Int32 := if 0 < (F_0_fewestDoors_0 M ((1 : Int32) <<< (x1 &&& 31)) ((1 : Int32) <<< (x2 &&& 31))) then (F_0_firstDoor_41 M FU x2 (F_0_fewestDoors_0 M ((1 : Int32) <<< (x1 &&& 31)) ((1 : Int32) <<< (x2 &&& 31))) ((rd M 1564 x1.toNatClampNeg) &&& ((rd M 1622 2) ^^^ (-1))) 0) else ((-1))
def P_0_firstDoor_0 (M : Mem) (x1 : Int32) (x2 : Int32) : Prop := ((P_0_fewestDoors_0 M ((1 : Int32) <<< (x1 &&& 31)) ((1 : Int32) <<< (x2 &&& 31))) ∧ (((0 < (F_0_fewestDoors_0 M ((1 : Int32) <<< (x1 &&& 31)) ((1 : Int32) <<< (x2 &&& 31))) → (vp_in x1 10) ∧ (P_0_firstDoor_41 M FU x2 (F_0_fewestDoors_0 M ((1 : Int32) <<< (x1 &&& 31)) ((1 : Int32) <<< (x2 &&& 31))) ((rd M 1564 x1.toNatClampNeg) &&& ((rd M 1622 2) ^^^ (-1))) 0)) ∧ (¬ 0 < (F_0_fewestDoors_0 M ((1 : Int32) <<< (x1 &&& 31)) ((1 : Int32) <<< (x2 &&& 31))) → True))))
theorem T_0_firstDoor_0 {g : Gl} (M : Mem) (x1 : Int32) (x2 : Int32) (hp : P_0_firstDoor_0 M x1 x2) : Rn g 3 m0_firstDoor 0 [some (.ref 1599), some (.int x1), some (.int x2), none, none, none, none] [] M (some (.int (F_0_firstDoor_0 M x1 x2))) (M) := by
  rw [F_0_firstDoor_0]
  rw [P_0_firstDoor_0] at hp
  obtain ⟨hc, hp⟩ := hp
  refine b0_firstDoor_0  (C_0_fewestDoors ((1 : Int32) <<< (x1 &&& 31)) ((1 : Int32) <<< (x2 &&& 31)) M hc) (Nat.le_of_ble_eq_true rfl) ?_
  refine b0_firstDoor_10  (fun h => ?_) (fun h => ?_)
  · rw [if_pos h]
    have hp := hp.1 h
    obtain ⟨p0, hp⟩ := hp
    refine b0_firstDoor_17 p0 ?_
    exact T_0_firstDoor_41 _ FU x2 (F_0_fewestDoors_0 M ((1 : Int32) <<< (x1 &&& 31)) ((1 : Int32) <<< (x2 &&& 31))) ((rd M 1564 x1.toNatClampNeg) &&& ((rd M 1622 2) ^^^ (-1))) 0 hp
  · rw [if_neg h]
    exact b0_firstDoor_15  rfl rfl
theorem C_0_firstDoor {g : Gl}  (x1 : Int32) (x2 : Int32) (M : Mem) (hp : P_0_firstDoor_0 M x1 x2) : Ms g 3 m0_firstDoor [.ref 1599, .int x1, .int x2] M (some (.int (F_0_firstDoor_0 M x1 x2))) (M) := Ms.of okM_m0_firstDoor (Nat.le_of_ble_eq_true rfl) (R_wk (lc rfl (lc rfl (lc rfl (ln (ln (ln (ln l0))))))) (T_0_firstDoor_0 M x1 x2 hp))
def F_11_lowest_0 (M : Mem) (x0 : Int32) : Int32 := (F_6_bitCount_0f7a4_0 M ((x0 &&& (-x0)) - 1))
theorem T_11_lowest_0 {g : Gl} (M : Mem) (x0 : Int32)  : Rn g 1 m11_lowest 0 [some (.int x0)] [] M (some (.int (F_11_lowest_0 M x0))) (M) := by
  rw [F_11_lowest_0]
  refine b11_lowest_0  (C_6_bitCount_0f7a4 ((x0 &&& (-x0)) - 1) M) (Nat.le_of_ble_eq_true rfl) ?_
  exact b11_lowest_9  rfl rfl
theorem C_11_lowest {g : Gl}  (x0 : Int32) (M : Mem)  : Ms g 1 m11_lowest [.int x0] M (some (.int (F_11_lowest_0 M x0))) (M) := Ms.of okM_m11_lowest (Nat.le_of_ble_eq_true rfl) (R_wk (lc rfl l0) (T_11_lowest_0 M x0))
def F_0_unrollFrom_17  : Nat → Int32 → Int32 → Int32 → Mem → Mem
  | 0, _, _, _, M => M
  | n + 1, x2, x3, x4, M => if (10 : Int32) < x4 then (M) else (if x3 = 0 then (M) else ((F_0_unrollFrom_17 n) (x2 ||| x3) ((F_0_oneAhead_0 (wr (wr M 1599 8 x4) 1599 9 (F_11_lowest_0 (wr M 1599 8 x4) x3)) x3) &&& ((x2 ||| x3) ^^^ (-1))) (x4 + 1) (wr (wr M 1599 8 x4) 1599 9 (F_11_lowest_0 (wr M 1599 8 x4) x3))))
def P_0_unrollFrom_17  : Nat → Int32 → Int32 → Int32 → Mem → Prop
  | 0, _, _, _, _ => False
  | n + 1, x2, x3, x4, M => (((10 : Int32) < x4 → True) ∧ (¬ (10 : Int32) < x4 → ((x3 = 0 → True) ∧ (¬ x3 = 0 → ((((P_0_oneAhead_0 (wr (wr M 1599 8 x4) 1599 9 (F_11_lowest_0 (wr M 1599 8 x4) x3)) x3) ∧ (((P_0_unrollFrom_17 n) (x2 ||| x3) ((F_0_oneAhead_0 (wr (wr M 1599 8 x4) 1599 9 (F_11_lowest_0 (wr M 1599 8 x4) x3)) x3) &&& ((x2 ||| x3) ^^^ (-1))) (x4 + 1) (wr (wr M 1599 8 x4) 1599 9 (F_11_lowest_0 (wr M 1599 8 x4) x3)))))))))))
theorem T_0_unrollFrom_17 {g : Gl} : ∀ (n : Nat) (x2 : Int32) (x3 : Int32) (x4 : Int32) (M : Mem) (hp : P_0_unrollFrom_17 n x2 x3 x4 M), Rn g 2 m0_unrollFrom 17 [some (.ref 1599), none, some (.int x2), some (.int x3), some (.int x4)] [] M (none) ((F_0_unrollFrom_17 n x2 x3 x4 M)) := by
  intro n
  induction n with
  | zero => intro x2 x3 x4 M hp; exact hp.elim
  | succ n ih =>
    intro x2 x3 x4 M hp
    rw [F_0_unrollFrom_17]
    rw [P_0_unrollFrom_17] at hp
    refine b0_unrollFrom_17  (fun h => ?_) (fun h => ?_)
    · rw [if_pos h]
      exact b0_unrollFrom_62  rfl rfl
    · rw [if_neg h]
      have hp := hp.2 h
      refine b0_unrollFrom_24  (fun h => ?_) (fun h => ?_)
      · rw [if_pos h]
        exact b0_unrollFrom_62  rfl rfl
      · rw [if_neg h]
        have hp := hp.2 h
        refine b0_unrollFrom_28  (C_11_lowest x3 (wr M 1599 8 x4)) (Nat.le_of_ble_eq_true rfl) ?_
        obtain ⟨hc, hp⟩ := hp
        refine b0_unrollFrom_39  (C_0_oneAhead x3 (wr (wr M 1599 8 x4) 1599 9 (F_11_lowest_0 (wr M 1599 8 x4) x3)) hc) (Nat.le_of_ble_eq_true rfl) ?_
        refine b0_unrollFrom_51  ?_
        exact ih (x2 ||| x3) ((F_0_oneAhead_0 (wr (wr M 1599 8 x4) 1599 9 (F_11_lowest_0 (wr M 1599 8 x4) x3)) x3) &&& ((x2 ||| x3) ^^^ (-1))) (x4 + 1) (wr (wr M 1599 8 x4) 1599 9 (F_11_lowest_0 (wr M 1599 8 x4) x3)) hp
def F_0_unrollFrom_0 (x1 : Int32) (M : Mem) : Mem := F_0_unrollFrom_17 FU 0 x1 0 (wr (wr M 1599 8 (-1)) 1599 9 (-1))
def P_0_unrollFrom_0 (x1 : Int32) (M : Mem) : Prop := (P_0_unrollFrom_17 FU 0 x1 0 (wr (wr M 1599 8 (-1)) 1599 9 (-1)))
theorem T_0_unrollFrom_0 {g : Gl} (x1 : Int32) (M : Mem) (hp : P_0_unrollFrom_0 x1 M) : Rn g 2 m0_unrollFrom 0 [some (.ref 1599), some (.int x1), none, none, none] [] M (none) ((F_0_unrollFrom_0 x1 M)) := by
  rw [F_0_unrollFrom_0]
  rw [P_0_unrollFrom_0] at hp
  refine b0_unrollFrom_0  ?_
  exact T_0_unrollFrom_17 FU 0 x1 0 (wr (wr M 1599 8 (-1)) 1599 9 (-1)) hp
theorem C_0_unrollFrom {g : Gl}  (x1 : Int32) (M : Mem) (hp : P_0_unrollFrom_0 x1 M) : Ms g 2 m0_unrollFrom [.ref 1599, .int x1] M (none) ((F_0_unrollFrom_0 x1 M)) := Ms.of okM_m0_unrollFrom (Nat.le_of_ble_eq_true rfl) (R_wk (lc rfl (lc rfl (ln (ln (ln l0))))) (T_0_unrollFrom_0 x1 M hp))
def F_4_allRooms_0 (M : Mem) : Int32 := (((1 : Int32) <<< ((rd M 1561 0) &&& 31)) - 1)
theorem T_4_allRooms_0 {g : Gl} (M : Mem)  : Rn g 0 m4_allRooms 0 [some (.ref 1561)] [] M (some (.int (F_4_allRooms_0 M))) (M) := by
  rw [F_4_allRooms_0]
  exact b4_allRooms_0  rfl rfl
theorem C_4_allRooms {g : Gl}   (M : Mem)  : Ms g 0 m4_allRooms [.ref 1561] M (some (.int (F_4_allRooms_0 M))) (M) := Ms.of okM_m4_allRooms (Nat.le_of_ble_eq_true rfl) (R_wk (lc rfl l0) (T_4_allRooms_0 M))
def F_0_newDoorsToJoinAll_87 (k18 : Int32 → Int32 → Int32 → Int32 → Int32 → Int32) (M : Mem) (x1 : Int32) (x2 : Int32) (x3 : Int32) (x4 : Int32) (x5 : Int32) (x6 : Int32) : Int32 := k18 x1 x2 x3 (x4 &&& (x6 ^^^ (-1))) (x5 + 1)
def P_0_newDoorsToJoinAll_87 (pk18 : Int32 → Int32 → Int32 → Int32 → Int32 → Prop) (M : Mem) (x1 : Int32) (x2 : Int32) (x3 : Int32) (x4 : Int32) (x5 : Int32) (x6 : Int32) : Prop := (pk18 x1 x2 x3 (x4 &&& (x6 ^^^ (-1))) (x5 + 1))
theorem T_0_newDoorsToJoinAll_87 {g : Gl} (k18 : Int32 → Int32 → Int32 → Int32 → Int32 → Int32) (pk18 : Int32 → Int32 → Int32 → Int32 → Int32 → Prop) (M : Mem) (ih18 : ∀ (x1 : Int32) (x2 : Int32) (x3 : Int32) (x4 : Int32) (x5 : Int32), pk18 x1 x2 x3 x4 x5 → Rn g 4 m0_newDoorsToJoinAll 18 [some (.ref 1599), some (.int x1), some (.int x2), some (.int x3), some (.int x4), some (.int x5), none] [] M (some (.int (k18 x1 x2 x3 x4 x5))) (M)) (x1 : Int32) (x2 : Int32) (x3 : Int32) (x4 : Int32) (x5 : Int32) (x6 : Int32) (hp : P_0_newDoorsToJoinAll_87 pk18 M x1 x2 x3 x4 x5 x6) : Rn g 4 m0_newDoorsToJoinAll 87 [some (.ref 1599), some (.int x1), some (.int x2), some (.int x3), some (.int x4), some (.int x5), some (.int x6)] [] M (some (.int (F_0_newDoorsToJoinAll_87 k18 M x1 x2 x3 x4 x5 x6))) (M) := by
  rw [F_0_newDoorsToJoinAll_87]
  rw [P_0_newDoorsToJoinAll_87] at hp
  refine b0_newDoorsToJoinAll_87  ?_
  exact ih18 x1 x2 x3 (x4 &&& (x6 ^^^ (-1))) (x5 + 1) hp
def F_0_newDoorsToJoinAll_66 (k18 : Int32 → Int32 → Int32 → Int32 → Int32 → Int32) (M : Mem) (x1 : Int32) (x2 : Int32) (x3 : Int32) (x4 : Int32) (x5 : Int32) (x6 : Int32) : Int32 := if ((F_0_joineda_0 M x6) &&& (x6 ^^^ (-1))) = 0 then (F_0_newDoorsToJoinAll_87 k18 M x1 x2 (x3 + 1) x4 x5 x6) else (F_0_newDoorsToJoinAll_87 k18 M x1 x2 x3 x4 x5 x6)
def P_0_newDoorsToJoinAll_66 (pk18 : Int32 → Int32 → Int32 → Int32 → Int32 → Prop) (M : Mem) (x1 : Int32) (x2 : Int32) (x3 : Int32) (x4 : Int32) (x5 : Int32) (x6 : Int32) : Prop := ((P_0_joineda_0 M x6) ∧ (((¬ ((F_0_joineda_0 M x6) &&& (x6 ^^^ (-1))) = 0 → P_0_newDoorsToJoinAll_87 pk18 M x1 x2 x3 x4 x5 x6) ∧ (((F_0_joineda_0 M x6) &&& (x6 ^^^ (-1))) = 0 → (P_0_newDoorsToJoinAll_87 pk18 M x1 x2 (x3 + 1) x4 x5 x6)))))
theorem T_0_newDoorsToJoinAll_66 {g : Gl} (k18 : Int32 → Int32 → Int32 → Int32 → Int32 → Int32) (pk18 : Int32 → Int32 → Int32 → Int32 → Int32 → Prop) (M : Mem) (ih18 : ∀ (x1 : Int32) (x2 : Int32) (x3 : Int32) (x4 : Int32) (x5 : Int32), pk18 x1 x2 x3 x4 x5 → Rn g 4 m0_newDoorsToJoinAll 18 [some (.ref 1599), some (.int x1), some (.int x2), some (.int x3), some (.int x4), some (.int x5), none] [] M (some (.int (k18 x1 x2 x3 x4 x5))) (M)) (x1 : Int32) (x2 : Int32) (x3 : Int32) (x4 : Int32) (x5 : Int32) (x6 : Int32) (hp : P_0_newDoorsToJoinAll_66 pk18 M x1 x2 x3 x4 x5 x6) : Rn g 4 m0_newDoorsToJoinAll 66 [some (.ref 1599), some (.int x1), some (.int x2), some (.int x3), some (.int x4), some (.int x5), some (.int x6)] [] M (some (.int (F_0_newDoorsToJoinAll_66 k18 M x1 x2 x3 x4 x5 x6))) (M) := by
  rw [F_0_newDoorsToJoinAll_66]
  rw [P_0_newDoorsToJoinAll_66] at hp
  obtain ⟨hc, hp⟩ := hp
  refine b0_newDoorsToJoinAll_66  (C_0_joineda x6 M hc) (Nat.le_of_ble_eq_true rfl) ?_
  refine b0_newDoorsToJoinAll_76  (fun h => ?_) (fun h => ?_)
  · rw [if_neg h]
    have hp := hp.1 h
    exact T_0_newDoorsToJoinAll_87 k18 pk18 _ ih18 x1 x2 x3 x4 x5 x6 hp
  · rw [if_pos h]
    have hp := hp.2 h
    refine b0_newDoorsToJoinAll_84  ?_
    exact T_0_newDoorsToJoinAll_87 k18 pk18 _ ih18 x1 x2 (x3 + 1) x4 x5 x6 hp
def F_0_newDoorsToJoinAll_102 (M : Mem) (x1 : Int32) (x2 : Int32) (x3 : Int32) : Int32 := if (1 : Int32) < x1 then ((if x2 < x3 then x3 else x2)) else (0)
theorem T_0_newDoorsToJoinAll_102 {g : Gl} (M : Mem) (x1 : Int32) (x2 : Int32) (x3 : Int32)  : Rn g 4 m0_newDoorsToJoinAll 102 [none, some (.int x1), some (.int x2), some (.int x3), none, none, none] [] M (some (.int (F_0_newDoorsToJoinAll_102 M x1 x2 x3))) (M) := by
  rw [F_0_newDoorsToJoinAll_102]
  refine b0_newDoorsToJoinAll_102  (fun h => ?_) (fun h => ?_)
  · rw [if_pos h]
    refine b0_newDoorsToJoinAll_111 (Nat.le_of_ble_eq_true rfl) ?_
    exact b0_newDoorsToJoinAll_116  rfl rfl
  · rw [if_neg h]
    refine b0_newDoorsToJoinAll_107  ?_
    exact b0_newDoorsToJoinAll_116  rfl rfl
def F_0_newDoorsToJoinAll_18 (M : Mem) : Nat → Int32 → Int32 → Int32 → Int32 → Int32 → Int32
  | 0, _, _, _, _, _ => 0
  | n + 1, x1, x2, x3, x4, x5 => if (10 : Int32) ≤ x5 then (F_0_newDoorsToJoinAll_102 M x1 x2 x3) else (if x4 = 0 then (F_0_newDoorsToJoinAll_102 M x1 x2 x3) else (if ((F_0_joinedb_0 M (F_0_wingOf_0 M (x4 &&& (-x4)))) &&& ((F_0_wingOf_0 M (x4 &&& (-x4))) ^^^ (-1))) = 0 then (F_0_newDoorsToJoinAll_66 (F_0_newDoorsToJoinAll_18 M n) M (x1 + 1) (x2 + 1) x3 x4 x5 (F_0_wingOf_0 M (x4 &&& (-x4)))) else (F_0_newDoorsToJoinAll_66 (F_0_newDoorsToJoinAll_18 M n) M (x1 + 1) x2 x3 x4 x5 (F_0_wingOf_0 M (x4 &&& (-x4))))))
def P_0_newDoorsToJoinAll_18 (M : Mem) : Nat → Int32 → Int32 → Int32 → Int32 → Int32 → Prop
  | 0, _, _, _, _, _ => False
  | n + 1, x1, x2, x3, x4, x5 => (((10 : Int32) ≤ x5 → True) ∧ (¬ (10 : Int32) ≤ x5 → ((x4 = 0 → True) ∧ (¬ x4 = 0 → ((P_0_wingOf_0 M (x4 &&& (-x4))) ∧ (((P_0_joinedb_0 M (F_0_wingOf_0 M (x4 &&& (-x4)))) ∧ (((¬ ((F_0_joinedb_0 M (F_0_wingOf_0 M (x4 &&& (-x4)))) &&& ((F_0_wingOf_0 M (x4 &&& (-x4))) ^^^ (-1))) = 0 → P_0_newDoorsToJoinAll_66 (P_0_newDoorsToJoinAll_18 M n) M (x1 + 1) x2 x3 x4 x5 (F_0_wingOf_0 M (x4 &&& (-x4)))) ∧ (((F_0_joinedb_0 M (F_0_wingOf_0 M (x4 &&& (-x4)))) &&& ((F_0_wingOf_0 M (x4 &&& (-x4))) ^^^ (-1))) = 0 → (P_0_newDoorsToJoinAll_66 (P_0_newDoorsToJoinAll_18 M n) M (x1 + 1) (x2 + 1) x3 x4 x5 (F_0_wingOf_0 M (x4 &&& (-x4))))))))))))))
theorem T_0_newDoorsToJoinAll_18 {g : Gl} (M : Mem) : ∀ (n : Nat) (x1 : Int32) (x2 : Int32) (x3 : Int32) (x4 : Int32) (x5 : Int32) (hp : P_0_newDoorsToJoinAll_18 M n x1 x2 x3 x4 x5), Rn g 4 m0_newDoorsToJoinAll 18 [some (.ref 1599), some (.int x1), some (.int x2), some (.int x3), some (.int x4), some (.int x5), none] [] M (some (.int (F_0_newDoorsToJoinAll_18 M n x1 x2 x3 x4 x5))) (M) := by
  intro n
  induction n with
  | zero => intro x1 x2 x3 x4 x5 hp; exact hp.elim
  | succ n ih =>
    intro x1 x2 x3 x4 x5 hp
    rw [F_0_newDoorsToJoinAll_18]
    rw [P_0_newDoorsToJoinAll_18] at hp
    refine b0_newDoorsToJoinAll_18  (fun h => ?_) (fun h => ?_)
    · rw [if_pos h]
      exact T_0_newDoorsToJoinAll_102 _ x1 x2 x3
    · rw [if_neg h]
      have hp := hp.2 h
      refine b0_newDoorsToJoinAll_25  (fun h => ?_) (fun h => ?_)
      · rw [if_pos h]
        exact T_0_newDoorsToJoinAll_102 _ x1 x2 x3
      · rw [if_neg h]
        have hp := hp.2 h
        obtain ⟨hc, hp⟩ := hp
        refine b0_newDoorsToJoinAll_30  (C_0_wingOf (x4 &&& (-x4)) M hc) (Nat.le_of_ble_eq_true rfl) ?_
        obtain ⟨hc, hp⟩ := hp
        refine b0_newDoorsToJoinAll_40  (C_0_joinedb (F_0_wingOf_0 M (x4 &&& (-x4))) M hc) (Nat.le_of_ble_eq_true rfl) ?_
        refine b0_newDoorsToJoinAll_55  (fun h => ?_) (fun h => ?_)
        · rw [if_neg h]
          have hp := hp.1 h
          exact T_0_newDoorsToJoinAll_66 (F_0_newDoorsToJoinAll_18 M n) (P_0_newDoorsToJoinAll_18 M n) _ ih (x1 + 1) x2 x3 x4 x5 (F_0_wingOf_0 M (x4 &&& (-x4))) hp
        · rw [if_pos h]
          have hp := hp.2 h
          refine b0_newDoorsToJoinAll_63  ?_
          exact T_0_newDoorsToJoinAll_66 (F_0_newDoorsToJoinAll_18 M n) (P_0_newDoorsToJoinAll_18 M n) _ ih (x1 + 1) (x2 + 1) x3 x4 x5 (F_0_wingOf_0 M (x4 &&& (-x4))) hp
def F_0_newDoorsToJoinAll_0 (M : Mem) : Int32 := F_0_newDoorsToJoinAll_18 M FU 0 0 0 (F_4_allRooms_0 M) 0
def P_0_newDoorsToJoinAll_0 (M : Mem) : Prop := (((P_0_newDoorsToJoinAll_18 M FU 0 0 0 (F_4_allRooms_0 M) 0)))
theorem T_0_newDoorsToJoinAll_0 {g : Gl} (M : Mem) (hp : P_0_newDoorsToJoinAll_0 M) : Rn g 4 m0_newDoorsToJoinAll 0 [some (.ref 1599), none, none, none, none, none, none] [] M (some (.int (F_0_newDoorsToJoinAll_0 M))) (M) := by
  rw [F_0_newDoorsToJoinAll_0]
  rw [P_0_newDoorsToJoinAll_0] at hp
  refine b0_newDoorsToJoinAll_0  (C_4_allRooms  M) (Nat.le_of_ble_eq_true rfl) ?_
  refine b0_newDoorsToJoinAll_13  ?_
  exact T_0_newDoorsToJoinAll_18 _ FU 0 0 0 (F_4_allRooms_0 M) 0 hp
theorem C_0_newDoorsToJoinAll {g : Gl}   (M : Mem) (hp : P_0_newDoorsToJoinAll_0 M) : Ms g 4 m0_newDoorsToJoinAll [.ref 1599] M (some (.int (F_0_newDoorsToJoinAll_0 M))) (M) := Ms.of okM_m0_newDoorsToJoinAll (Nat.le_of_ble_eq_true rfl) (R_wk (lc rfl (ln (ln (ln (ln (ln (ln l0))))))) (T_0_newDoorsToJoinAll_0 M hp))
def F_0_bringTogether_18  : Nat → Int32 → Int32 → Int32 → Mem → Mem
  | 0, _, _, _, M => M
  | n + 1, x3, x4, x5, M => if (10 : Int32) < x5 then (M) else (if (x3 &&& x4) = 0 then ((F_0_bringTogether_18 n) (x3 ||| (F_0_oneAhead_0 M x3)) (x4 ||| (F_0_oneAhead_0 M x4)) (x5 + 1) M) else (wr (wr M 1599 8 x5) 1599 9 (F_11_lowest_0 (wr M 1599 8 x5) (x3 &&& x4))))
def P_0_bringTogether_18  : Nat → Int32 → Int32 → Int32 → Mem → Prop
  | 0, _, _, _, _ => False
  | n + 1, x3, x4, x5, M => (((10 : Int32) < x5 → True) ∧ (¬ (10 : Int32) < x5 → (((x3 &&& x4) = 0 → ((P_0_oneAhead_0 M x3) ∧ (((P_0_oneAhead_0 M x4) ∧ (((P_0_bringTogether_18 n) (x3 ||| (F_0_oneAhead_0 M x3)) (x4 ||| (F_0_oneAhead_0 M x4)) (x5 + 1) M)))))) ∧ (¬ (x3 &&& x4) = 0 → True))))
theorem T_0_bringTogether_18 {g : Gl} : ∀ (n : Nat) (x3 : Int32) (x4 : Int32) (x5 : Int32) (M : Mem) (hp : P_0_bringTogether_18 n x3 x4 x5 M), Rn g 2 m0_bringTogether 18 [some (.ref 1599), none, none, some (.int x3), some (.int x4), some (.int x5), none] [] M (none) ((F_0_bringTogether_18 n x3 x4 x5 M)) := by
  intro n
  induction n with
  | zero => intro x3 x4 x5 M hp; exact hp.elim
  | succ n ih =>
    intro x3 x4 x5 M hp
    rw [F_0_bringTogether_18]
    rw [P_0_bringTogether_18] at hp
    refine b0_bringTogether_18  (fun h => ?_) (fun h => ?_)
    · rw [if_pos h]
      exact b0_bringTogether_77  rfl rfl
    · rw [if_neg h]
      have hp := hp.2 h
      refine b0_bringTogether_25  (fun h => ?_) (fun h => ?_)
      · rw [if_pos h]
        have hp := hp.1 h
        obtain ⟨hc, hp⟩ := hp
        refine b0_bringTogether_52  (C_0_oneAhead x3 M hc) (Nat.le_of_ble_eq_true rfl) ?_
        obtain ⟨hc, hp⟩ := hp
        refine b0_bringTogether_58  (C_0_oneAhead x4 M hc) (Nat.le_of_ble_eq_true rfl) ?_
        refine b0_bringTogether_68  ?_
        exact ih (x3 ||| (F_0_oneAhead_0 M x3)) (x4 ||| (F_0_oneAhead_0 M x4)) (x5 + 1) M hp
      · rw [if_neg h]
        refine b0_bringTogether_36  (C_11_lowest (x3 &&& x4) (wr M 1599 8 x5)) (Nat.le_of_ble_eq_true rfl) ?_
        exact b0_bringTogether_48  rfl rfl
def F_0_bringTogether_0 (x1 : Int32) (x2 : Int32) (M : Mem) : Mem := F_0_bringTogether_18 FU x1 x2 0 (wr (wr M 1599 8 (-1)) 1599 9 (-1))
def P_0_bringTogether_0 (x1 : Int32) (x2 : Int32) (M : Mem) : Prop := (P_0_bringTogether_18 FU x1 x2 0 (wr (wr M 1599 8 (-1)) 1599 9 (-1)))
theorem T_0_bringTogether_0 {g : Gl} (x1 : Int32) (x2 : Int32) (M : Mem) (hp : P_0_bringTogether_0 x1 x2 M) : Rn g 2 m0_bringTogether 0 [some (.ref 1599), some (.int x1), some (.int x2), none, none, none, none] [] M (none) ((F_0_bringTogether_0 x1 x2 M)) := by
  rw [F_0_bringTogether_0]
  rw [P_0_bringTogether_0] at hp
  refine b0_bringTogether_0  ?_
  exact T_0_bringTogether_18 FU x1 x2 0 (wr (wr M 1599 8 (-1)) 1599 9 (-1)) hp
theorem C_0_bringTogether {g : Gl}  (x1 : Int32) (x2 : Int32) (M : Mem) (hp : P_0_bringTogether_0 x1 x2 M) : Ms g 2 m0_bringTogether [.ref 1599, .int x1, .int x2] M (none) ((F_0_bringTogether_0 x1 x2 M)) := Ms.of okM_m0_bringTogether (Nat.le_of_ble_eq_true rfl) (R_wk (lc rfl (lc rfl (lc rfl (ln (ln (ln (ln l0))))))) (T_0_bringTogether_0 x1 x2 M hp))
def F_0_enterFrom_65 (k9 : Int32 → Int32 → Int32 → Mem → Mem) (x1 : Int32) (x3 : Int32) (x4 : Int32) (M : Mem) : Mem := k9 x1 (x3 &&& (x3 - 1)) (x4 + 1) M
def P_0_enterFrom_65 (pk9 : Int32 → Int32 → Int32 → Mem → Prop) (x1 : Int32) (x3 : Int32) (x4 : Int32) (M : Mem) : Prop := (pk9 x1 (x3 &&& (x3 - 1)) (x4 + 1) M)
theorem T_0_enterFrom_65 {g : Gl} (k9 : Int32 → Int32 → Int32 → Mem → Mem) (pk9 : Int32 → Int32 → Int32 → Mem → Prop) (ih9 : ∀ (x1 : Int32) (x3 : Int32) (x4 : Int32) (M : Mem), pk9 x1 x3 x4 M → Rn g 1 m0_enterFrom 9 [some (.ref 1599), some (.int x1), none, some (.int x3), some (.int x4), none, none] [] M (none) ((k9 x1 x3 x4 M))) (x1 : Int32) (x3 : Int32) (x4 : Int32) (M : Mem) (hp : P_0_enterFrom_65 pk9 x1 x3 x4 M) : Rn g 1 m0_enterFrom 65 [some (.ref 1599), some (.int x1), none, some (.int x3), some (.int x4), none, none] [] M (none) ((F_0_enterFrom_65 k9 x1 x3 x4 M)) := by
  rw [F_0_enterFrom_65]
  rw [P_0_enterFrom_65] at hp
  refine b0_enterFrom_65  ?_
  exact ih9 x1 (x3 &&& (x3 - 1)) (x4 + 1) M hp
def F_0_enterFrom_9  : Nat → Int32 → Int32 → Int32 → Mem → Mem
  | 0, _, _, _, M => M
  | n + 1, x1, x3, x4, M => if (10 : Int32) ≤ x4 then (M) else (if x3 = 0 then (M) else (if (1024 : Int32) ≤ (x1 ||| (x3 &&& (-x3))) then (F_0_enterFrom_65 (F_0_enterFrom_9 n) x1 x3 x4 M) else (if ((rd M 1603 (x1 ||| (x3 &&& (-x3))).toNatClampNeg) &&& (x3 &&& (-x3))) = 0 then (F_0_enterFrom_65 (F_0_enterFrom_9 n) x1 x3 x4 (wr M 1605 (x1 ||| (x3 &&& (-x3))).toNatClampNeg ((rd M 1605 (x1 ||| (x3 &&& (-x3))).toNatClampNeg) ||| (x3 &&& (-x3))))) else (F_0_enterFrom_65 (F_0_enterFrom_9 n) x1 x3 x4 M))))
def P_0_enterFrom_9  : Nat → Int32 → Int32 → Int32 → Mem → Prop
  | 0, _, _, _, _ => False
  | n + 1, x1, x3, x4, M => (((10 : Int32) ≤ x4 → True) ∧ (¬ (10 : Int32) ≤ x4 → ((x3 = 0 → True) ∧ (¬ x3 = 0 → (((1024 : Int32) ≤ (x1 ||| (x3 &&& (-x3))) → P_0_enterFrom_65 (P_0_enterFrom_9 n) x1 x3 x4 M) ∧ (¬ (1024 : Int32) ≤ (x1 ||| (x3 &&& (-x3))) → (vp_in (x1 ||| (x3 &&& (-x3))) 1024) ∧ ((¬ ((rd M 1603 (x1 ||| (x3 &&& (-x3))).toNatClampNeg) &&& (x3 &&& (-x3))) = 0 → P_0_enterFrom_65 (P_0_enterFrom_9 n) x1 x3 x4 M) ∧ (((rd M 1603 (x1 ||| (x3 &&& (-x3))).toNatClampNeg) &&& (x3 &&& (-x3))) = 0 → (vp_in (x1 ||| (x3 &&& (-x3))) 1024) ∧ (P_0_enterFrom_65 (P_0_enterFrom_9 n) x1 x3 x4 (wr M 1605 (x1 ||| (x3 &&& (-x3))).toNatClampNeg ((rd M 1605 (x1 ||| (x3 &&& (-x3))).toNatClampNeg) ||| (x3 &&& (-x3)))))))))))))
theorem T_0_enterFrom_9 {g : Gl} : ∀ (n : Nat) (x1 : Int32) (x3 : Int32) (x4 : Int32) (M : Mem) (hp : P_0_enterFrom_9 n x1 x3 x4 M), Rn g 1 m0_enterFrom 9 [some (.ref 1599), some (.int x1), none, some (.int x3), some (.int x4), none, none] [] M (none) ((F_0_enterFrom_9 n x1 x3 x4 M)) := by
  intro n
  induction n with
  | zero => intro x1 x3 x4 M hp; exact hp.elim
  | succ n ih =>
    intro x1 x3 x4 M hp
    rw [F_0_enterFrom_9]
    rw [P_0_enterFrom_9] at hp
    refine b0_enterFrom_9  (fun h => ?_) (fun h => ?_)
    · rw [if_pos h]
      exact b0_enterFrom_77  rfl rfl
    · rw [if_neg h]
      have hp := hp.2 h
      refine b0_enterFrom_16  (fun h => ?_) (fun h => ?_)
      · rw [if_pos h]
        exact b0_enterFrom_77  rfl rfl
      · rw [if_neg h]
        have hp := hp.2 h
        refine b0_enterFrom_20  (fun h => ?_) (fun h => ?_)
        · rw [if_pos h]
          have hp := hp.1 h
          exact T_0_enterFrom_65 (F_0_enterFrom_9 n) (P_0_enterFrom_9 n) ih x1 x3 x4 M hp
        · rw [if_neg h]
          have hp := hp.2 h
          obtain ⟨p0, hp⟩ := hp
          refine b0_enterFrom_40 p0 (fun h => ?_) (fun h => ?_)
          · rw [if_neg h]
            have hp := hp.1 h
            exact T_0_enterFrom_65 (F_0_enterFrom_9 n) (P_0_enterFrom_9 n) ih x1 x3 x4 M hp
          · rw [if_pos h]
            have hp := hp.2 h
            obtain ⟨p1, hp⟩ := hp
            refine b0_enterFrom_53 p1 ?_
            exact T_0_enterFrom_65 (F_0_enterFrom_9 n) (P_0_enterFrom_9 n) ih x1 x3 x4 (wr M 1605 (x1 ||| (x3 &&& (-x3))).toNatClampNeg ((rd M 1605 (x1 ||| (x3 &&& (-x3))).toNatClampNeg) ||| (x3 &&& (-x3)))) hp
def F_0_enterFrom_0 (x1 : Int32) (x2 : Int32) (M : Mem) : Mem := F_0_enterFrom_9 FU x1 (F_0_aheadOf_0 M x2) 0 M
def P_0_enterFrom_0 (x1 : Int32) (x2 : Int32) (M : Mem) : Prop := ((P_0_aheadOf_0 M x2) ∧ ((P_0_enterFrom_9 FU x1 (F_0_aheadOf_0 M x2) 0 M)))
theorem T_0_enterFrom_0 {g : Gl} (x1 : Int32) (x2 : Int32) (M : Mem) (hp : P_0_enterFrom_0 x1 x2 M) : Rn g 1 m0_enterFrom 0 [some (.ref 1599), some (.int x1), some (.int x2), none, none, none, none] [] M (none) ((F_0_enterFrom_0 x1 x2 M)) := by
  rw [F_0_enterFrom_0]
  rw [P_0_enterFrom_0] at hp
  obtain ⟨hc, hp⟩ := hp
  refine b0_enterFrom_0  (C_0_aheadOf x2 M hc) (Nat.le_of_ble_eq_true rfl) ?_
  refine b0_enterFrom_5  ?_
  exact T_0_enterFrom_9 FU x1 (F_0_aheadOf_0 M x2) 0 M hp
theorem C_0_enterFrom {g : Gl}  (x1 : Int32) (x2 : Int32) (M : Mem) (hp : P_0_enterFrom_0 x1 x2 M) : Ms g 1 m0_enterFrom [.ref 1599, .int x1, .int x2] M (none) ((F_0_enterFrom_0 x1 x2 M)) := Ms.of okM_m0_enterFrom (Nat.le_of_ble_eq_true rfl) (R_wk (lc rfl (lc rfl (lc rfl (ln (ln (ln (ln l0))))))) (T_0_enterFrom_0 x1 x2 M hp))
def F_0_goOneDoor_44 (k2 : Int32 → Int32 → Mem → Mem) (k24 : Int32 → Int32 → Int32 → Int32 → Mem → Mem) (x1 : Int32) (x2 : Int32) (x3 : Int32) (x4 : Int32) (M : Mem) : Mem := k24 x1 x2 (x3 &&& (x3 - 1)) (x4 + 1) M
def P_0_goOneDoor_44 (pk2 : Int32 → Int32 → Mem → Prop) (pk24 : Int32 → Int32 → Int32 → Int32 → Mem → Prop) (x1 : Int32) (x2 : Int32) (x3 : Int32) (x4 : Int32) (M : Mem) : Prop := (pk24 x1 x2 (x3 &&& (x3 - 1)) (x4 + 1) M)
theorem T_0_goOneDoor_44 {g : Gl} (k2 : Int32 → Int32 → Mem → Mem) (k24 : Int32 → Int32 → Int32 → Int32 → Mem → Mem) (pk2 : Int32 → Int32 → Mem → Prop) (pk24 : Int32 → Int32 → Int32 → Int32 → Mem → Prop) (ih2 : ∀ (x1 : Int32) (x2 : Int32) (M : Mem), pk2 x1 x2 M → Rn g 2 m0_goOneDoor 2 [some (.ref 1599), some (.int x1), some (.int x2), none, none] [] M (none) ((k2 x1 x2 M))) (ih24 : ∀ (x1 : Int32) (x2 : Int32) (x3 : Int32) (x4 : Int32) (M : Mem), pk24 x1 x2 x3 x4 M → Rn g 2 m0_goOneDoor 24 [some (.ref 1599), some (.int x1), some (.int x2), some (.int x3), some (.int x4)] [] M (none) ((k24 x1 x2 x3 x4 M))) (x1 : Int32) (x2 : Int32) (x3 : Int32) (x4 : Int32) (M : Mem) (hp : P_0_goOneDoor_44 pk2 pk24 x1 x2 x3 x4 M) : Rn g 2 m0_goOneDoor 44 [some (.ref 1599), some (.int x1), some (.int x2), some (.int x3), some (.int x4)] [] M (none) ((F_0_goOneDoor_44 k2 k24 x1 x2 x3 x4 M)) := by
  rw [F_0_goOneDoor_44]
  rw [P_0_goOneDoor_44] at hp
  refine b0_goOneDoor_44  ?_
  exact ih24 x1 x2 (x3 &&& (x3 - 1)) (x4 + 1) M hp
def F_0_goOneDoor_56 (k2 : Int32 → Int32 → Mem → Mem) (x1 : Int32) (x2 : Int32) (M : Mem) : Mem := k2 x1 (x2 + 1) M
def P_0_goOneDoor_56 (pk2 : Int32 → Int32 → Mem → Prop) (x1 : Int32) (x2 : Int32) (M : Mem) : Prop := (pk2 x1 (x2 + 1) M)
theorem T_0_goOneDoor_56 {g : Gl} (k2 : Int32 → Int32 → Mem → Mem) (pk2 : Int32 → Int32 → Mem → Prop) (ih2 : ∀ (x1 : Int32) (x2 : Int32) (M : Mem), pk2 x1 x2 M → Rn g 2 m0_goOneDoor 2 [some (.ref 1599), some (.int x1), some (.int x2), none, none] [] M (none) ((k2 x1 x2 M))) (x1 : Int32) (x2 : Int32) (M : Mem) (hp : P_0_goOneDoor_56 pk2 x1 x2 M) : Rn g 2 m0_goOneDoor 56 [some (.ref 1599), some (.int x1), some (.int x2), none, none] [] M (none) ((F_0_goOneDoor_56 k2 x1 x2 M)) := by
  rw [F_0_goOneDoor_56]
  rw [P_0_goOneDoor_56] at hp
  refine b0_goOneDoor_56  ?_
  exact ih2 x1 (x2 + 1) M hp
def F_0_goOneDoor_24 (k2 : Int32 → Int32 → Mem → Mem) : Nat → Int32 → Int32 → Int32 → Int32 → Mem → Mem
  | 0, _, _, _, _, M => M
  | n + 1, x1, x2, x3, x4, M => if (10 : Int32) ≤ x4 then (F_0_goOneDoor_56 k2 x1 x2 M) else (if x3 = 0 then (F_0_goOneDoor_56 k2 x1 x2 M) else (F_0_goOneDoor_44 k2 (F_0_goOneDoor_24 k2 n) x1 x2 x3 x4 (F_0_enterFrom_0 x2 (F_11_lowest_0 M x3) M)))
def P_0_goOneDoor_24 (pk2 : Int32 → Int32 → Mem → Prop) : Nat → Int32 → Int32 → Int32 → Int32 → Mem → Prop
  | 0, _, _, _, _, _ => False
  | n + 1, x1, x2, x3, x4, M => (((10 : Int32) ≤ x4 → P_0_goOneDoor_56 pk2 x1 x2 M) ∧ (¬ (10 : Int32) ≤ x4 → ((x3 = 0 → P_0_goOneDoor_56 pk2 x1 x2 M) ∧ (¬ x3 = 0 → ((((P_0_enterFrom_0 x2 (F_11_lowest_0 M x3) M) ∧ (P_0_goOneDoor_44 pk2 (P_0_goOneDoor_24 pk2 n) x1 x2 x3 x4 (F_0_enterFrom_0 x2 (F_11_lowest_0 M x3) M)))))))))
theorem T_0_goOneDoor_24 {g : Gl} (k2 : Int32 → Int32 → Mem → Mem) (pk2 : Int32 → Int32 → Mem → Prop) (ih2 : ∀ (x1 : Int32) (x2 : Int32) (M : Mem), pk2 x1 x2 M → Rn g 2 m0_goOneDoor 2 [some (.ref 1599), some (.int x1), some (.int x2), none, none] [] M (none) ((k2 x1 x2 M))) : ∀ (n : Nat) (x1 : Int32) (x2 : Int32) (x3 : Int32) (x4 : Int32) (M : Mem) (hp : P_0_goOneDoor_24 pk2 n x1 x2 x3 x4 M), Rn g 2 m0_goOneDoor 24 [some (.ref 1599), some (.int x1), some (.int x2), some (.int x3), some (.int x4)] [] M (none) ((F_0_goOneDoor_24 k2 n x1 x2 x3 x4 M)) := by
  intro n
  induction n with
  | zero => intro x1 x2 x3 x4 M hp; exact hp.elim
  | succ n ih =>
    intro x1 x2 x3 x4 M hp
    rw [F_0_goOneDoor_24]
    rw [P_0_goOneDoor_24] at hp
    refine b0_goOneDoor_24  (fun h => ?_) (fun h => ?_)
    · rw [if_pos h]
      have hp := hp.1 h
      exact T_0_goOneDoor_56 k2 pk2 ih2 x1 x2 M hp
    · rw [if_neg h]
      have hp := hp.2 h
      refine b0_goOneDoor_31  (fun h => ?_) (fun h => ?_)
      · rw [if_pos h]
        have hp := hp.1 h
        exact T_0_goOneDoor_56 k2 pk2 ih2 x1 x2 M hp
      · rw [if_neg h]
        have hp := hp.2 h
        refine b0_goOneDoor_35  (C_11_lowest x3 M) (Nat.le_of_ble_eq_true rfl) ?_
        obtain ⟨hc, hp⟩ := hp
        refine b0_goOneDoor_41  (C_0_enterFrom x2 (F_11_lowest_0 M x3) M hc) (Nat.le_of_ble_eq_true rfl) ?_
        exact T_0_goOneDoor_44 k2 (F_0_goOneDoor_24 k2 n) pk2 (P_0_goOneDoor_24 pk2 n) ih2 ih x1 x2 x3 x4 (F_0_enterFrom_0 x2 (F_11_lowest_0 M x3) M) hp
def F_0_goOneDoor_64  : Nat → Int32 → Int32 → Mem → Mem
  | 0, _, _, M => M
  | n + 1, x1, x2, M => if x1 < x2 then (M) else (if (1024 : Int32) ≤ x2 then (M) else ((F_0_goOneDoor_64 n) x1 (x2 + 1) (wr (wr (wr M 1604 x2.toNatClampNeg (rd M 1605 x2.toNatClampNeg)) 1603 x2.toNatClampNeg ((rd (wr M 1604 x2.toNatClampNeg (rd M 1605 x2.toNatClampNeg)) 1603 x2.toNatClampNeg) ||| (rd (wr M 1604 x2.toNatClampNeg (rd M 1605 x2.toNatClampNeg)) 1605 x2.toNatClampNeg))) 1605 x2.toNatClampNeg 0)))
def P_0_goOneDoor_64  : Nat → Int32 → Int32 → Mem → Prop
  | 0, _, _, _ => False
  | n + 1, x1, x2, M => ((x1 < x2 → True) ∧ (¬ x1 < x2 → (((1024 : Int32) ≤ x2 → True) ∧ (¬ (1024 : Int32) ≤ x2 → (vp_in x2 1024) ∧ ((P_0_goOneDoor_64 n) x1 (x2 + 1) (wr (wr (wr M 1604 x2.toNatClampNeg (rd M 1605 x2.toNatClampNeg)) 1603 x2.toNatClampNeg ((rd (wr M 1604 x2.toNatClampNeg (rd M 1605 x2.toNatClampNeg)) 1603 x2.toNatClampNeg) ||| (rd (wr M 1604 x2.toNatClampNeg (rd M 1605 x2.toNatClampNeg)) 1605 x2.toNatClampNeg))) 1605 x2.toNatClampNeg 0))))))
theorem T_0_goOneDoor_64 {g : Gl} : ∀ (n : Nat) (x1 : Int32) (x2 : Int32) (M : Mem) (hp : P_0_goOneDoor_64 n x1 x2 M), Rn g 2 m0_goOneDoor 64 [some (.ref 1599), some (.int x1), some (.int x2), none, none] [] M (none) ((F_0_goOneDoor_64 n x1 x2 M)) := by
  intro n
  induction n with
  | zero => intro x1 x2 M hp; exact hp.elim
  | succ n ih =>
    intro x1 x2 M hp
    rw [F_0_goOneDoor_64]
    rw [P_0_goOneDoor_64] at hp
    refine b0_goOneDoor_64  (fun h => ?_) (fun h => ?_)
    · rw [if_pos h]
      exact b0_goOneDoor_116  rfl rfl
    · rw [if_neg h]
      have hp := hp.2 h
      refine b0_goOneDoor_69  (fun h => ?_) (fun h => ?_)
      · rw [if_pos h]
        exact b0_goOneDoor_116  rfl rfl
      · rw [if_neg h]
        have hp := hp.2 h
        obtain ⟨p0, hp⟩ := hp
        refine b0_goOneDoor_76 p0 ?_
        exact ih x1 (x2 + 1) (wr (wr (wr M 1604 x2.toNatClampNeg (rd M 1605 x2.toNatClampNeg)) 1603 x2.toNatClampNeg ((rd (wr M 1604 x2.toNatClampNeg (rd M 1605 x2.toNatClampNeg)) 1603 x2.toNatClampNeg) ||| (rd (wr M 1604 x2.toNatClampNeg (rd M 1605 x2.toNatClampNeg)) 1605 x2.toNatClampNeg))) 1605 x2.toNatClampNeg 0) hp
def F_0_goOneDoor_62 (x1 : Int32) (M : Mem) : Mem := F_0_goOneDoor_64 FU x1 1 M
def P_0_goOneDoor_62 (x1 : Int32) (M : Mem) : Prop := (P_0_goOneDoor_64 FU x1 1 M)
theorem T_0_goOneDoor_62 {g : Gl} (x1 : Int32) (M : Mem) (hp : P_0_goOneDoor_62 x1 M) : Rn g 2 m0_goOneDoor 62 [some (.ref 1599), some (.int x1), none, none, none] [] M (none) ((F_0_goOneDoor_62 x1 M)) := by
  rw [F_0_goOneDoor_62]
  rw [P_0_goOneDoor_62] at hp
  refine b0_goOneDoor_62  ?_
  exact T_0_goOneDoor_64 FU x1 1 M hp
def F_0_goOneDoor_2  : Nat → Int32 → Int32 → Mem → Mem
  | 0, _, _, M => M
  | n + 1, x1, x2, M => if x1 < x2 then (F_0_goOneDoor_62 x1 M) else (if (1024 : Int32) ≤ x2 then (F_0_goOneDoor_62 x1 M) else (F_0_goOneDoor_24 (F_0_goOneDoor_2 n) FU x1 x2 (rd M 1604 x2.toNatClampNeg) 0 M))
def P_0_goOneDoor_2  : Nat → Int32 → Int32 → Mem → Prop
  | 0, _, _, _ => False
  | n + 1, x1, x2, M => ((x1 < x2 → P_0_goOneDoor_62 x1 M) ∧ (¬ x1 < x2 → (((1024 : Int32) ≤ x2 → P_0_goOneDoor_62 x1 M) ∧ (¬ (1024 : Int32) ≤ x2 → (vp_in x2 1024) ∧ (P_0_goOneDoor_24 (P_0_goOneDoor_2 n) FU x1 x2 (rd M 1604 x2.toNatClampNeg) 0 M)))))
theorem T_0_goOneDoor_2 {g : Gl} : ∀ (n : Nat) (x1 : Int32) (x2 : Int32) (M : Mem) (hp : P_0_goOneDoor_2 n x1 x2 M), Rn g 2 m0_goOneDoor 2 [some (.ref 1599), some (.int x1), some (.int x2), none, none] [] M (none) ((F_0_goOneDoor_2 n x1 x2 M)) := by
  intro n
  induction n with
  | zero => intro x1 x2 M hp; exact hp.elim
  | succ n ih =>
    intro x1 x2 M hp
    rw [F_0_goOneDoor_2]
    rw [P_0_goOneDoor_2] at hp
    refine b0_goOneDoor_2  (fun h => ?_) (fun h => ?_)
    · rw [if_pos h]
      have hp := hp.1 h
      exact T_0_goOneDoor_62 x1 M hp
    · rw [if_neg h]
      have hp := hp.2 h
      refine b0_goOneDoor_7  (fun h => ?_) (fun h => ?_)
      · rw [if_pos h]
        have hp := hp.1 h
        exact T_0_goOneDoor_62 x1 M hp
      · rw [if_neg h]
        have hp := hp.2 h
        obtain ⟨p0, hp⟩ := hp
        refine b0_goOneDoor_14 p0 ?_
        exact T_0_goOneDoor_24 (F_0_goOneDoor_2 n) (P_0_goOneDoor_2 n) ih FU x1 x2 (rd M 1604 x2.toNatClampNeg) 0 M hp
def F_0_goOneDoor_0 (x1 : Int32) (M : Mem) : Mem := F_0_goOneDoor_2 FU x1 1 M
def P_0_goOneDoor_0 (x1 : Int32) (M : Mem) : Prop := (P_0_goOneDoor_2 FU x1 1 M)
theorem T_0_goOneDoor_0 {g : Gl} (x1 : Int32) (M : Mem) (hp : P_0_goOneDoor_0 x1 M) : Rn g 2 m0_goOneDoor 0 [some (.ref 1599), some (.int x1), none, none, none] [] M (none) ((F_0_goOneDoor_0 x1 M)) := by
  rw [F_0_goOneDoor_0]
  rw [P_0_goOneDoor_0] at hp
  refine b0_goOneDoor_0  ?_
  exact T_0_goOneDoor_2 FU x1 1 M hp
theorem C_0_goOneDoor {g : Gl}  (x1 : Int32) (M : Mem) (hp : P_0_goOneDoor_0 x1 M) : Ms g 2 m0_goOneDoor [.ref 1599, .int x1] M (none) ((F_0_goOneDoor_0 x1 M)) := Ms.of okM_m0_goOneDoor (Nat.le_of_ble_eq_true rfl) (R_wk (lc rfl (lc rfl (ln (ln (ln l0))))) (T_0_goOneDoor_0 x1 M hp))
def F_0_goRound_134 (k95 : Int32 → Int32 → Mem → Mem) (x2 : Int32) (x3 : Int32) (M : Mem) : Mem := k95 x2 (x3 + 1) M
def P_0_goRound_134 (pk95 : Int32 → Int32 → Mem → Prop) (x2 : Int32) (x3 : Int32) (M : Mem) : Prop := (pk95 x2 (x3 + 1) M)
theorem T_0_goRound_134 {g : Gl} (k95 : Int32 → Int32 → Mem → Mem) (pk95 : Int32 → Int32 → Mem → Prop) (ih95 : ∀ (x2 : Int32) (x3 : Int32) (M : Mem), pk95 x2 x3 M → Rn g 3 m0_goRound 95 [some (.ref 1599), none, some (.int x2), some (.int x3)] [] M (none) ((k95 x2 x3 M))) (x2 : Int32) (x3 : Int32) (M : Mem) (hp : P_0_goRound_134 pk95 x2 x3 M) : Rn g 3 m0_goRound 134 [some (.ref 1599), none, some (.int x2), some (.int x3)] [] M (none) ((F_0_goRound_134 k95 x2 x3 M)) := by
  rw [F_0_goRound_134]
  rw [P_0_goRound_134] at hp
  refine b0_goRound_134  ?_
  exact ih95 x2 (x3 + 1) M hp
def F_0_goRound_95  : Nat → Int32 → Int32 → Mem → Mem
  | 0, _, _, M => M
  | n + 1, x2, x3, M => if (100 : Int32) < x3 then (M) else (if (rd M 1604 x2.toNatClampNeg) = 0 then (F_0_goRound_134 (F_0_goRound_95 n) x2 x3 (F_0_goOneDoor_0 x2 M)) else (wr (wr M 1599 8 x3) 1599 9 (F_11_lowest_0 (wr M 1599 8 x3) (rd (wr M 1599 8 x3) 1604 x2.toNatClampNeg))))
def P_0_goRound_95  : Nat → Int32 → Int32 → Mem → Prop
  | 0, _, _, _ => False
  | n + 1, x2, x3, M => (((100 : Int32) < x3 → True) ∧ (¬ (100 : Int32) < x3 → (vp_in x2 1024) ∧ (((rd M 1604 x2.toNatClampNeg) = 0 → ((P_0_goOneDoor_0 x2 M) ∧ (P_0_goRound_134 (P_0_goRound_95 n) x2 x3 (F_0_goOneDoor_0 x2 M)))) ∧ (¬ (rd M 1604 x2.toNatClampNeg) = 0 → (vp_in x2 1024)))))
theorem T_0_goRound_95 {g : Gl} : ∀ (n : Nat) (x2 : Int32) (x3 : Int32) (M : Mem) (hp : P_0_goRound_95 n x2 x3 M), Rn g 3 m0_goRound 95 [some (.ref 1599), none, some (.int x2), some (.int x3)] [] M (none) ((F_0_goRound_95 n x2 x3 M)) := by
  intro n
  induction n with
  | zero => intro x2 x3 M hp; exact hp.elim
  | succ n ih =>
    intro x2 x3 M hp
    rw [F_0_goRound_95]
    rw [P_0_goRound_95] at hp
    refine b0_goRound_95  (fun h => ?_) (fun h => ?_)
    · rw [if_pos h]
      exact b0_goRound_140  rfl rfl
    · rw [if_neg h]
      have hp := hp.2 h
      obtain ⟨p0, hp⟩ := hp
      refine b0_goRound_101 p0 (fun h => ?_) (fun h => ?_)
      · rw [if_pos h]
        have hp := hp.1 h
        obtain ⟨hc, hp⟩ := hp
        refine b0_goRound_129  (C_0_goOneDoor x2 M hc) (Nat.le_of_ble_eq_true rfl) ?_
        exact T_0_goRound_134 (F_0_goRound_95 n) (P_0_goRound_95 n) ih x2 x3 (F_0_goOneDoor_0 x2 M) hp
      · rw [if_neg h]
        have hp := hp.2 h
        have p1 := hp
        refine b0_goRound_110 p1 (C_11_lowest (rd (wr M 1599 8 x3) 1604 x2.toNatClampNeg) (wr M 1599 8 x3)) (Nat.le_of_ble_eq_true rfl) ?_
        exact b0_goRound_125  rfl rfl
def F_0_goRound_71 (x1 : Int32) (x2 : Int32) (M : Mem) : Mem := F_0_goRound_95 FU x2 0 (wr (wr M 1603 (((1 : Int32) <<< (x1 &&& 31)).toNatClampNeg) ((1 : Int32) <<< (x1 &&& 31))) 1604 (((1 : Int32) <<< (x1 &&& 31)).toNatClampNeg) ((1 : Int32) <<< (x1 &&& 31)))
def P_0_goRound_71 (x1 : Int32) (x2 : Int32) (M : Mem) : Prop := (vp_in ((1 : Int32) <<< (x1 &&& 31)) 1024) ∧ (P_0_goRound_95 FU x2 0 (wr (wr M 1603 (((1 : Int32) <<< (x1 &&& 31)).toNatClampNeg) ((1 : Int32) <<< (x1 &&& 31))) 1604 (((1 : Int32) <<< (x1 &&& 31)).toNatClampNeg) ((1 : Int32) <<< (x1 &&& 31))))
theorem T_0_goRound_71 {g : Gl} (x1 : Int32) (x2 : Int32) (M : Mem) (hp : P_0_goRound_71 x1 x2 M) : Rn g 3 m0_goRound 71 [some (.ref 1599), some (.int x1), some (.int x2), none] [] M (none) ((F_0_goRound_71 x1 x2 M)) := by
  rw [F_0_goRound_71]
  rw [P_0_goRound_71] at hp
  obtain ⟨p0, hp⟩ := hp
  refine b0_goRound_71 p0 ?_
  exact T_0_goRound_95 FU x2 0 (wr (wr M 1603 (((1 : Int32) <<< (x1 &&& 31)).toNatClampNeg) ((1 : Int32) <<< (x1 &&& 31))) 1604 (((1 : Int32) <<< (x1 &&& 31)).toNatClampNeg) ((1 : Int32) <<< (x1 &&& 31))) hp
def F_0_goRound_32  : Nat → Int32 → Int32 → Int32 → Mem → Mem
  | 0, _, _, _, M => M
  | n + 1, x1, x2, x3, M => if x2 < x3 then (F_0_goRound_71 x1 x2 M) else (if (1024 : Int32) ≤ x3 then (F_0_goRound_71 x1 x2 M) else ((F_0_goRound_32 n) x1 x2 (x3 + 1) (wr (wr (wr M 1603 x3.toNatClampNeg 0) 1604 x3.toNatClampNeg 0) 1605 x3.toNatClampNeg 0)))
def P_0_goRound_32  : Nat → Int32 → Int32 → Int32 → Mem → Prop
  | 0, _, _, _, _ => False
  | n + 1, x1, x2, x3, M => ((x2 < x3 → P_0_goRound_71 x1 x2 M) ∧ (¬ x2 < x3 → (((1024 : Int32) ≤ x3 → P_0_goRound_71 x1 x2 M) ∧ (¬ (1024 : Int32) ≤ x3 → (vp_in x3 1024) ∧ ((P_0_goRound_32 n) x1 x2 (x3 + 1) (wr (wr (wr M 1603 x3.toNatClampNeg 0) 1604 x3.toNatClampNeg 0) 1605 x3.toNatClampNeg 0))))))
theorem T_0_goRound_32 {g : Gl} : ∀ (n : Nat) (x1 : Int32) (x2 : Int32) (x3 : Int32) (M : Mem) (hp : P_0_goRound_32 n x1 x2 x3 M), Rn g 3 m0_goRound 32 [some (.ref 1599), some (.int x1), some (.int x2), some (.int x3)] [] M (none) ((F_0_goRound_32 n x1 x2 x3 M)) := by
  intro n
  induction n with
  | zero => intro x1 x2 x3 M hp; exact hp.elim
  | succ n ih =>
    intro x1 x2 x3 M hp
    rw [F_0_goRound_32]
    rw [P_0_goRound_32] at hp
    refine b0_goRound_32  (fun h => ?_) (fun h => ?_)
    · rw [if_pos h]
      have hp := hp.1 h
      exact T_0_goRound_71 x1 x2 M hp
    · rw [if_neg h]
      have hp := hp.2 h
      refine b0_goRound_37  (fun h => ?_) (fun h => ?_)
      · rw [if_pos h]
        have hp := hp.1 h
        exact T_0_goRound_71 x1 x2 M hp
      · rw [if_neg h]
        have hp := hp.2 h
        obtain ⟨p0, hp⟩ := hp
        refine b0_goRound_44 p0 ?_
        exact ih x1 x2 (x3 + 1) (wr (wr (wr M 1603 x3.toNatClampNeg 0) 1604 x3.toNatClampNeg 0) 1605 x3.toNatClampNeg 0) hp
def F_0_goRound_0 (x1 : Int32) (M : Mem) : Mem := if (F_0_reachFrom_0 (wr (wr M 1599 8 (-1)) 1599 9 (-1)) ((1 : Int32) <<< (x1 &&& 31))) = (F_4_allRooms_0 (wr (wr M 1599 8 (-1)) 1599 9 (-1))) then (F_0_goRound_32 FU x1 (F_4_allRooms_0 (wr (wr M 1599 8 (-1)) 1599 9 (-1))) 0 (wr (wr M 1599 8 (-1)) 1599 9 (-1))) else ((wr (wr M 1599 8 (-1)) 1599 9 (-1)))
def P_0_goRound_0 (x1 : Int32) (M : Mem) : Prop := ((((P_0_reachFrom_0 (wr (wr M 1599 8 (-1)) 1599 9 (-1)) ((1 : Int32) <<< (x1 &&& 31))) ∧ ((((F_0_reachFrom_0 (wr (wr M 1599 8 (-1)) 1599 9 (-1)) ((1 : Int32) <<< (x1 &&& 31))) = (F_4_allRooms_0 (wr (wr M 1599 8 (-1)) 1599 9 (-1))) → (P_0_goRound_32 FU x1 (F_4_allRooms_0 (wr (wr M 1599 8 (-1)) 1599 9 (-1))) 0 (wr (wr M 1599 8 (-1)) 1599 9 (-1)))) ∧ (¬ (F_0_reachFrom_0 (wr (wr M 1599 8 (-1)) 1599 9 (-1)) ((1 : Int32) <<< (x1 &&& 31))) = (F_4_allRooms_0 (wr (wr M 1599 8 (-1)) 1599 9 (-1))) → True))))))
theorem T_0_goRound_0 {g : Gl} (x1 : Int32) (M : Mem) (hp : P_0_goRound_0 x1 M) : Rn g 3 m0_goRound 0 [some (.ref 1599), some (.int x1), none, none] [] M (none) ((F_0_goRound_0 x1 M)) := by
  rw [F_0_goRound_0]
  rw [P_0_goRound_0] at hp
  refine b0_goRound_0  (C_4_allRooms  (wr (wr M 1599 8 (-1)) 1599 9 (-1))) (Nat.le_of_ble_eq_true rfl) ?_
  obtain ⟨hc, hp⟩ := hp
  refine b0_goRound_17  (C_0_reachFrom ((1 : Int32) <<< (x1 &&& 31)) (wr (wr M 1599 8 (-1)) 1599 9 (-1)) hc) (Nat.le_of_ble_eq_true rfl) ?_
  refine b0_goRound_25  (fun h => ?_) (fun h => ?_)
  · rw [if_pos h]
    have hp := hp.1 h
    refine b0_goRound_30  ?_
    exact T_0_goRound_32 FU x1 (F_4_allRooms_0 (wr (wr M 1599 8 (-1)) 1599 9 (-1))) 0 (wr (wr M 1599 8 (-1)) 1599 9 (-1)) hp
  · rw [if_neg h]
    exact b0_goRound_29  rfl rfl
theorem C_0_goRound {g : Gl}  (x1 : Int32) (M : Mem) (hp : P_0_goRound_0 x1 M) : Ms g 3 m0_goRound [.ref 1599, .int x1] M (none) ((F_0_goRound_0 x1 M)) := Ms.of okM_m0_goRound (Nat.le_of_ble_eq_true rfl) (R_wk (lc rfl (lc rfl (ln (ln l0)))) (T_0_goRound_0 x1 M hp))
def F_0_likeliest_147 (k35 : Int32 → Int32 → Int32 → Mem → Int64 × Mem) (k51 : Int32 → Int32 → Int32 → Int32 → Mem → Int64 × Mem) (x2 : Int32) (x3 : Int32) (x4 : Int32) (x5 : Int32) (M : Mem) : Int64 × Mem := k51 x2 x3 x4 (x5 + 1) M
def P_0_likeliest_147 (pk35 : Int32 → Int32 → Int32 → Mem → Prop) (pk51 : Int32 → Int32 → Int32 → Int32 → Mem → Prop) (x2 : Int32) (x3 : Int32) (x4 : Int32) (x5 : Int32) (M : Mem) : Prop := (pk51 x2 x3 x4 (x5 + 1) M)
theorem T_0_likeliest_147 {g : Gl} (k35 : Int32 → Int32 → Int32 → Mem → Int64 × Mem) (k51 : Int32 → Int32 → Int32 → Int32 → Mem → Int64 × Mem) (pk35 : Int32 → Int32 → Int32 → Mem → Prop) (pk51 : Int32 → Int32 → Int32 → Int32 → Mem → Prop) (ih35 : ∀ (x2 : Int32) (x3 : Int32) (x4 : Int32) (M : Mem), pk35 x2 x3 x4 M → Rn g 0 m0_likeliest 35 [some (.ref 1599), none, some (.int x2), some (.int x3), some (.int x4), none, none, none, none] [] M (some (.long (k35 x2 x3 x4 M).1)) ((k35 x2 x3 x4 M).2)) (ih51 : ∀ (x2 : Int32) (x3 : Int32) (x4 : Int32) (x5 : Int32) (M : Mem), pk51 x2 x3 x4 x5 M → Rn g 0 m0_likeliest 51 [some (.ref 1599), none, some (.int x2), some (.int x3), some (.int x4), some (.int x5), none, none, none] [] M (some (.long (k51 x2 x3 x4 x5 M).1)) ((k51 x2 x3 x4 x5 M).2)) (x2 : Int32) (x3 : Int32) (x4 : Int32) (x5 : Int32) (M : Mem) (hp : P_0_likeliest_147 pk35 pk51 x2 x3 x4 x5 M) : Rn g 0 m0_likeliest 147 [some (.ref 1599), none, some (.int x2), some (.int x3), some (.int x4), some (.int x5), none, none, none] [] M (some (.long (F_0_likeliest_147 k35 k51 x2 x3 x4 x5 M).1)) ((F_0_likeliest_147 k35 k51 x2 x3 x4 x5 M).2) := by
  rw [F_0_likeliest_147]
  rw [P_0_likeliest_147] at hp
  refine b0_likeliest_147  ?_
  exact ih51 x2 x3 x4 (x5 + 1) M hp
def F_0_likeliest_51 (k35 : Int32 → Int32 → Int32 → Mem → Int64 × Mem) : Nat → Int32 → Int32 → Int32 → Int32 → Mem → Int64 × Mem
  | 0, _, _, _, _, M => (0, M)
  | n + 1, x2, x3, x4, x5, M => if (rd M 1561 1) ≤ x5 then (k35 x2 x3 (x4 + 1) M) else (if (((rd M 1622 2) >>> (x5 &&& 31)) &&& 1) = 0 then (if (lg_cmp (((rl M 1602 ((rd M 1567 x5.toNatClampNeg).toNatClampNeg)) / 16) * ((rd M 1563 ((rd M 1568 x5.toNatClampNeg).toNatClampNeg)).toInt64)) (rl M 1602 (rd M 1568 x5.toNatClampNeg).toNatClampNeg)) ≤ 0 then (F_0_likeliest_147 k35 (F_0_likeliest_51 k35 n) x2 x3 x4 x5 M) else (F_0_likeliest_147 k35 (F_0_likeliest_51 k35 n) x2 1 x4 x5 (wl M 1602 (rd M 1568 x5.toNatClampNeg).toNatClampNeg (((rl M 1602 ((rd M 1567 x5.toNatClampNeg).toNatClampNeg)) / 16) * ((rd M 1563 ((rd M 1568 x5.toNatClampNeg).toNatClampNeg)).toInt64))))) else (F_0_likeliest_147 k35 (F_0_likeliest_51 k35 n) x2 x3 x4 x5 M))
def P_0_likeliest_51 (pk35 : Int32 → Int32 → Int32 → Mem → Prop) : Nat → Int32 → Int32 → Int32 → Int32 → Mem → Prop
  | 0, _, _, _, _, _ => False
  | n + 1, x2, x3, x4, x5, M => (((rd M 1561 1) ≤ x5 → (pk35 x2 x3 (x4 + 1) M)) ∧ (¬ (rd M 1561 1) ≤ x5 → (vp_in x5 24) ∧ (vp_in (rd M 1567 x5.toNatClampNeg) 10) ∧ (vp_in (rd M 1568 x5.toNatClampNeg) 10) ∧ ((¬ (((rd M 1622 2) >>> (x5 &&& 31)) &&& 1) = 0 → P_0_likeliest_147 pk35 (P_0_likeliest_51 pk35 n) x2 x3 x4 x5 M) ∧ ((((rd M 1622 2) >>> (x5 &&& 31)) &&& 1) = 0 → (vp_in (rd M 1568 x5.toNatClampNeg) 10) ∧ (((lg_cmp (((rl M 1602 ((rd M 1567 x5.toNatClampNeg).toNatClampNeg)) / 16) * ((rd M 1563 ((rd M 1568 x5.toNatClampNeg).toNatClampNeg)).toInt64)) (rl M 1602 (rd M 1568 x5.toNatClampNeg).toNatClampNeg)) ≤ 0 → P_0_likeliest_147 pk35 (P_0_likeliest_51 pk35 n) x2 x3 x4 x5 M) ∧ (¬ (lg_cmp (((rl M 1602 ((rd M 1567 x5.toNatClampNeg).toNatClampNeg)) / 16) * ((rd M 1563 ((rd M 1568 x5.toNatClampNeg).toNatClampNeg)).toInt64)) (rl M 1602 (rd M 1568 x5.toNatClampNeg).toNatClampNeg)) ≤ 0 → (vp_in (rd M 1568 x5.toNatClampNeg) 10) ∧ (P_0_likeliest_147 pk35 (P_0_likeliest_51 pk35 n) x2 1 x4 x5 (wl M 1602 (rd M 1568 x5.toNatClampNeg).toNatClampNeg (((rl M 1602 ((rd M 1567 x5.toNatClampNeg).toNatClampNeg)) / 16) * ((rd M 1563 ((rd M 1568 x5.toNatClampNeg).toNatClampNeg)).toInt64))))))))))
theorem T_0_likeliest_51 {g : Gl} (k35 : Int32 → Int32 → Int32 → Mem → Int64 × Mem) (pk35 : Int32 → Int32 → Int32 → Mem → Prop) (ih35 : ∀ (x2 : Int32) (x3 : Int32) (x4 : Int32) (M : Mem), pk35 x2 x3 x4 M → Rn g 0 m0_likeliest 35 [some (.ref 1599), none, some (.int x2), some (.int x3), some (.int x4), none, none, none, none] [] M (some (.long (k35 x2 x3 x4 M).1)) ((k35 x2 x3 x4 M).2)) : ∀ (n : Nat) (x2 : Int32) (x3 : Int32) (x4 : Int32) (x5 : Int32) (M : Mem) (hp : P_0_likeliest_51 pk35 n x2 x3 x4 x5 M), Rn g 0 m0_likeliest 51 [some (.ref 1599), none, some (.int x2), some (.int x3), some (.int x4), some (.int x5), none, none, none] [] M (some (.long (F_0_likeliest_51 k35 n x2 x3 x4 x5 M).1)) ((F_0_likeliest_51 k35 n x2 x3 x4 x5 M).2) := by
  intro n
  induction n with
  | zero => intro x2 x3 x4 x5 M hp; exact hp.elim
  | succ n ih =>
    intro x2 x3 x4 x5 M hp
    rw [F_0_likeliest_51]
    rw [P_0_likeliest_51] at hp
    refine b0_likeliest_51  (fun h => ?_) (fun h => ?_)
    · rw [if_pos h]
      have hp := hp.1 h
      refine b0_likeliest_153  ?_
      exact ih35 x2 x3 (x4 + 1) M hp
    · rw [if_neg h]
      have hp := hp.2 h
      obtain ⟨p0, p1, p2, hp⟩ := hp
      refine b0_likeliest_63 p0 p1 (by decide) p2 (fun h => ?_) (fun h => ?_)
      · rw [if_neg h]
        have hp := hp.1 h
        exact T_0_likeliest_147 k35 (F_0_likeliest_51 k35 n) pk35 (P_0_likeliest_51 pk35 n) ih35 ih x2 x3 x4 x5 M hp
      · rw [if_pos h]
        have hp := hp.2 h
        obtain ⟨p3, hp⟩ := hp
        refine b0_likeliest_123 p3 (fun h => ?_) (fun h => ?_)
        · rw [if_pos h]
          have hp := hp.1 h
          exact T_0_likeliest_147 k35 (F_0_likeliest_51 k35 n) pk35 (P_0_likeliest_51 pk35 n) ih35 ih x2 x3 x4 x5 M hp
        · rw [if_neg h]
          have hp := hp.2 h
          obtain ⟨p4, hp⟩ := hp
          refine b0_likeliest_136 p4 ?_
          exact T_0_likeliest_147 k35 (F_0_likeliest_51 k35 n) pk35 (P_0_likeliest_51 pk35 n) ih35 ih x2 1 x4 x5 (wl M 1602 (rd M 1568 x5.toNatClampNeg).toNatClampNeg (((rl M 1602 ((rd M 1567 x5.toNatClampNeg).toNatClampNeg)) / 16) * ((rd M 1563 ((rd M 1568 x5.toNatClampNeg).toNatClampNeg)).toInt64))) hp
def F_0_likeliest_35  : Nat → Int32 → Int32 → Int32 → Mem → Int64 × Mem
  | 0, _, _, _, M => (0, M)
  | n + 1, x2, x3, x4, M => if (10 : Int32) ≤ x4 then ((rl M 1602 x2.toNatClampNeg, M)) else (if x3 = 0 then ((rl M 1602 x2.toNatClampNeg, M)) else (F_0_likeliest_51 (F_0_likeliest_35 n) FU x2 0 x4 0 M))
def P_0_likeliest_35  : Nat → Int32 → Int32 → Int32 → Mem → Prop
  | 0, _, _, _, _ => False
  | n + 1, x2, x3, x4, M => (((10 : Int32) ≤ x4 → (vp_in x2 10)) ∧ (¬ (10 : Int32) ≤ x4 → ((x3 = 0 → (vp_in x2 10)) ∧ (¬ x3 = 0 → (P_0_likeliest_51 (P_0_likeliest_35 n) FU x2 0 x4 0 M)))))
theorem T_0_likeliest_35 {g : Gl} : ∀ (n : Nat) (x2 : Int32) (x3 : Int32) (x4 : Int32) (M : Mem) (hp : P_0_likeliest_35 n x2 x3 x4 M), Rn g 0 m0_likeliest 35 [some (.ref 1599), none, some (.int x2), some (.int x3), some (.int x4), none, none, none, none] [] M (some (.long (F_0_likeliest_35 n x2 x3 x4 M).1)) ((F_0_likeliest_35 n x2 x3 x4 M).2) := by
  intro n
  induction n with
  | zero => intro x2 x3 x4 M hp; exact hp.elim
  | succ n ih =>
    intro x2 x3 x4 M hp
    rw [F_0_likeliest_35]
    rw [P_0_likeliest_35] at hp
    refine b0_likeliest_35  (fun h => ?_) (fun h => ?_)
    · rw [if_pos h]
      have hp := hp.1 h
      have p0 := hp
      exact b0_likeliest_159 p0 rfl rfl
    · rw [if_neg h]
      have hp := hp.2 h
      refine b0_likeliest_42  (fun h => ?_) (fun h => ?_)
      · rw [if_pos h]
        have hp := hp.1 h
        have p1 := hp
        exact b0_likeliest_159 p1 rfl rfl
      · rw [if_neg h]
        have hp := hp.2 h
        refine b0_likeliest_46  ?_
        exact T_0_likeliest_51 (F_0_likeliest_35 n) (P_0_likeliest_35 n) ih FU x2 0 x4 0 M hp
def F_0_likeliest_2  : Nat → Int32 → Int32 → Int32 → Mem → Int64 × Mem
  | 0, _, _, _, M => (0, M)
  | n + 1, x1, x2, x3, M => if (10 : Int32) ≤ x3 then (F_0_likeliest_35 FU x2 1 0 (wl M 1602 x1.toNatClampNeg 68719476736)) else ((F_0_likeliest_2 n) x1 x2 (x3 + 1) (wl M 1602 x3.toNatClampNeg 0))
def P_0_likeliest_2  : Nat → Int32 → Int32 → Int32 → Mem → Prop
  | 0, _, _, _, _ => False
  | n + 1, x1, x2, x3, M => (((10 : Int32) ≤ x3 → (vp_in x1 10) ∧ (P_0_likeliest_35 FU x2 1 0 (wl M 1602 x1.toNatClampNeg 68719476736))) ∧ (¬ (10 : Int32) ≤ x3 → (vp_in x3 10) ∧ ((P_0_likeliest_2 n) x1 x2 (x3 + 1) (wl M 1602 x3.toNatClampNeg 0))))
theorem T_0_likeliest_2 {g : Gl} : ∀ (n : Nat) (x1 : Int32) (x2 : Int32) (x3 : Int32) (M : Mem) (hp : P_0_likeliest_2 n x1 x2 x3 M), Rn g 0 m0_likeliest 2 [some (.ref 1599), some (.int x1), some (.int x2), some (.int x3), none, none, none, none, none] [] M (some (.long (F_0_likeliest_2 n x1 x2 x3 M).1)) ((F_0_likeliest_2 n x1 x2 x3 M).2) := by
  intro n
  induction n with
  | zero => intro x1 x2 x3 M hp; exact hp.elim
  | succ n ih =>
    intro x1 x2 x3 M hp
    rw [F_0_likeliest_2]
    rw [P_0_likeliest_2] at hp
    refine b0_likeliest_2  (fun h => ?_) (fun h => ?_)
    · rw [if_pos h]
      have hp := hp.1 h
      obtain ⟨p0, hp⟩ := hp
      refine b0_likeliest_21 p0 ?_
      exact T_0_likeliest_35 FU x2 1 0 (wl M 1602 x1.toNatClampNeg 68719476736) hp
    · rw [if_neg h]
      have hp := hp.2 h
      obtain ⟨p1, hp⟩ := hp
      refine b0_likeliest_8 p1 ?_
      exact ih x1 x2 (x3 + 1) (wl M 1602 x3.toNatClampNeg 0) hp
def F_0_likeliest_0 (x1 : Int32) (x2 : Int32) (M : Mem) : Int64 × Mem := F_0_likeliest_2 FU x1 x2 0 M
def P_0_likeliest_0 (x1 : Int32) (x2 : Int32) (M : Mem) : Prop := (P_0_likeliest_2 FU x1 x2 0 M)
theorem T_0_likeliest_0 {g : Gl} (x1 : Int32) (x2 : Int32) (M : Mem) (hp : P_0_likeliest_0 x1 x2 M) : Rn g 0 m0_likeliest 0 [some (.ref 1599), some (.int x1), some (.int x2), none, none, none, none, none, none] [] M (some (.long (F_0_likeliest_0 x1 x2 M).1)) ((F_0_likeliest_0 x1 x2 M).2) := by
  rw [F_0_likeliest_0]
  rw [P_0_likeliest_0] at hp
  refine b0_likeliest_0  ?_
  exact T_0_likeliest_2 FU x1 x2 0 M hp
theorem C_0_likeliest {g : Gl}  (x1 : Int32) (x2 : Int32) (M : Mem) (hp : P_0_likeliest_0 x1 x2 M) : Ms g 0 m0_likeliest [.ref 1599, .int x1, .int x2] M (some (.long (F_0_likeliest_0 x1 x2 M).1)) ((F_0_likeliest_0 x1 x2 M).2) := Ms.of okM_m0_likeliest (Nat.le_of_ble_eq_true rfl) (R_wk (lc rfl (lc rfl (lc rfl (ln (ln (ln (ln (ln (ln l0))))))))) (T_0_likeliest_0 x1 x2 M hp))
