def F_5_begin_0 (x1 : Int32) (M : Mem) : Mem := if 0 ≤ x1 then (wr (wr (wr (wr (wr (wr (wr M 1560 1 (if 600 < x1 then 600 else x1)) 1560 2 0) 1560 3 0) 1560 4 0) 1560 5 0) 1560 6 0) 1560 7 (-1)) else (wr (wr (wr (wr (wr (wr (wr M 1560 1 0) 1560 2 0) 1560 3 0) 1560 4 0) 1560 5 0) 1560 6 0) 1560 7 (-1))
theorem T_5_begin_0 {g : Gl} (x1 : Int32) (M : Mem)  : Rn g 1 m5_begin 0 [some (.ref 1560), some (.int x1)] [] M (none) ((F_5_begin_0 x1 M)) := by
  rw [F_5_begin_0]
  refine b5_begin_0  (fun h => ?_) (fun h => ?_)
  · rw [if_pos h]
    refine b5_begin_9  ?_
    refine b5_begin_15 (Nat.le_of_ble_eq_true rfl) ?_
    exact b5_begin_18  rfl rfl
  · rw [if_neg h]
    refine b5_begin_5  ?_
    exact b5_begin_18  rfl rfl
theorem C_5_begin {g : Gl}  (x1 : Int32) (M : Mem)  : Ms g 1 m5_begin [.ref 1560, .int x1] M (none) ((F_5_begin_0 x1 M)) := Ms.of okM_m5_begin (Nat.le_of_ble_eq_true rfl) (R_wk (lc rfl (lc rfl l0)) (T_5_begin_0 x1 M))
def F_6_lieDown_2  : Nat → Int32 → Mem → Mem
  | 0, _, M => M
  | n + 1, x1, M => if (96 : Int32) ≤ x1 then (M) else ((F_6_lieDown_2 n) (x1 + 1) (wr (wr M 1611 x1.toNatClampNeg 0) 1612 x1.toNatClampNeg 0))
def P_6_lieDown_2  : Nat → Int32 → Mem → Prop
  | 0, _, _ => False
  | n + 1, x1, M => (((96 : Int32) ≤ x1 → True) ∧ (¬ (96 : Int32) ≤ x1 → (vp_in x1 96) ∧ ((P_6_lieDown_2 n) (x1 + 1) (wr (wr M 1611 x1.toNatClampNeg 0) 1612 x1.toNatClampNeg 0))))
theorem T_6_lieDown_2 {g : Gl} : ∀ (n : Nat) (x1 : Int32) (M : Mem) (hp : P_6_lieDown_2 n x1 M), Rn g 0 m6_lieDown 2 [some (.ref 1610), some (.int x1)] [] M (none) ((F_6_lieDown_2 n x1 M)) := by
  intro n
  induction n with
  | zero => intro x1 M hp; exact hp.elim
  | succ n ih =>
    intro x1 M hp
    rw [F_6_lieDown_2]
    rw [P_6_lieDown_2] at hp
    refine b6_lieDown_2  (fun h => ?_) (fun h => ?_)
    · rw [if_pos h]
      exact b6_lieDown_28  rfl rfl
    · rw [if_neg h]
      have hp := hp.2 h
      obtain ⟨p0, hp⟩ := hp
      refine b6_lieDown_8 p0 ?_
      exact ih (x1 + 1) (wr (wr M 1611 x1.toNatClampNeg 0) 1612 x1.toNatClampNeg 0) hp
def F_6_lieDown_0 (M : Mem) : Mem := F_6_lieDown_2 FU 0 M
def P_6_lieDown_0 (M : Mem) : Prop := (P_6_lieDown_2 FU 0 M)
theorem T_6_lieDown_0 {g : Gl} (M : Mem) (hp : P_6_lieDown_0 M) : Rn g 0 m6_lieDown 0 [some (.ref 1610), none] [] M (none) ((F_6_lieDown_0 M)) := by
  rw [F_6_lieDown_0]
  rw [P_6_lieDown_0] at hp
  refine b6_lieDown_0  ?_
  exact T_6_lieDown_2 FU 0 M hp
theorem C_6_lieDown {g : Gl}   (M : Mem) (hp : P_6_lieDown_0 M) : Ms g 0 m6_lieDown [.ref 1610] M (none) ((F_6_lieDown_0 M)) := Ms.of okM_m6_lieDown (Nat.le_of_ble_eq_true rfl) (R_wk (lc rfl (ln l0)) (T_6_lieDown_0 M hp))
def F_6_pick_4 (M : Mem) : Nat → Int32 → Int32 → Int32 → Int32
  | 0, _, _, _ => 0
  | n + 1, x1, x2, x3 => if x1 ≤ x3 then ((F_11_lowest_0 M x2)) else ((F_6_pick_4 M n) x1 (x2 &&& (x2 - 1)) (x3 + 1))
def P_6_pick_4 (M : Mem) : Nat → Int32 → Int32 → Int32 → Prop
  | 0, _, _, _ => False
  | n + 1, x1, x2, x3 => ((x1 ≤ x3 → True) ∧ (¬ x1 ≤ x3 → ((P_6_pick_4 M n) x1 (x2 &&& (x2 - 1)) (x3 + 1))))
theorem T_6_pick_4 {g : Gl} (M : Mem) : ∀ (n : Nat) (x1 : Int32) (x2 : Int32) (x3 : Int32) (hp : P_6_pick_4 M n x1 x2 x3), Rn g 2 m6_pick 4 [none, some (.int x1), some (.int x2), some (.int x3)] [] M (some (.int (F_6_pick_4 M n x1 x2 x3))) (M) := by
  intro n
  induction n with
  | zero => intro x1 x2 x3 hp; exact hp.elim
  | succ n ih =>
    intro x1 x2 x3 hp
    rw [F_6_pick_4]
    rw [P_6_pick_4] at hp
    refine b6_pick_4  (fun h => ?_) (fun h => ?_)
    · rw [if_pos h]
      refine b6_pick_21  (C_11_lowest x2 M) (Nat.le_of_ble_eq_true rfl) ?_
      exact b6_pick_25  rfl rfl
    · rw [if_neg h]
      have hp := hp.2 h
      refine b6_pick_9  ?_
      exact ih x1 (x2 &&& (x2 - 1)) (x3 + 1) hp
def F_6_pick_0 (M : Mem) (x0 : Int32) (x1 : Int32) : Int32 := F_6_pick_4 M FU x1 x0 0
def P_6_pick_0 (M : Mem) (x0 : Int32) (x1 : Int32) : Prop := (P_6_pick_4 M FU x1 x0 0)
theorem T_6_pick_0 {g : Gl} (M : Mem) (x0 : Int32) (x1 : Int32) (hp : P_6_pick_0 M x0 x1) : Rn g 2 m6_pick 0 [some (.int x0), some (.int x1), none, none] [] M (some (.int (F_6_pick_0 M x0 x1))) (M) := by
  rw [F_6_pick_0]
  rw [P_6_pick_0] at hp
  refine b6_pick_0  ?_
  exact T_6_pick_4 _ FU x1 x0 0 hp
theorem C_6_pick {g : Gl}  (x0 : Int32) (x1 : Int32) (M : Mem) (hp : P_6_pick_0 M x0 x1) : Ms g 2 m6_pick [.int x0, .int x1] M (some (.int (F_6_pick_0 M x0 x1))) (M) := Ms.of okM_m6_pick (Nat.le_of_ble_eq_true rfl) (R_wk (lc rfl (lc rfl (ln (ln l0)))) (T_6_pick_0 M x0 x1 hp))
def F_6_openFrom_93 (k38 : Int32 → Int32 → Int32 → Mem → Int32 × Mem) (x2 : Int32) (x3 : Int32) (x4 : Int32) (M : Mem) : Int32 × Mem := k38 x2 x3 (x4 + 1) M
def P_6_openFrom_93 (pk38 : Int32 → Int32 → Int32 → Mem → Prop) (x2 : Int32) (x3 : Int32) (x4 : Int32) (M : Mem) : Prop := (pk38 x2 x3 (x4 + 1) M)
theorem T_6_openFrom_93 {g : Gl} (k38 : Int32 → Int32 → Int32 → Mem → Int32 × Mem) (pk38 : Int32 → Int32 → Int32 → Mem → Prop) (ih38 : ∀ (x2 : Int32) (x3 : Int32) (x4 : Int32) (M : Mem), pk38 x2 x3 x4 M → Rn g 4 m6_openFrom 38 [some (.ref 1610), none, some (.int x2), some (.int x3), some (.int x4)] [] M (some (.int (k38 x2 x3 x4 M).1)) ((k38 x2 x3 x4 M).2)) (x2 : Int32) (x3 : Int32) (x4 : Int32) (M : Mem) (hp : P_6_openFrom_93 pk38 x2 x3 x4 M) : Rn g 4 m6_openFrom 93 [some (.ref 1610), none, some (.int x2), some (.int x3), some (.int x4)] [] M (some (.int (F_6_openFrom_93 k38 x2 x3 x4 M).1)) ((F_6_openFrom_93 k38 x2 x3 x4 M).2) := by
  rw [F_6_openFrom_93]
  rw [P_6_openFrom_93] at hp
  refine b6_openFrom_93  ?_
  exact ih38 x2 x3 (x4 + 1) M hp
def F_6_openFrom_77 (k38 : Int32 → Int32 → Int32 → Mem → Int32 × Mem) (x2 : Int32) (x3 : Int32) (x4 : Int32) (xs0 : Int32) (M : Mem) : Int32 × Mem := if xs0 = 0 then (F_6_openFrom_93 k38 x2 x3 x4 M) else (F_6_openFrom_93 k38 x2 x3 x4 (wr M 1612 x2.toNatClampNeg ((rd M 1612 x2.toNatClampNeg) ||| ((1 : Int32) <<< (x4 &&& 31)))))
def P_6_openFrom_77 (pk38 : Int32 → Int32 → Int32 → Mem → Prop) (x2 : Int32) (x3 : Int32) (x4 : Int32) (xs0 : Int32) (M : Mem) : Prop := ((xs0 = 0 → P_6_openFrom_93 pk38 x2 x3 x4 M) ∧ (¬ xs0 = 0 → (vp_in x2 96) ∧ (P_6_openFrom_93 pk38 x2 x3 x4 (wr M 1612 x2.toNatClampNeg ((rd M 1612 x2.toNatClampNeg) ||| ((1 : Int32) <<< (x4 &&& 31)))))))
theorem T_6_openFrom_77 {g : Gl} (k38 : Int32 → Int32 → Int32 → Mem → Int32 × Mem) (pk38 : Int32 → Int32 → Int32 → Mem → Prop) (ih38 : ∀ (x2 : Int32) (x3 : Int32) (x4 : Int32) (M : Mem), pk38 x2 x3 x4 M → Rn g 4 m6_openFrom 38 [some (.ref 1610), none, some (.int x2), some (.int x3), some (.int x4)] [] M (some (.int (k38 x2 x3 x4 M).1)) ((k38 x2 x3 x4 M).2)) (x2 : Int32) (x3 : Int32) (x4 : Int32) (xs0 : Int32) (M : Mem) (hp : P_6_openFrom_77 pk38 x2 x3 x4 xs0 M) : Rn g 4 m6_openFrom 77 [some (.ref 1610), none, some (.int x2), some (.int x3), some (.int x4)] [.int xs0] M (some (.int (F_6_openFrom_77 k38 x2 x3 x4 xs0 M).1)) ((F_6_openFrom_77 k38 x2 x3 x4 xs0 M).2) := by
  rw [F_6_openFrom_77]
  rw [P_6_openFrom_77] at hp
  refine b6_openFrom_77  (fun h => ?_) (fun h => ?_)
  · rw [if_pos h]
    have hp := hp.1 h
    exact T_6_openFrom_93 k38 pk38 ih38 x2 x3 x4 M hp
  · rw [if_neg h]
    have hp := hp.2 h
    obtain ⟨p0, hp⟩ := hp
    refine b6_openFrom_80 p0 ?_
    exact T_6_openFrom_93 k38 pk38 ih38 x2 x3 x4 (wr M 1612 x2.toNatClampNeg ((rd M 1612 x2.toNatClampNeg) ||| ((1 : Int32) <<< (x4 &&& 31)))) hp
def F_6_openFrom_38  : Nat → Int32 → Int32 → Int32 → Mem → Int32 × Mem
  | 0, _, _, _, M => (0, M)
  | n + 1, x2, x3, x4, M => if (rd M 1561 1) ≤ x4 then (((rd M 1612 x2.toNatClampNeg) &&& x3, M)) else (if ((x3 >>> (x4 &&& 31)) &&& 1) = 0 then (F_6_openFrom_93 (F_6_openFrom_38 n) x2 x3 x4 M) else (F_6_openFrom_77 (F_6_openFrom_38 n) x2 x3 x4 ((F_1_isOpen_0 x4 ((rd M 1622 0) + x2) M).1) ((F_1_isOpen_0 x4 ((rd M 1622 0) + x2) M).2)))
def P_6_openFrom_38  : Nat → Int32 → Int32 → Int32 → Mem → Prop
  | 0, _, _, _, _ => False
  | n + 1, x2, x3, x4, M => (((rd M 1561 1) ≤ x4 → (vp_in x2 96)) ∧ (¬ (rd M 1561 1) ≤ x4 → ((((x3 >>> (x4 &&& 31)) &&& 1) = 0 → P_6_openFrom_93 (P_6_openFrom_38 n) x2 x3 x4 M) ∧ (¬ ((x3 >>> (x4 &&& 31)) &&& 1) = 0 → ((P_1_isOpen_0 x4 ((rd M 1622 0) + x2) M) ∧ (P_6_openFrom_77 (P_6_openFrom_38 n) x2 x3 x4 ((F_1_isOpen_0 x4 ((rd M 1622 0) + x2) M).1) ((F_1_isOpen_0 x4 ((rd M 1622 0) + x2) M).2)))))))
theorem T_6_openFrom_38 {g : Gl} : ∀ (n : Nat) (x2 : Int32) (x3 : Int32) (x4 : Int32) (M : Mem) (hp : P_6_openFrom_38 n x2 x3 x4 M), Rn g 4 m6_openFrom 38 [some (.ref 1610), none, some (.int x2), some (.int x3), some (.int x4)] [] M (some (.int (F_6_openFrom_38 n x2 x3 x4 M).1)) ((F_6_openFrom_38 n x2 x3 x4 M).2) := by
  intro n
  induction n with
  | zero => intro x2 x3 x4 M hp; exact hp.elim
  | succ n ih =>
    intro x2 x3 x4 M hp
    rw [F_6_openFrom_38]
    rw [P_6_openFrom_38] at hp
    refine b6_openFrom_38  (fun h => ?_) (fun h => ?_)
    · rw [if_pos h]
      have hp := hp.1 h
      have p0 := hp
      exact b6_openFrom_99 p0 rfl rfl
    · rw [if_neg h]
      have hp := hp.2 h
      refine b6_openFrom_50  (fun h => ?_) (fun h => ?_)
      · rw [if_pos h]
        have hp := hp.1 h
        exact T_6_openFrom_93 (F_6_openFrom_38 n) (P_6_openFrom_38 n) ih x2 x3 x4 M hp
      · rw [if_neg h]
        have hp := hp.2 h
        obtain ⟨hc, hp⟩ := hp
        refine b6_openFrom_59  (C_1_isOpen x4 ((rd M 1622 0) + x2) M hc) (Nat.le_of_ble_eq_true rfl) ?_
        exact T_6_openFrom_77 (F_6_openFrom_38 n) (P_6_openFrom_38 n) ih x2 x3 x4 ((F_1_isOpen_0 x4 ((rd M 1622 0) + x2) M).1) ((F_1_isOpen_0 x4 ((rd M 1622 0) + x2) M).2) hp
def F_6_openFrom_0 (x1 : Int32) (x2 : Int32) (M : Mem) : Int32 × Mem := if (((rd M 1611 x2.toNatClampNeg) >>> (x1 &&& 31)) &&& 1) = 0 then (F_6_openFrom_38 FU x2 (rd M 1564 x1.toNatClampNeg) 0 (wr M 1611 x2.toNatClampNeg ((rd M 1611 x2.toNatClampNeg) ||| ((1 : Int32) <<< (x1 &&& 31))))) else (((rd M 1612 x2.toNatClampNeg) &&& (rd M 1564 x1.toNatClampNeg), M))
def P_6_openFrom_0 (x1 : Int32) (x2 : Int32) (M : Mem) : Prop := (vp_in x1 10) ∧ (vp_in x2 96) ∧ ((¬ (((rd M 1611 x2.toNatClampNeg) >>> (x1 &&& 31)) &&& 1) = 0 → (vp_in x2 96)) ∧ ((((rd M 1611 x2.toNatClampNeg) >>> (x1 &&& 31)) &&& 1) = 0 → (vp_in x2 96) ∧ (P_6_openFrom_38 FU x2 (rd M 1564 x1.toNatClampNeg) 0 (wr M 1611 x2.toNatClampNeg ((rd M 1611 x2.toNatClampNeg) ||| ((1 : Int32) <<< (x1 &&& 31)))))))
theorem T_6_openFrom_0 {g : Gl} (x1 : Int32) (x2 : Int32) (M : Mem) (hp : P_6_openFrom_0 x1 x2 M) : Rn g 4 m6_openFrom 0 [some (.ref 1610), some (.int x1), some (.int x2), none, none] [] M (some (.int (F_6_openFrom_0 x1 x2 M).1)) ((F_6_openFrom_0 x1 x2 M).2) := by
  rw [F_6_openFrom_0]
  rw [P_6_openFrom_0] at hp
  obtain ⟨p0, p1, hp⟩ := hp
  refine b6_openFrom_0 p0 p1 (fun h => ?_) (fun h => ?_)
  · rw [if_neg h]
    have hp := hp.1 h
    have p2 := hp
    exact b6_openFrom_99 p2 rfl rfl
  · rw [if_pos h]
    have hp := hp.2 h
    obtain ⟨p3, hp⟩ := hp
    refine b6_openFrom_23 p3 ?_
    exact T_6_openFrom_38 FU x2 (rd M 1564 x1.toNatClampNeg) 0 (wr M 1611 x2.toNatClampNeg ((rd M 1611 x2.toNatClampNeg) ||| ((1 : Int32) <<< (x1 &&& 31)))) hp
theorem C_6_openFrom {g : Gl}  (x1 : Int32) (x2 : Int32) (M : Mem) (hp : P_6_openFrom_0 x1 x2 M) : Ms g 4 m6_openFrom [.ref 1610, .int x1, .int x2] M (some (.int (F_6_openFrom_0 x1 x2 M).1)) ((F_6_openFrom_0 x1 x2 M).2) := Ms.of okM_m6_openFrom (Nat.le_of_ble_eq_true rfl) (R_wk (lc rfl (lc rfl (lc rfl (ln (ln l0))))) (T_6_openFrom_0 x1 x2 M hp))
def F_6_draw_0 (M : Mem) : Int32 × Mem := ((((((rd M 1610 5) * 1103515245) + 12345).toUInt32 >>> ((16 : Int32).toUInt32 &&& Int32.toUInt32 31)).toInt32) &&& 32767, wr M 1610 5 (((rd M 1610 5) * 1103515245) + 12345))
theorem T_6_draw_0 {g : Gl} (M : Mem)  : Rn g 0 m6_draw 0 [some (.ref 1610)] [] M (some (.int (F_6_draw_0 M).1)) ((F_6_draw_0 M).2) := by
  rw [F_6_draw_0]
  exact b6_draw_0  rfl rfl
theorem C_6_draw {g : Gl}   (M : Mem)  : Ms g 0 m6_draw [.ref 1610] M (some (.int (F_6_draw_0 M).1)) ((F_6_draw_0 M).2) := Ms.of okM_m6_draw (Nat.le_of_ble_eq_true rfl) (R_wk (lc rfl l0) (T_6_draw_0 M))
def F_6_sleep_111 (k25 : Int32 → Int32 → Mem → Mem) (x3 : Int32) (x4 : Int32) (M : Mem) : Mem := k25 x3 (x4 + 1) M
def P_6_sleep_111 (pk25 : Int32 → Int32 → Mem → Prop) (x3 : Int32) (x4 : Int32) (M : Mem) : Prop := (pk25 x3 (x4 + 1) M)
theorem T_6_sleep_111 {g : Gl} (k25 : Int32 → Int32 → Mem → Mem) (pk25 : Int32 → Int32 → Mem → Prop) (ih25 : ∀ (x3 : Int32) (x4 : Int32) (M : Mem), pk25 x3 x4 M → Rn g 5 m6_sleep 25 [some (.ref 1610), none, none, some (.int x3), some (.int x4), none, none] [] M (none) ((k25 x3 x4 M))) (x3 : Int32) (x4 : Int32) (M : Mem) (hp : P_6_sleep_111 pk25 x3 x4 M) : Rn g 5 m6_sleep 111 [some (.ref 1610), none, none, some (.int x3), some (.int x4), none, none] [] M (none) ((F_6_sleep_111 k25 x3 x4 M)) := by
  rw [F_6_sleep_111]
  rw [P_6_sleep_111] at hp
  refine b6_sleep_111  ?_
  exact ih25 x3 (x4 + 1) M hp
def F_6_sleep_76 (k25 : Int32 → Int32 → Mem → Mem) (x3 : Int32) (x4 : Int32) (x6 : Int32) (xs0 : Int32) (xs1 : Int32) (M : Mem) : Mem := F_6_sleep_111 k25 x3 x4 (wr (wr (wr M 1610 6 (rd M 1568 (F_6_pick_0 M xs1 (xs0 - xs0 / x6 * x6)).toNatClampNeg)) 1610 7 ((rd (wr M 1610 6 (rd M 1568 (F_6_pick_0 M xs1 (xs0 - xs0 / x6 * x6)).toNatClampNeg)) 1610 7) ||| ((1 : Int32) <<< ((rd M 1568 (F_6_pick_0 M xs1 (xs0 - xs0 / x6 * x6)).toNatClampNeg) &&& 31)))) 1610 8 ((rd (wr (wr M 1610 6 (rd M 1568 (F_6_pick_0 M xs1 (xs0 - xs0 / x6 * x6)).toNatClampNeg)) 1610 7 ((rd (wr M 1610 6 (rd M 1568 (F_6_pick_0 M xs1 (xs0 - xs0 / x6 * x6)).toNatClampNeg)) 1610 7) ||| ((1 : Int32) <<< ((rd M 1568 (F_6_pick_0 M xs1 (xs0 - xs0 / x6 * x6)).toNatClampNeg) &&& 31)))) 1610 8) + 1))
def P_6_sleep_76 (pk25 : Int32 → Int32 → Mem → Prop) (x3 : Int32) (x4 : Int32) (x6 : Int32) (xs0 : Int32) (xs1 : Int32) (M : Mem) : Prop := (¬ x6 = 0) ∧ ((P_6_pick_0 M xs1 (xs0 - xs0 / x6 * x6)) ∧ ((vp_in (F_6_pick_0 M xs1 (xs0 - xs0 / x6 * x6)) 24) ∧ (P_6_sleep_111 pk25 x3 x4 (wr (wr (wr M 1610 6 (rd M 1568 (F_6_pick_0 M xs1 (xs0 - xs0 / x6 * x6)).toNatClampNeg)) 1610 7 ((rd (wr M 1610 6 (rd M 1568 (F_6_pick_0 M xs1 (xs0 - xs0 / x6 * x6)).toNatClampNeg)) 1610 7) ||| ((1 : Int32) <<< ((rd M 1568 (F_6_pick_0 M xs1 (xs0 - xs0 / x6 * x6)).toNatClampNeg) &&& 31)))) 1610 8 ((rd (wr (wr M 1610 6 (rd M 1568 (F_6_pick_0 M xs1 (xs0 - xs0 / x6 * x6)).toNatClampNeg)) 1610 7 ((rd (wr M 1610 6 (rd M 1568 (F_6_pick_0 M xs1 (xs0 - xs0 / x6 * x6)).toNatClampNeg)) 1610 7) ||| ((1 : Int32) <<< ((rd M 1568 (F_6_pick_0 M xs1 (xs0 - xs0 / x6 * x6)).toNatClampNeg) &&& 31)))) 1610 8) + 1)))))
theorem T_6_sleep_76 {g : Gl} (k25 : Int32 → Int32 → Mem → Mem) (pk25 : Int32 → Int32 → Mem → Prop) (ih25 : ∀ (x3 : Int32) (x4 : Int32) (M : Mem), pk25 x3 x4 M → Rn g 5 m6_sleep 25 [some (.ref 1610), none, none, some (.int x3), some (.int x4), none, none] [] M (none) ((k25 x3 x4 M))) (x3 : Int32) (x4 : Int32) (x6 : Int32) (xs0 : Int32) (xs1 : Int32) (M : Mem) (hp : P_6_sleep_76 pk25 x3 x4 x6 xs0 xs1 M) : Rn g 5 m6_sleep 76 [some (.ref 1610), none, none, some (.int x3), some (.int x4), none, some (.int x6)] [.int xs0, .int xs1, .ref 1568, .ref 1610] M (none) ((F_6_sleep_76 k25 x3 x4 x6 xs0 xs1 M)) := by
  rw [F_6_sleep_76]
  rw [P_6_sleep_76] at hp
  obtain ⟨p0, hp⟩ := hp
  obtain ⟨hc, hp⟩ := hp
  refine b6_sleep_76 p0 (C_6_pick xs1 (xs0 - xs0 / x6 * x6) M hc) (Nat.le_of_ble_eq_true rfl) ?_
  obtain ⟨p1, hp⟩ := hp
  refine b6_sleep_82 p1 ?_
  exact T_6_sleep_111 k25 pk25 ih25 x3 x4 (wr (wr (wr M 1610 6 (rd M 1568 (F_6_pick_0 M xs1 (xs0 - xs0 / x6 * x6)).toNatClampNeg)) 1610 7 ((rd (wr M 1610 6 (rd M 1568 (F_6_pick_0 M xs1 (xs0 - xs0 / x6 * x6)).toNatClampNeg)) 1610 7) ||| ((1 : Int32) <<< ((rd M 1568 (F_6_pick_0 M xs1 (xs0 - xs0 / x6 * x6)).toNatClampNeg) &&& 31)))) 1610 8 ((rd (wr (wr M 1610 6 (rd M 1568 (F_6_pick_0 M xs1 (xs0 - xs0 / x6 * x6)).toNatClampNeg)) 1610 7 ((rd (wr M 1610 6 (rd M 1568 (F_6_pick_0 M xs1 (xs0 - xs0 / x6 * x6)).toNatClampNeg)) 1610 7) ||| ((1 : Int32) <<< ((rd M 1568 (F_6_pick_0 M xs1 (xs0 - xs0 / x6 * x6)).toNatClampNeg) &&& 31)))) 1610 8) + 1)) hp
def F_6_sleep_48 (k25 : Int32 → Int32 → Mem → Mem) (x3 : Int32) (x4 : Int32) (xs0 : Int32) (M : Mem) : Mem := if (F_6_bitCount_0f7a4_0 M xs0) ≤ 0 then (F_6_sleep_111 k25 x3 x4 M) else (F_6_sleep_76 k25 x3 x4 (F_6_bitCount_0f7a4_0 M xs0) ((F_6_draw_0 M).1) xs0 ((F_6_draw_0 M).2))
def P_6_sleep_48 (pk25 : Int32 → Int32 → Mem → Prop) (x3 : Int32) (x4 : Int32) (xs0 : Int32) (M : Mem) : Prop := (((((F_6_bitCount_0f7a4_0 M xs0) ≤ 0 → P_6_sleep_111 pk25 x3 x4 M) ∧ (¬ (F_6_bitCount_0f7a4_0 M xs0) ≤ 0 → ((P_6_sleep_76 pk25 x3 x4 (F_6_bitCount_0f7a4_0 M xs0) ((F_6_draw_0 M).1) xs0 ((F_6_draw_0 M).2)))))))
theorem T_6_sleep_48 {g : Gl} (k25 : Int32 → Int32 → Mem → Mem) (pk25 : Int32 → Int32 → Mem → Prop) (ih25 : ∀ (x3 : Int32) (x4 : Int32) (M : Mem), pk25 x3 x4 M → Rn g 5 m6_sleep 25 [some (.ref 1610), none, none, some (.int x3), some (.int x4), none, none] [] M (none) ((k25 x3 x4 M))) (x3 : Int32) (x4 : Int32) (xs0 : Int32) (M : Mem) (hp : P_6_sleep_48 pk25 x3 x4 xs0 M) : Rn g 5 m6_sleep 48 [some (.ref 1610), none, none, some (.int x3), some (.int x4), none, none] [.int xs0] M (none) ((F_6_sleep_48 k25 x3 x4 xs0 M)) := by
  rw [F_6_sleep_48]
  rw [P_6_sleep_48] at hp
  refine b6_sleep_48  (C_6_bitCount_0f7a4 xs0 M) (Nat.le_of_ble_eq_true rfl) ?_
  refine b6_sleep_55  (fun h => ?_) (fun h => ?_)
  · rw [if_pos h]
    have hp := hp.1 h
    exact T_6_sleep_111 k25 pk25 ih25 x3 x4 M hp
  · rw [if_neg h]
    have hp := hp.2 h
    refine b6_sleep_62  (C_6_draw  M) (Nat.le_of_ble_eq_true rfl) ?_
    exact T_6_sleep_76 k25 pk25 ih25 x3 x4 (F_6_bitCount_0f7a4_0 M xs0) ((F_6_draw_0 M).1) xs0 ((F_6_draw_0 M).2) hp
def F_6_sleep_25  : Nat → Int32 → Int32 → Mem → Mem
  | 0, _, _, M => M
  | n + 1, x3, x4, M => if x3 ≤ x4 then (M) else (if (96 : Int32) ≤ x4 then (M) else (F_6_sleep_48 (F_6_sleep_25 n) x3 x4 ((F_6_openFrom_0 (rd M 1610 6) x4 M).1) ((F_6_openFrom_0 (rd M 1610 6) x4 M).2)))
def P_6_sleep_25  : Nat → Int32 → Int32 → Mem → Prop
  | 0, _, _, _ => False
  | n + 1, x3, x4, M => ((x3 ≤ x4 → True) ∧ (¬ x3 ≤ x4 → (((96 : Int32) ≤ x4 → True) ∧ (¬ (96 : Int32) ≤ x4 → ((P_6_openFrom_0 (rd M 1610 6) x4 M) ∧ (P_6_sleep_48 (P_6_sleep_25 n) x3 x4 ((F_6_openFrom_0 (rd M 1610 6) x4 M).1) ((F_6_openFrom_0 (rd M 1610 6) x4 M).2)))))))
theorem T_6_sleep_25 {g : Gl} : ∀ (n : Nat) (x3 : Int32) (x4 : Int32) (M : Mem) (hp : P_6_sleep_25 n x3 x4 M), Rn g 5 m6_sleep 25 [some (.ref 1610), none, none, some (.int x3), some (.int x4), none, none] [] M (none) ((F_6_sleep_25 n x3 x4 M)) := by
  intro n
  induction n with
  | zero => intro x3 x4 M hp; exact hp.elim
  | succ n ih =>
    intro x3 x4 M hp
    rw [F_6_sleep_25]
    rw [P_6_sleep_25] at hp
    refine b6_sleep_25  (fun h => ?_) (fun h => ?_)
    · rw [if_pos h]
      exact b6_sleep_117  rfl rfl
    · rw [if_neg h]
      have hp := hp.2 h
      refine b6_sleep_31  (fun h => ?_) (fun h => ?_)
      · rw [if_pos h]
        exact b6_sleep_117  rfl rfl
      · rw [if_neg h]
        have hp := hp.2 h
        obtain ⟨hc, hp⟩ := hp
        refine b6_sleep_38  (C_6_openFrom (rd M 1610 6) x4 M hc) (Nat.le_of_ble_eq_true rfl) ?_
        exact T_6_sleep_48 (F_6_sleep_25 n) (P_6_sleep_25 n) ih x3 x4 ((F_6_openFrom_0 (rd M 1610 6) x4 M).1) ((F_6_openFrom_0 (rd M 1610 6) x4 M).2) hp
def F_6_sleep_0 (x1 : Int32) (x2 : Int32) (x3 : Int32) (M : Mem) : Mem := F_6_sleep_25 FU x3 0 (wr (wr (wr (wr M 1610 5 x1) 1610 6 x2) 1610 7 ((1 : Int32) <<< (x2 &&& 31))) 1610 8 0)
def P_6_sleep_0 (x1 : Int32) (x2 : Int32) (x3 : Int32) (M : Mem) : Prop := (P_6_sleep_25 FU x3 0 (wr (wr (wr (wr M 1610 5 x1) 1610 6 x2) 1610 7 ((1 : Int32) <<< (x2 &&& 31))) 1610 8 0))
theorem T_6_sleep_0 {g : Gl} (x1 : Int32) (x2 : Int32) (x3 : Int32) (M : Mem) (hp : P_6_sleep_0 x1 x2 x3 M) : Rn g 5 m6_sleep 0 [some (.ref 1610), some (.int x1), some (.int x2), some (.int x3), none, none, none] [] M (none) ((F_6_sleep_0 x1 x2 x3 M)) := by
  rw [F_6_sleep_0]
  rw [P_6_sleep_0] at hp
  refine b6_sleep_0  ?_
  exact T_6_sleep_25 FU x3 0 (wr (wr (wr (wr M 1610 5 x1) 1610 6 x2) 1610 7 ((1 : Int32) <<< (x2 &&& 31))) 1610 8 0) hp
theorem C_6_sleep {g : Gl}  (x1 : Int32) (x2 : Int32) (x3 : Int32) (M : Mem) (hp : P_6_sleep_0 x1 x2 x3 M) : Ms g 5 m6_sleep [.ref 1610, .int x1, .int x2, .int x3] M (none) ((F_6_sleep_0 x1 x2 x3 M)) := Ms.of okM_m6_sleep (Nat.le_of_ble_eq_true rfl) (R_wk (lc rfl (lc rfl (lc rfl (lc rfl (ln (ln (ln l0))))))) (T_6_sleep_0 x1 x2 x3 M hp))
def F_7_begin_17  : Nat → Int32 → Mem → Mem
  | 0, _, M => M
  | n + 1, x2, M => if (24 : Int32) ≤ x2 then ((cpM M 1571 (0 : Int32).toNatClampNeg 1624 (0 : Int32).toNatClampNeg (6 : Int32).toNatClampNeg)) else ((F_7_begin_17 n) (x2 + 1) (wr M 1623 x2.toNatClampNeg 0))
def P_7_begin_17  : Nat → Int32 → Mem → Prop
  | 0, _, _ => False
  | n + 1, x2, M => (((24 : Int32) ≤ x2 → True) ∧ (¬ (24 : Int32) ≤ x2 → (vp_in x2 24) ∧ ((P_7_begin_17 n) (x2 + 1) (wr M 1623 x2.toNatClampNeg 0))))
theorem T_7_begin_17 {g : Gl} : ∀ (n : Nat) (x2 : Int32) (M : Mem) (hp : P_7_begin_17 n x2 M), Rn g 1 m7_begin 17 [some (.ref 1622), some (.ref 1561), some (.int x2)] [] M (none) ((F_7_begin_17 n x2 M)) := by
  intro n
  induction n with
  | zero => intro x2 M hp; exact hp.elim
  | succ n ih =>
    intro x2 M hp
    rw [F_7_begin_17]
    rw [P_7_begin_17] at hp
    refine b7_begin_17  (fun h => ?_) (fun h => ?_)
    · rw [if_pos h]
      refine b7_begin_36 (Nat.le_of_ble_eq_true rfl) ?_
      exact b7_begin_51  rfl rfl
    · rw [if_neg h]
      have hp := hp.2 h
      obtain ⟨p0, hp⟩ := hp
      refine b7_begin_23 p0 ?_
      exact ih (x2 + 1) (wr M 1623 x2.toNatClampNeg 0) hp
def F_7_begin_0 (M : Mem) : Mem := F_7_begin_17 FU 0 (wr (wr (wr M 1622 0 0) 1622 1 0) 1622 2 0)
def P_7_begin_0 (M : Mem) : Prop := (P_7_begin_17 FU 0 (wr (wr (wr M 1622 0 0) 1622 1 0) 1622 2 0))
theorem T_7_begin_0 {g : Gl} (M : Mem) (hp : P_7_begin_0 M) : Rn g 1 m7_begin 0 [some (.ref 1622), some (.ref 1561), none] [] M (none) ((F_7_begin_0 M)) := by
  rw [F_7_begin_0]
  rw [P_7_begin_0] at hp
  refine b7_begin_0  ?_
  exact T_7_begin_17 FU 0 (wr (wr (wr M 1622 0 0) 1622 1 0) 1622 2 0) hp
theorem C_7_begin {g : Gl}   (M : Mem) (hp : P_7_begin_0 M) : Ms g 1 m7_begin [.ref 1622, .ref 1561] M (none) ((F_7_begin_0 M)) := Ms.of okM_m7_begin (Nat.le_of_ble_eq_true rfl) (R_wk (lc rfl (lc rfl (ln l0))) (T_7_begin_0 M hp))
def F_7_setsBar_16 (x1 : Int32) (x2 : Int32) (xs0 : Int32) (M : Mem) : Int32 × Mem := if xs0 = x2 then ((0, M)) else ((1, wr M 1622 2 ((rd M 1622 2) ^^^ ((1 : Int32) <<< (x1 &&& 31)))))
theorem T_7_setsBar_16 {g : Gl} (x1 : Int32) (x2 : Int32) (xs0 : Int32) (M : Mem)  : Rn g 0 m7_setsBar 16 [some (.ref 1622), some (.int x1), some (.int x2), none] [.int xs0] M (some (.int (F_7_setsBar_16 x1 x2 xs0 M).1)) ((F_7_setsBar_16 x1 x2 xs0 M).2) := by
  rw [F_7_setsBar_16]
  refine b7_setsBar_16  (fun h => ?_) (fun h => ?_)
  · rw [if_neg h]
    exact b7_setsBar_24  rfl rfl
  · rw [if_pos h]
    exact b7_setsBar_22  rfl rfl
def F_7_setsBar_0 (x1 : Int32) (x2 : Int32) (M : Mem) : Int32 × Mem := if (((rd M 1622 2) >>> (x1 &&& 31)) &&& 1) = 0 then (F_7_setsBar_16 x1 x2 0 M) else (F_7_setsBar_16 x1 x2 1 M)
theorem T_7_setsBar_0 {g : Gl} (x1 : Int32) (x2 : Int32) (M : Mem)  : Rn g 0 m7_setsBar 0 [some (.ref 1622), some (.int x1), some (.int x2), none] [] M (some (.int (F_7_setsBar_0 x1 x2 M).1)) ((F_7_setsBar_0 x1 x2 M).2) := by
  rw [F_7_setsBar_0]
  refine b7_setsBar_0  (fun h => ?_) (fun h => ?_)
  · rw [if_pos h]
    refine b7_setsBar_15  ?_
    exact T_7_setsBar_16 x1 x2 0 M
  · rw [if_neg h]
    refine b7_setsBar_11  ?_
    exact T_7_setsBar_16 x1 x2 1 M
theorem C_7_setsBar {g : Gl}  (x1 : Int32) (x2 : Int32) (M : Mem)  : Ms g 0 m7_setsBar [.ref 1622, .int x1, .int x2] M (some (.int (F_7_setsBar_0 x1 x2 M).1)) ((F_7_setsBar_0 x1 x2 M).2) := Ms.of okM_m7_setsBar (Nat.le_of_ble_eq_true rfl) (R_wk (lc rfl (lc rfl (lc rfl (ln l0)))) (T_7_setsBar_0 x1 x2 M))
def F_7_waits_0 (M : Mem) : Int32 × Mem := if (rd M 1622 0) < 960 then ((1, wr M 1622 0 ((rd M 1622 0) + 1))) else ((0, M))
theorem T_7_waits_0 {g : Gl} (M : Mem)  : Rn g 0 m7_waits 0 [some (.ref 1622)] [] M (some (.int (F_7_waits_0 M).1)) ((F_7_waits_0 M).2) := by
  rw [F_7_waits_0]
  refine b7_waits_0  (fun h => ?_) (fun h => ?_)
  · rw [if_pos h]
    exact b7_waits_12  rfl rfl
  · rw [if_neg h]
    exact b7_waits_10  rfl rfl
theorem C_7_waits {g : Gl}   (M : Mem)  : Ms g 0 m7_waits [.ref 1622] M (some (.int (F_7_waits_0 M).1)) ((F_7_waits_0 M).2) := Ms.of okM_m7_waits (Nat.le_of_ble_eq_true rfl) (R_wk (lc rfl l0) (T_7_waits_0 M))
def F_7_usedInAll_4 (M : Mem) : Nat → Int32 → Int32 → Int32
  | 0, _, _ => 0
  | n + 1, x1, x2 => if (24 : Int32) ≤ x2 then (x1) else ((F_7_usedInAll_4 M n) (x1 + (rd M 1623 x2.toNatClampNeg)) (x2 + 1))
def P_7_usedInAll_4 (M : Mem) : Nat → Int32 → Int32 → Prop
  | 0, _, _ => False
  | n + 1, x1, x2 => (((24 : Int32) ≤ x2 → True) ∧ (¬ (24 : Int32) ≤ x2 → (vp_in x2 24) ∧ ((P_7_usedInAll_4 M n) (x1 + (rd M 1623 x2.toNatClampNeg)) (x2 + 1))))
theorem T_7_usedInAll_4 {g : Gl} (M : Mem) : ∀ (n : Nat) (x1 : Int32) (x2 : Int32) (hp : P_7_usedInAll_4 M n x1 x2), Rn g 0 m7_usedInAll 4 [some (.ref 1622), some (.int x1), some (.int x2)] [] M (some (.int (F_7_usedInAll_4 M n x1 x2))) (M) := by
  intro n
  induction n with
  | zero => intro x1 x2 hp; exact hp.elim
  | succ n ih =>
    intro x1 x2 hp
    rw [F_7_usedInAll_4]
    rw [P_7_usedInAll_4] at hp
    refine b7_usedInAll_4  (fun h => ?_) (fun h => ?_)
    · rw [if_pos h]
      exact b7_usedInAll_25  rfl rfl
    · rw [if_neg h]
      have hp := hp.2 h
      obtain ⟨p0, hp⟩ := hp
      refine b7_usedInAll_10 p0 ?_
      exact ih (x1 + (rd M 1623 x2.toNatClampNeg)) (x2 + 1) hp
def F_7_usedInAll_0 (M : Mem) : Int32 := F_7_usedInAll_4 M FU 0 0
def P_7_usedInAll_0 (M : Mem) : Prop := (P_7_usedInAll_4 M FU 0 0)
theorem T_7_usedInAll_0 {g : Gl} (M : Mem) (hp : P_7_usedInAll_0 M) : Rn g 0 m7_usedInAll 0 [some (.ref 1622), none, none] [] M (some (.int (F_7_usedInAll_0 M))) (M) := by
  rw [F_7_usedInAll_0]
  rw [P_7_usedInAll_0] at hp
  refine b7_usedInAll_0  ?_
  exact T_7_usedInAll_4 _ FU 0 0 hp
theorem C_7_usedInAll {g : Gl}   (M : Mem) (hp : P_7_usedInAll_0 M) : Ms g 0 m7_usedInAll [.ref 1622] M (some (.int (F_7_usedInAll_0 M))) (M) := Ms.of okM_m7_usedInAll (Nat.le_of_ble_eq_true rfl) (R_wk (lc rfl (ln (ln l0))) (T_7_usedInAll_0 M hp))
def F_7_toursIn_32 (k5 : Int32 → Int32 → Int32 → Int32 → Int32) (M : Mem) (x1 : Int32) (x2 : Int32) (x3 : Int32) (x4 : Int32) : Int32 := k5 x1 x2 x3 (x4 + 1)
def P_7_toursIn_32 (pk5 : Int32 → Int32 → Int32 → Int32 → Prop) (M : Mem) (x1 : Int32) (x2 : Int32) (x3 : Int32) (x4 : Int32) : Prop := (pk5 x1 x2 x3 (x4 + 1))
theorem T_7_toursIn_32 {g : Gl} (k5 : Int32 → Int32 → Int32 → Int32 → Int32) (pk5 : Int32 → Int32 → Int32 → Int32 → Prop) (M : Mem) (ih5 : ∀ (x1 : Int32) (x2 : Int32) (x3 : Int32) (x4 : Int32), pk5 x1 x2 x3 x4 → Rn g 0 m7_toursIn 5 [some (.ref 1622), some (.int x1), some (.int x2), some (.int x3), some (.int x4)] [] M (some (.int (k5 x1 x2 x3 x4))) (M)) (x1 : Int32) (x2 : Int32) (x3 : Int32) (x4 : Int32) (hp : P_7_toursIn_32 pk5 M x1 x2 x3 x4) : Rn g 0 m7_toursIn 32 [some (.ref 1622), some (.int x1), some (.int x2), some (.int x3), some (.int x4)] [] M (some (.int (F_7_toursIn_32 k5 M x1 x2 x3 x4))) (M) := by
  rw [F_7_toursIn_32]
  rw [P_7_toursIn_32] at hp
  refine b7_toursIn_32  ?_
  exact ih5 x1 x2 x3 (x4 + 1) hp
def F_7_toursIn_5 (M : Mem) : Nat → Int32 → Int32 → Int32 → Int32 → Int32
  | 0, _, _, _, _ => 0
  | n + 1, x1, x2, x3, x4 => if x2 ≤ x4 then (x3) else (if (6 : Int32) ≤ x4 then (x3) else (if (rd M 1624 x4.toNatClampNeg) = x1 then (F_7_toursIn_32 (F_7_toursIn_5 M n) M x1 x2 (x3 + 1) x4) else (F_7_toursIn_32 (F_7_toursIn_5 M n) M x1 x2 x3 x4)))
def P_7_toursIn_5 (M : Mem) : Nat → Int32 → Int32 → Int32 → Int32 → Prop
  | 0, _, _, _, _ => False
  | n + 1, x1, x2, x3, x4 => ((x2 ≤ x4 → True) ∧ (¬ x2 ≤ x4 → (((6 : Int32) ≤ x4 → True) ∧ (¬ (6 : Int32) ≤ x4 → (vp_in x4 6) ∧ ((¬ (rd M 1624 x4.toNatClampNeg) = x1 → P_7_toursIn_32 (P_7_toursIn_5 M n) M x1 x2 x3 x4) ∧ ((rd M 1624 x4.toNatClampNeg) = x1 → (P_7_toursIn_32 (P_7_toursIn_5 M n) M x1 x2 (x3 + 1) x4)))))))
theorem T_7_toursIn_5 {g : Gl} (M : Mem) : ∀ (n : Nat) (x1 : Int32) (x2 : Int32) (x3 : Int32) (x4 : Int32) (hp : P_7_toursIn_5 M n x1 x2 x3 x4), Rn g 0 m7_toursIn 5 [some (.ref 1622), some (.int x1), some (.int x2), some (.int x3), some (.int x4)] [] M (some (.int (F_7_toursIn_5 M n x1 x2 x3 x4))) (M) := by
  intro n
  induction n with
  | zero => intro x1 x2 x3 x4 hp; exact hp.elim
  | succ n ih =>
    intro x1 x2 x3 x4 hp
    rw [F_7_toursIn_5]
    rw [P_7_toursIn_5] at hp
    refine b7_toursIn_5  (fun h => ?_) (fun h => ?_)
    · rw [if_pos h]
      exact b7_toursIn_38  rfl rfl
    · rw [if_neg h]
      have hp := hp.2 h
      refine b7_toursIn_11  (fun h => ?_) (fun h => ?_)
      · rw [if_pos h]
        exact b7_toursIn_38  rfl rfl
      · rw [if_neg h]
        have hp := hp.2 h
        obtain ⟨p0, hp⟩ := hp
        refine b7_toursIn_18 p0 (fun h => ?_) (fun h => ?_)
        · rw [if_neg h]
          have hp := hp.1 h
          exact T_7_toursIn_32 (F_7_toursIn_5 M n) (P_7_toursIn_5 M n) _ ih x1 x2 x3 x4 hp
        · rw [if_pos h]
          have hp := hp.2 h
          refine b7_toursIn_29  ?_
          exact T_7_toursIn_32 (F_7_toursIn_5 M n) (P_7_toursIn_5 M n) _ ih x1 x2 (x3 + 1) x4 hp
def F_7_toursIn_0 (M : Mem) (x1 : Int32) (x2 : Int32) : Int32 := F_7_toursIn_5 M FU x1 x2 0 0
def P_7_toursIn_0 (M : Mem) (x1 : Int32) (x2 : Int32) : Prop := (P_7_toursIn_5 M FU x1 x2 0 0)
theorem T_7_toursIn_0 {g : Gl} (M : Mem) (x1 : Int32) (x2 : Int32) (hp : P_7_toursIn_0 M x1 x2) : Rn g 0 m7_toursIn 0 [some (.ref 1622), some (.int x1), some (.int x2), none, none] [] M (some (.int (F_7_toursIn_0 M x1 x2))) (M) := by
  rw [F_7_toursIn_0]
  rw [P_7_toursIn_0] at hp
  refine b7_toursIn_0  ?_
  exact T_7_toursIn_5 _ FU x1 x2 0 0 hp
theorem C_7_toursIn {g : Gl}  (x1 : Int32) (x2 : Int32) (M : Mem) (hp : P_7_toursIn_0 M x1 x2) : Ms g 0 m7_toursIn [.ref 1622, .int x1, .int x2] M (some (.int (F_7_toursIn_0 M x1 x2))) (M) := Ms.of okM_m7_toursIn (Nat.le_of_ble_eq_true rfl) (R_wk (lc rfl (lc rfl (lc rfl (ln (ln l0))))) (T_7_toursIn_0 M x1 x2 hp))
def F_8_begin_8 (M : Mem) : Mem := wr M 1614 2 0
theorem T_8_begin_8 {g : Gl} (M : Mem)  : Rn g 2 m8_begin 8 [some (.ref 1614), none] [] M (none) ((F_8_begin_8 M)) := by
  rw [F_8_begin_8]
  exact b8_begin_8  rfl rfl
def F_8_begin_0 (M : Mem) : Mem := F_8_begin_8 (F_7_begin_0 M)
def P_8_begin_0 (M : Mem) : Prop := ((P_7_begin_0 M))
theorem T_8_begin_0 {g : Gl} (M : Mem) (hp : P_8_begin_0 M) : Rn g 2 m8_begin 0 [some (.ref 1614), some (.ref 1561)] [] M (none) ((F_8_begin_0 M)) := by
  rw [F_8_begin_0]
  rw [P_8_begin_0] at hp
  have hc := hp
  refine b8_begin_0  (C_7_begin  M hc) (Nat.le_of_ble_eq_true rfl) ?_
  exact T_8_begin_8 (F_7_begin_0 M)
theorem C_8_begin {g : Gl}   (M : Mem) (hp : P_8_begin_0 M) : Ms g 2 m8_begin [.ref 1614, .ref 1561] M (none) ((F_8_begin_0 M)) := Ms.of okM_m8_begin (Nat.le_of_ble_eq_true rfl) (R_wk (lc rfl (lc rfl l0)) (T_8_begin_0 M hp))
def F_8_keep_25 (M : Mem) : Mem := (wr M 1614 2 ((rd M 1614 2) + 1))
theorem T_8_keep_25 {g : Gl} (M : Mem)  : Rn g 2 m8_keep 25 [some (.ref 1614)] [] M (none) ((F_8_keep_25 M)) := by
  rw [F_8_keep_25]
  refine b8_keep_25  ?_
  exact b8_keep_35  rfl rfl
def F_8_keep_0 (M : Mem) : Mem := if (16 : Int32) ≤ (rd M 1614 2) then (M) else (F_8_keep_25 (stCopy (1625 + 3 * (rd M 1614 2).toNatClampNeg) 1622 M))
def P_8_keep_0 (M : Mem) : Prop := (((16 : Int32) ≤ (rd M 1614 2) → True) ∧ (¬ (16 : Int32) ≤ (rd M 1614 2) → (vp_in (rd M 1614 2) 16) ∧ ((isS (1625 + 3 * (rd M 1614 2).toNatClampNeg) ∧ isS 1622))))
theorem T_8_keep_0 {g : Gl} (M : Mem) (hp : P_8_keep_0 M) : Rn g 2 m8_keep 0 [some (.ref 1614)] [] M (none) ((F_8_keep_0 M)) := by
  rw [F_8_keep_0]
  rw [P_8_keep_0] at hp
  refine b8_keep_0  (fun h => ?_) (fun h => ?_)
  · rw [if_pos h]
    exact b8_keep_35  rfl rfl
  · rw [if_neg h]
    have hp := hp.2 h
    obtain ⟨p0, hp⟩ := hp
    have hc := hp
    refine b8_keep_9 p0 (C_stCopy (1625 + 3 * (rd M 1614 2).toNatClampNeg) 1622 M hc) (Nat.le_of_ble_eq_true rfl) ?_
    exact T_8_keep_25 (stCopy (1625 + 3 * (rd M 1614 2).toNatClampNeg) 1622 M)
theorem C_8_keep {g : Gl}   (M : Mem) (hp : P_8_keep_0 M) : Ms g 2 m8_keep [.ref 1614] M (none) ((F_8_keep_0 M)) := Ms.of okM_m8_keep (Nat.le_of_ble_eq_true rfl) (R_wk (lc rfl l0) (T_8_keep_0 M hp))
def F_8_takeBack_33 (M : Mem) : Mem := M
theorem T_8_takeBack_33 {g : Gl} (M : Mem)  : Rn g 2 m8_takeBack 33 [none] [] M (none) ((F_8_takeBack_33 M)) := by
  rw [F_8_takeBack_33]
  exact b8_takeBack_33  rfl rfl
def F_8_takeBack_0 (M : Mem) : Mem := if (rd M 1614 2) ≤ 0 then (F_8_takeBack_33 M) else (F_8_takeBack_33 (stCopy 1622 (1625 + 3 * ((rd M 1614 2) - 1).toNatClampNeg) (wr M 1614 2 ((rd M 1614 2) - 1))))
def P_8_takeBack_0 (M : Mem) : Prop := (((rd M 1614 2) ≤ 0 → True) ∧ (¬ (rd M 1614 2) ≤ 0 → (vp_in ((rd M 1614 2) - 1) 16) ∧ ((isS 1622 ∧ isS (1625 + 3 * ((rd M 1614 2) - 1).toNatClampNeg)))))
theorem T_8_takeBack_0 {g : Gl} (M : Mem) (hp : P_8_takeBack_0 M) : Rn g 2 m8_takeBack 0 [some (.ref 1614)] [] M (none) ((F_8_takeBack_0 M)) := by
  rw [F_8_takeBack_0]
  rw [P_8_takeBack_0] at hp
  refine b8_takeBack_0  (fun h => ?_) (fun h => ?_)
  · rw [if_pos h]
    exact T_8_takeBack_33 M
  · rw [if_neg h]
    have hp := hp.2 h
    obtain ⟨p0, hp⟩ := hp
    have hc := hp
    refine b8_takeBack_7 p0 (C_stCopy 1622 (1625 + 3 * ((rd M 1614 2) - 1).toNatClampNeg) (wr M 1614 2 ((rd M 1614 2) - 1)) hc) (Nat.le_of_ble_eq_true rfl) ?_
    exact T_8_takeBack_33 (stCopy 1622 (1625 + 3 * ((rd M 1614 2) - 1).toNatClampNeg) (wr M 1614 2 ((rd M 1614 2) - 1)))
theorem C_8_takeBack {g : Gl}   (M : Mem) (hp : P_8_takeBack_0 M) : Ms g 2 m8_takeBack [.ref 1614] M (none) ((F_8_takeBack_0 M)) := Ms.of okM_m8_takeBack (Nat.le_of_ble_eq_true rfl) (R_wk (lc rfl l0) (T_8_takeBack_0 M hp))
def F_8_copyFroma_49 (k26 : Int32 → Mem → Mem) (x2 : Int32) (M : Mem) : Mem := k26 (x2 + 1) M
def P_8_copyFroma_49 (pk26 : Int32 → Mem → Prop) (x2 : Int32) (M : Mem) : Prop := (pk26 (x2 + 1) M)
theorem T_8_copyFroma_49 {g : Gl} (k26 : Int32 → Mem → Mem) (pk26 : Int32 → Mem → Prop) (ih26 : ∀ (x2 : Int32) (M : Mem), pk26 x2 M → Rn g 2 m8_copyFrom 26 [some (.ref 1615), some (.ref 1614), some (.int x2)] [] M (none) ((k26 x2 M))) (x2 : Int32) (M : Mem) (hp : P_8_copyFroma_49 pk26 x2 M) : Rn g 2 m8_copyFrom 49 [some (.ref 1615), some (.ref 1614), some (.int x2)] [] M (none) ((F_8_copyFroma_49 k26 x2 M)) := by
  rw [F_8_copyFroma_49]
  rw [P_8_copyFroma_49] at hp
  refine b8_copyFroma_49  ?_
  exact ih26 (x2 + 1) M hp
def F_8_copyFroma_26  : Nat → Int32 → Mem → Mem
  | 0, _, M => M
  | n + 1, x2, M => if (rd M 1615 2) ≤ x2 then (M) else (F_8_copyFroma_49 (F_8_copyFroma_26 n) x2 (stCopy (1676 + 3 * x2.toNatClampNeg) (1625 + 3 * x2.toNatClampNeg) M))
def P_8_copyFroma_26  : Nat → Int32 → Mem → Prop
  | 0, _, _ => False
  | n + 1, x2, M => (((rd M 1615 2) ≤ x2 → True) ∧ (¬ (rd M 1615 2) ≤ x2 → (vp_in x2 16) ∧ ((isS (1676 + 3 * x2.toNatClampNeg) ∧ isS (1625 + 3 * x2.toNatClampNeg)) ∧ (P_8_copyFroma_49 (P_8_copyFroma_26 n) x2 (stCopy (1676 + 3 * x2.toNatClampNeg) (1625 + 3 * x2.toNatClampNeg) M)))))
theorem T_8_copyFroma_26 {g : Gl} : ∀ (n : Nat) (x2 : Int32) (M : Mem) (hp : P_8_copyFroma_26 n x2 M), Rn g 2 m8_copyFrom 26 [some (.ref 1615), some (.ref 1614), some (.int x2)] [] M (none) ((F_8_copyFroma_26 n x2 M)) := by
  intro n
  induction n with
  | zero => intro x2 M hp; exact hp.elim
  | succ n ih =>
    intro x2 M hp
    rw [F_8_copyFroma_26]
    rw [P_8_copyFroma_26] at hp
    refine b8_copyFroma_26  (fun h => ?_) (fun h => ?_)
    · rw [if_pos h]
      exact b8_copyFroma_55  rfl rfl
    · rw [if_neg h]
      have hp := hp.2 h
      obtain ⟨p0, hp⟩ := hp
      obtain ⟨hc, hp⟩ := hp
      refine b8_copyFroma_34 p0 (C_stCopy (1676 + 3 * x2.toNatClampNeg) (1625 + 3 * x2.toNatClampNeg) M hc) (Nat.le_of_ble_eq_true rfl) ?_
      exact T_8_copyFroma_49 (F_8_copyFroma_26 n) (P_8_copyFroma_26 n) ih x2 (stCopy (1676 + 3 * x2.toNatClampNeg) (1625 + 3 * x2.toNatClampNeg) M) hp
def F_8_copyFroma_11 (M : Mem) : Mem := F_8_copyFroma_26 FU 0 (wr M 1615 2 (if 16 < (rd M 1614 2) then 16 else (rd M 1614 2)))
def P_8_copyFroma_11 (M : Mem) : Prop := ((P_8_copyFroma_26 FU 0 (wr M 1615 2 (if 16 < (rd M 1614 2) then 16 else (rd M 1614 2)))))
theorem T_8_copyFroma_11 {g : Gl} (M : Mem) (hp : P_8_copyFroma_11 M) : Rn g 2 m8_copyFrom 11 [some (.ref 1615), some (.ref 1614), none] [] M (none) ((F_8_copyFroma_11 M)) := by
  rw [F_8_copyFroma_11]
  rw [P_8_copyFroma_11] at hp
  refine b8_copyFroma_11 (Nat.le_of_ble_eq_true rfl) ?_
  refine b8_copyFroma_21  ?_
  exact T_8_copyFroma_26 FU 0 (wr M 1615 2 (if 16 < (rd M 1614 2) then 16 else (rd M 1614 2))) hp
def F_8_copyFroma_0 (M : Mem) : Mem := F_8_copyFroma_11 (stCopy 1673 1622 M)
def P_8_copyFroma_0 (M : Mem) : Prop := ((isS 1673 ∧ isS 1622) ∧ (P_8_copyFroma_11 (stCopy 1673 1622 M)))
theorem T_8_copyFroma_0 {g : Gl} (M : Mem) (hp : P_8_copyFroma_0 M) : Rn g 2 m8_copyFrom 0 [some (.ref 1615), some (.ref 1614), none] [] M (none) ((F_8_copyFroma_0 M)) := by
  rw [F_8_copyFroma_0]
  rw [P_8_copyFroma_0] at hp
  obtain ⟨hc, hp⟩ := hp
  refine b8_copyFroma_0  (C_stCopy 1673 1622 M hc) (Nat.le_of_ble_eq_true rfl) ?_
  exact T_8_copyFroma_11 (stCopy 1673 1622 M) hp
theorem C_8_copyFroma {g : Gl}   (M : Mem) (hp : P_8_copyFroma_0 M) : Ms g 2 m8_copyFrom [.ref 1615, .ref 1614] M (none) ((F_8_copyFroma_0 M)) := Ms.of okM_m8_copyFrom (Nat.le_of_ble_eq_true rfl) (R_wk (lc rfl (lc rfl (ln l0))) (T_8_copyFroma_0 M hp))
def F_8_copyFromb_49 (k26 : Int32 → Mem → Mem) (x2 : Int32) (M : Mem) : Mem := k26 (x2 + 1) M
def P_8_copyFromb_49 (pk26 : Int32 → Mem → Prop) (x2 : Int32) (M : Mem) : Prop := (pk26 (x2 + 1) M)
theorem T_8_copyFromb_49 {g : Gl} (k26 : Int32 → Mem → Mem) (pk26 : Int32 → Mem → Prop) (ih26 : ∀ (x2 : Int32) (M : Mem), pk26 x2 M → Rn g 2 m8_copyFrom 26 [some (.ref 1616), some (.ref 1614), some (.int x2)] [] M (none) ((k26 x2 M))) (x2 : Int32) (M : Mem) (hp : P_8_copyFromb_49 pk26 x2 M) : Rn g 2 m8_copyFrom 49 [some (.ref 1616), some (.ref 1614), some (.int x2)] [] M (none) ((F_8_copyFromb_49 k26 x2 M)) := by
  rw [F_8_copyFromb_49]
  rw [P_8_copyFromb_49] at hp
  refine b8_copyFromb_49  ?_
  exact ih26 (x2 + 1) M hp
def F_8_copyFromb_26  : Nat → Int32 → Mem → Mem
  | 0, _, M => M
  | n + 1, x2, M => if (rd M 1616 2) ≤ x2 then (M) else (F_8_copyFromb_49 (F_8_copyFromb_26 n) x2 (stCopy (1727 + 3 * x2.toNatClampNeg) (1625 + 3 * x2.toNatClampNeg) M))
def P_8_copyFromb_26  : Nat → Int32 → Mem → Prop
  | 0, _, _ => False
  | n + 1, x2, M => (((rd M 1616 2) ≤ x2 → True) ∧ (¬ (rd M 1616 2) ≤ x2 → (vp_in x2 16) ∧ ((isS (1727 + 3 * x2.toNatClampNeg) ∧ isS (1625 + 3 * x2.toNatClampNeg)) ∧ (P_8_copyFromb_49 (P_8_copyFromb_26 n) x2 (stCopy (1727 + 3 * x2.toNatClampNeg) (1625 + 3 * x2.toNatClampNeg) M)))))
theorem T_8_copyFromb_26 {g : Gl} : ∀ (n : Nat) (x2 : Int32) (M : Mem) (hp : P_8_copyFromb_26 n x2 M), Rn g 2 m8_copyFrom 26 [some (.ref 1616), some (.ref 1614), some (.int x2)] [] M (none) ((F_8_copyFromb_26 n x2 M)) := by
  intro n
  induction n with
  | zero => intro x2 M hp; exact hp.elim
  | succ n ih =>
    intro x2 M hp
    rw [F_8_copyFromb_26]
    rw [P_8_copyFromb_26] at hp
    refine b8_copyFromb_26  (fun h => ?_) (fun h => ?_)
    · rw [if_pos h]
      exact b8_copyFromb_55  rfl rfl
    · rw [if_neg h]
      have hp := hp.2 h
      obtain ⟨p0, hp⟩ := hp
      obtain ⟨hc, hp⟩ := hp
      refine b8_copyFromb_34 p0 (C_stCopy (1727 + 3 * x2.toNatClampNeg) (1625 + 3 * x2.toNatClampNeg) M hc) (Nat.le_of_ble_eq_true rfl) ?_
      exact T_8_copyFromb_49 (F_8_copyFromb_26 n) (P_8_copyFromb_26 n) ih x2 (stCopy (1727 + 3 * x2.toNatClampNeg) (1625 + 3 * x2.toNatClampNeg) M) hp
def F_8_copyFromb_11 (M : Mem) : Mem := F_8_copyFromb_26 FU 0 (wr M 1616 2 (if 16 < (rd M 1614 2) then 16 else (rd M 1614 2)))
def P_8_copyFromb_11 (M : Mem) : Prop := ((P_8_copyFromb_26 FU 0 (wr M 1616 2 (if 16 < (rd M 1614 2) then 16 else (rd M 1614 2)))))
theorem T_8_copyFromb_11 {g : Gl} (M : Mem) (hp : P_8_copyFromb_11 M) : Rn g 2 m8_copyFrom 11 [some (.ref 1616), some (.ref 1614), none] [] M (none) ((F_8_copyFromb_11 M)) := by
  rw [F_8_copyFromb_11]
  rw [P_8_copyFromb_11] at hp
  refine b8_copyFromb_11 (Nat.le_of_ble_eq_true rfl) ?_
  refine b8_copyFromb_21  ?_
  exact T_8_copyFromb_26 FU 0 (wr M 1616 2 (if 16 < (rd M 1614 2) then 16 else (rd M 1614 2))) hp
def F_8_copyFromb_0 (M : Mem) : Mem := F_8_copyFromb_11 (stCopy 1724 1622 M)
def P_8_copyFromb_0 (M : Mem) : Prop := ((isS 1724 ∧ isS 1622) ∧ (P_8_copyFromb_11 (stCopy 1724 1622 M)))
theorem T_8_copyFromb_0 {g : Gl} (M : Mem) (hp : P_8_copyFromb_0 M) : Rn g 2 m8_copyFrom 0 [some (.ref 1616), some (.ref 1614), none] [] M (none) ((F_8_copyFromb_0 M)) := by
  rw [F_8_copyFromb_0]
  rw [P_8_copyFromb_0] at hp
  obtain ⟨hc, hp⟩ := hp
  refine b8_copyFromb_0  (C_stCopy 1724 1622 M hc) (Nat.le_of_ble_eq_true rfl) ?_
  exact T_8_copyFromb_11 (stCopy 1724 1622 M) hp
theorem C_8_copyFromb {g : Gl}   (M : Mem) (hp : P_8_copyFromb_0 M) : Ms g 2 m8_copyFrom [.ref 1616, .ref 1614] M (none) ((F_8_copyFromb_0 M)) := Ms.of okM_m8_copyFrom (Nat.le_of_ble_eq_true rfl) (R_wk (lc rfl (lc rfl (ln l0))) (T_8_copyFromb_0 M hp))
def F_8_copyFromc_49 (k26 : Int32 → Mem → Mem) (x2 : Int32) (M : Mem) : Mem := k26 (x2 + 1) M
def P_8_copyFromc_49 (pk26 : Int32 → Mem → Prop) (x2 : Int32) (M : Mem) : Prop := (pk26 (x2 + 1) M)
theorem T_8_copyFromc_49 {g : Gl} (k26 : Int32 → Mem → Mem) (pk26 : Int32 → Mem → Prop) (ih26 : ∀ (x2 : Int32) (M : Mem), pk26 x2 M → Rn g 2 m8_copyFrom 26 [some (.ref 1617), some (.ref 1614), some (.int x2)] [] M (none) ((k26 x2 M))) (x2 : Int32) (M : Mem) (hp : P_8_copyFromc_49 pk26 x2 M) : Rn g 2 m8_copyFrom 49 [some (.ref 1617), some (.ref 1614), some (.int x2)] [] M (none) ((F_8_copyFromc_49 k26 x2 M)) := by
  rw [F_8_copyFromc_49]
  rw [P_8_copyFromc_49] at hp
  refine b8_copyFromc_49  ?_
  exact ih26 (x2 + 1) M hp
def F_8_copyFromc_26  : Nat → Int32 → Mem → Mem
  | 0, _, M => M
  | n + 1, x2, M => if (rd M 1617 2) ≤ x2 then (M) else (F_8_copyFromc_49 (F_8_copyFromc_26 n) x2 (stCopy (1778 + 3 * x2.toNatClampNeg) (1625 + 3 * x2.toNatClampNeg) M))
def P_8_copyFromc_26  : Nat → Int32 → Mem → Prop
  | 0, _, _ => False
  | n + 1, x2, M => (((rd M 1617 2) ≤ x2 → True) ∧ (¬ (rd M 1617 2) ≤ x2 → (vp_in x2 16) ∧ ((isS (1778 + 3 * x2.toNatClampNeg) ∧ isS (1625 + 3 * x2.toNatClampNeg)) ∧ (P_8_copyFromc_49 (P_8_copyFromc_26 n) x2 (stCopy (1778 + 3 * x2.toNatClampNeg) (1625 + 3 * x2.toNatClampNeg) M)))))
theorem T_8_copyFromc_26 {g : Gl} : ∀ (n : Nat) (x2 : Int32) (M : Mem) (hp : P_8_copyFromc_26 n x2 M), Rn g 2 m8_copyFrom 26 [some (.ref 1617), some (.ref 1614), some (.int x2)] [] M (none) ((F_8_copyFromc_26 n x2 M)) := by
  intro n
  induction n with
  | zero => intro x2 M hp; exact hp.elim
  | succ n ih =>
    intro x2 M hp
    rw [F_8_copyFromc_26]
    rw [P_8_copyFromc_26] at hp
    refine b8_copyFromc_26  (fun h => ?_) (fun h => ?_)
    · rw [if_pos h]
      exact b8_copyFromc_55  rfl rfl
    · rw [if_neg h]
      have hp := hp.2 h
      obtain ⟨p0, hp⟩ := hp
      obtain ⟨hc, hp⟩ := hp
      refine b8_copyFromc_34 p0 (C_stCopy (1778 + 3 * x2.toNatClampNeg) (1625 + 3 * x2.toNatClampNeg) M hc) (Nat.le_of_ble_eq_true rfl) ?_
      exact T_8_copyFromc_49 (F_8_copyFromc_26 n) (P_8_copyFromc_26 n) ih x2 (stCopy (1778 + 3 * x2.toNatClampNeg) (1625 + 3 * x2.toNatClampNeg) M) hp
def F_8_copyFromc_11 (M : Mem) : Mem := F_8_copyFromc_26 FU 0 (wr M 1617 2 (if 16 < (rd M 1614 2) then 16 else (rd M 1614 2)))
def P_8_copyFromc_11 (M : Mem) : Prop := ((P_8_copyFromc_26 FU 0 (wr M 1617 2 (if 16 < (rd M 1614 2) then 16 else (rd M 1614 2)))))
theorem T_8_copyFromc_11 {g : Gl} (M : Mem) (hp : P_8_copyFromc_11 M) : Rn g 2 m8_copyFrom 11 [some (.ref 1617), some (.ref 1614), none] [] M (none) ((F_8_copyFromc_11 M)) := by
  rw [F_8_copyFromc_11]
  rw [P_8_copyFromc_11] at hp
  refine b8_copyFromc_11 (Nat.le_of_ble_eq_true rfl) ?_
  refine b8_copyFromc_21  ?_
  exact T_8_copyFromc_26 FU 0 (wr M 1617 2 (if 16 < (rd M 1614 2) then 16 else (rd M 1614 2))) hp
def F_8_copyFromc_0 (M : Mem) : Mem := F_8_copyFromc_11 (stCopy 1775 1622 M)
def P_8_copyFromc_0 (M : Mem) : Prop := ((isS 1775 ∧ isS 1622) ∧ (P_8_copyFromc_11 (stCopy 1775 1622 M)))
theorem T_8_copyFromc_0 {g : Gl} (M : Mem) (hp : P_8_copyFromc_0 M) : Rn g 2 m8_copyFrom 0 [some (.ref 1617), some (.ref 1614), none] [] M (none) ((F_8_copyFromc_0 M)) := by
  rw [F_8_copyFromc_0]
  rw [P_8_copyFromc_0] at hp
  obtain ⟨hc, hp⟩ := hp
  refine b8_copyFromc_0  (C_stCopy 1775 1622 M hc) (Nat.le_of_ble_eq_true rfl) ?_
  exact T_8_copyFromc_11 (stCopy 1775 1622 M) hp
theorem C_8_copyFromc {g : Gl}   (M : Mem) (hp : P_8_copyFromc_0 M) : Ms g 2 m8_copyFrom [.ref 1617, .ref 1614] M (none) ((F_8_copyFromc_0 M)) := Ms.of okM_m8_copyFrom (Nat.le_of_ble_eq_true rfl) (R_wk (lc rfl (lc rfl (ln l0))) (T_8_copyFromc_0 M hp))
def F_8_copyFromd_49 (k26 : Int32 → Mem → Mem) (x2 : Int32) (M : Mem) : Mem := k26 (x2 + 1) M
def P_8_copyFromd_49 (pk26 : Int32 → Mem → Prop) (x2 : Int32) (M : Mem) : Prop := (pk26 (x2 + 1) M)
theorem T_8_copyFromd_49 {g : Gl} (k26 : Int32 → Mem → Mem) (pk26 : Int32 → Mem → Prop) (ih26 : ∀ (x2 : Int32) (M : Mem), pk26 x2 M → Rn g 2 m8_copyFrom 26 [some (.ref 1614), some (.ref 1615), some (.int x2)] [] M (none) ((k26 x2 M))) (x2 : Int32) (M : Mem) (hp : P_8_copyFromd_49 pk26 x2 M) : Rn g 2 m8_copyFrom 49 [some (.ref 1614), some (.ref 1615), some (.int x2)] [] M (none) ((F_8_copyFromd_49 k26 x2 M)) := by
  rw [F_8_copyFromd_49]
  rw [P_8_copyFromd_49] at hp
  refine b8_copyFromd_49  ?_
  exact ih26 (x2 + 1) M hp
def F_8_copyFromd_26  : Nat → Int32 → Mem → Mem
  | 0, _, M => M
  | n + 1, x2, M => if (rd M 1614 2) ≤ x2 then (M) else (F_8_copyFromd_49 (F_8_copyFromd_26 n) x2 (stCopy (1625 + 3 * x2.toNatClampNeg) (1676 + 3 * x2.toNatClampNeg) M))
def P_8_copyFromd_26  : Nat → Int32 → Mem → Prop
  | 0, _, _ => False
  | n + 1, x2, M => (((rd M 1614 2) ≤ x2 → True) ∧ (¬ (rd M 1614 2) ≤ x2 → (vp_in x2 16) ∧ ((isS (1625 + 3 * x2.toNatClampNeg) ∧ isS (1676 + 3 * x2.toNatClampNeg)) ∧ (P_8_copyFromd_49 (P_8_copyFromd_26 n) x2 (stCopy (1625 + 3 * x2.toNatClampNeg) (1676 + 3 * x2.toNatClampNeg) M)))))
theorem T_8_copyFromd_26 {g : Gl} : ∀ (n : Nat) (x2 : Int32) (M : Mem) (hp : P_8_copyFromd_26 n x2 M), Rn g 2 m8_copyFrom 26 [some (.ref 1614), some (.ref 1615), some (.int x2)] [] M (none) ((F_8_copyFromd_26 n x2 M)) := by
  intro n
  induction n with
  | zero => intro x2 M hp; exact hp.elim
  | succ n ih =>
    intro x2 M hp
    rw [F_8_copyFromd_26]
    rw [P_8_copyFromd_26] at hp
    refine b8_copyFromd_26  (fun h => ?_) (fun h => ?_)
    · rw [if_pos h]
      exact b8_copyFromd_55  rfl rfl
    · rw [if_neg h]
      have hp := hp.2 h
      obtain ⟨p0, hp⟩ := hp
      obtain ⟨hc, hp⟩ := hp
      refine b8_copyFromd_34 p0 (C_stCopy (1625 + 3 * x2.toNatClampNeg) (1676 + 3 * x2.toNatClampNeg) M hc) (Nat.le_of_ble_eq_true rfl) ?_
      exact T_8_copyFromd_49 (F_8_copyFromd_26 n) (P_8_copyFromd_26 n) ih x2 (stCopy (1625 + 3 * x2.toNatClampNeg) (1676 + 3 * x2.toNatClampNeg) M) hp
def F_8_copyFromd_11 (M : Mem) : Mem := F_8_copyFromd_26 FU 0 (wr M 1614 2 (if 16 < (rd M 1615 2) then 16 else (rd M 1615 2)))
def P_8_copyFromd_11 (M : Mem) : Prop := ((P_8_copyFromd_26 FU 0 (wr M 1614 2 (if 16 < (rd M 1615 2) then 16 else (rd M 1615 2)))))
theorem T_8_copyFromd_11 {g : Gl} (M : Mem) (hp : P_8_copyFromd_11 M) : Rn g 2 m8_copyFrom 11 [some (.ref 1614), some (.ref 1615), none] [] M (none) ((F_8_copyFromd_11 M)) := by
  rw [F_8_copyFromd_11]
  rw [P_8_copyFromd_11] at hp
  refine b8_copyFromd_11 (Nat.le_of_ble_eq_true rfl) ?_
  refine b8_copyFromd_21  ?_
  exact T_8_copyFromd_26 FU 0 (wr M 1614 2 (if 16 < (rd M 1615 2) then 16 else (rd M 1615 2))) hp
def F_8_copyFromd_0 (M : Mem) : Mem := F_8_copyFromd_11 (stCopy 1622 1673 M)
def P_8_copyFromd_0 (M : Mem) : Prop := ((isS 1622 ∧ isS 1673) ∧ (P_8_copyFromd_11 (stCopy 1622 1673 M)))
theorem T_8_copyFromd_0 {g : Gl} (M : Mem) (hp : P_8_copyFromd_0 M) : Rn g 2 m8_copyFrom 0 [some (.ref 1614), some (.ref 1615), none] [] M (none) ((F_8_copyFromd_0 M)) := by
  rw [F_8_copyFromd_0]
  rw [P_8_copyFromd_0] at hp
  obtain ⟨hc, hp⟩ := hp
  refine b8_copyFromd_0  (C_stCopy 1622 1673 M hc) (Nat.le_of_ble_eq_true rfl) ?_
  exact T_8_copyFromd_11 (stCopy 1622 1673 M) hp
theorem C_8_copyFromd {g : Gl}   (M : Mem) (hp : P_8_copyFromd_0 M) : Ms g 2 m8_copyFrom [.ref 1614, .ref 1615] M (none) ((F_8_copyFromd_0 M)) := Ms.of okM_m8_copyFrom (Nat.le_of_ble_eq_true rfl) (R_wk (lc rfl (lc rfl (ln l0))) (T_8_copyFromd_0 M hp))
def F_8_copyFrome_49 (k26 : Int32 → Mem → Mem) (x2 : Int32) (M : Mem) : Mem := k26 (x2 + 1) M
def P_8_copyFrome_49 (pk26 : Int32 → Mem → Prop) (x2 : Int32) (M : Mem) : Prop := (pk26 (x2 + 1) M)
theorem T_8_copyFrome_49 {g : Gl} (k26 : Int32 → Mem → Mem) (pk26 : Int32 → Mem → Prop) (ih26 : ∀ (x2 : Int32) (M : Mem), pk26 x2 M → Rn g 2 m8_copyFrom 26 [some (.ref 1614), some (.ref 1616), some (.int x2)] [] M (none) ((k26 x2 M))) (x2 : Int32) (M : Mem) (hp : P_8_copyFrome_49 pk26 x2 M) : Rn g 2 m8_copyFrom 49 [some (.ref 1614), some (.ref 1616), some (.int x2)] [] M (none) ((F_8_copyFrome_49 k26 x2 M)) := by
  rw [F_8_copyFrome_49]
  rw [P_8_copyFrome_49] at hp
  refine b8_copyFrome_49  ?_
  exact ih26 (x2 + 1) M hp
def F_8_copyFrome_26  : Nat → Int32 → Mem → Mem
  | 0, _, M => M
  | n + 1, x2, M => if (rd M 1614 2) ≤ x2 then (M) else (F_8_copyFrome_49 (F_8_copyFrome_26 n) x2 (stCopy (1625 + 3 * x2.toNatClampNeg) (1727 + 3 * x2.toNatClampNeg) M))
def P_8_copyFrome_26  : Nat → Int32 → Mem → Prop
  | 0, _, _ => False
  | n + 1, x2, M => (((rd M 1614 2) ≤ x2 → True) ∧ (¬ (rd M 1614 2) ≤ x2 → (vp_in x2 16) ∧ ((isS (1625 + 3 * x2.toNatClampNeg) ∧ isS (1727 + 3 * x2.toNatClampNeg)) ∧ (P_8_copyFrome_49 (P_8_copyFrome_26 n) x2 (stCopy (1625 + 3 * x2.toNatClampNeg) (1727 + 3 * x2.toNatClampNeg) M)))))
theorem T_8_copyFrome_26 {g : Gl} : ∀ (n : Nat) (x2 : Int32) (M : Mem) (hp : P_8_copyFrome_26 n x2 M), Rn g 2 m8_copyFrom 26 [some (.ref 1614), some (.ref 1616), some (.int x2)] [] M (none) ((F_8_copyFrome_26 n x2 M)) := by
  intro n
  induction n with
  | zero => intro x2 M hp; exact hp.elim
  | succ n ih =>
    intro x2 M hp
    rw [F_8_copyFrome_26]
    rw [P_8_copyFrome_26] at hp
    refine b8_copyFrome_26  (fun h => ?_) (fun h => ?_)
    · rw [if_pos h]
      exact b8_copyFrome_55  rfl rfl
    · rw [if_neg h]
      have hp := hp.2 h
      obtain ⟨p0, hp⟩ := hp
      obtain ⟨hc, hp⟩ := hp
      refine b8_copyFrome_34 p0 (C_stCopy (1625 + 3 * x2.toNatClampNeg) (1727 + 3 * x2.toNatClampNeg) M hc) (Nat.le_of_ble_eq_true rfl) ?_
      exact T_8_copyFrome_49 (F_8_copyFrome_26 n) (P_8_copyFrome_26 n) ih x2 (stCopy (1625 + 3 * x2.toNatClampNeg) (1727 + 3 * x2.toNatClampNeg) M) hp
def F_8_copyFrome_11 (M : Mem) : Mem := F_8_copyFrome_26 FU 0 (wr M 1614 2 (if 16 < (rd M 1616 2) then 16 else (rd M 1616 2)))
def P_8_copyFrome_11 (M : Mem) : Prop := ((P_8_copyFrome_26 FU 0 (wr M 1614 2 (if 16 < (rd M 1616 2) then 16 else (rd M 1616 2)))))
theorem T_8_copyFrome_11 {g : Gl} (M : Mem) (hp : P_8_copyFrome_11 M) : Rn g 2 m8_copyFrom 11 [some (.ref 1614), some (.ref 1616), none] [] M (none) ((F_8_copyFrome_11 M)) := by
  rw [F_8_copyFrome_11]
  rw [P_8_copyFrome_11] at hp
  refine b8_copyFrome_11 (Nat.le_of_ble_eq_true rfl) ?_
  refine b8_copyFrome_21  ?_
  exact T_8_copyFrome_26 FU 0 (wr M 1614 2 (if 16 < (rd M 1616 2) then 16 else (rd M 1616 2))) hp
def F_8_copyFrome_0 (M : Mem) : Mem := F_8_copyFrome_11 (stCopy 1622 1724 M)
def P_8_copyFrome_0 (M : Mem) : Prop := ((isS 1622 ∧ isS 1724) ∧ (P_8_copyFrome_11 (stCopy 1622 1724 M)))
theorem T_8_copyFrome_0 {g : Gl} (M : Mem) (hp : P_8_copyFrome_0 M) : Rn g 2 m8_copyFrom 0 [some (.ref 1614), some (.ref 1616), none] [] M (none) ((F_8_copyFrome_0 M)) := by
  rw [F_8_copyFrome_0]
  rw [P_8_copyFrome_0] at hp
  obtain ⟨hc, hp⟩ := hp
  refine b8_copyFrome_0  (C_stCopy 1622 1724 M hc) (Nat.le_of_ble_eq_true rfl) ?_
  exact T_8_copyFrome_11 (stCopy 1622 1724 M) hp
theorem C_8_copyFrome {g : Gl}   (M : Mem) (hp : P_8_copyFrome_0 M) : Ms g 2 m8_copyFrom [.ref 1614, .ref 1616] M (none) ((F_8_copyFrome_0 M)) := Ms.of okM_m8_copyFrom (Nat.le_of_ble_eq_true rfl) (R_wk (lc rfl (lc rfl (ln l0))) (T_8_copyFrome_0 M hp))
def F_8_copyFromf_49 (k26 : Int32 → Mem → Mem) (x2 : Int32) (M : Mem) : Mem := k26 (x2 + 1) M
def P_8_copyFromf_49 (pk26 : Int32 → Mem → Prop) (x2 : Int32) (M : Mem) : Prop := (pk26 (x2 + 1) M)
theorem T_8_copyFromf_49 {g : Gl} (k26 : Int32 → Mem → Mem) (pk26 : Int32 → Mem → Prop) (ih26 : ∀ (x2 : Int32) (M : Mem), pk26 x2 M → Rn g 2 m8_copyFrom 26 [some (.ref 1614), some (.ref 1617), some (.int x2)] [] M (none) ((k26 x2 M))) (x2 : Int32) (M : Mem) (hp : P_8_copyFromf_49 pk26 x2 M) : Rn g 2 m8_copyFrom 49 [some (.ref 1614), some (.ref 1617), some (.int x2)] [] M (none) ((F_8_copyFromf_49 k26 x2 M)) := by
  rw [F_8_copyFromf_49]
  rw [P_8_copyFromf_49] at hp
  refine b8_copyFromf_49  ?_
  exact ih26 (x2 + 1) M hp
def F_8_copyFromf_26  : Nat → Int32 → Mem → Mem
  | 0, _, M => M
  | n + 1, x2, M => if (rd M 1614 2) ≤ x2 then (M) else (F_8_copyFromf_49 (F_8_copyFromf_26 n) x2 (stCopy (1625 + 3 * x2.toNatClampNeg) (1778 + 3 * x2.toNatClampNeg) M))
def P_8_copyFromf_26  : Nat → Int32 → Mem → Prop
  | 0, _, _ => False
  | n + 1, x2, M => (((rd M 1614 2) ≤ x2 → True) ∧ (¬ (rd M 1614 2) ≤ x2 → (vp_in x2 16) ∧ ((isS (1625 + 3 * x2.toNatClampNeg) ∧ isS (1778 + 3 * x2.toNatClampNeg)) ∧ (P_8_copyFromf_49 (P_8_copyFromf_26 n) x2 (stCopy (1625 + 3 * x2.toNatClampNeg) (1778 + 3 * x2.toNatClampNeg) M)))))
theorem T_8_copyFromf_26 {g : Gl} : ∀ (n : Nat) (x2 : Int32) (M : Mem) (hp : P_8_copyFromf_26 n x2 M), Rn g 2 m8_copyFrom 26 [some (.ref 1614), some (.ref 1617), some (.int x2)] [] M (none) ((F_8_copyFromf_26 n x2 M)) := by
  intro n
  induction n with
  | zero => intro x2 M hp; exact hp.elim
  | succ n ih =>
    intro x2 M hp
    rw [F_8_copyFromf_26]
    rw [P_8_copyFromf_26] at hp
    refine b8_copyFromf_26  (fun h => ?_) (fun h => ?_)
    · rw [if_pos h]
      exact b8_copyFromf_55  rfl rfl
    · rw [if_neg h]
      have hp := hp.2 h
      obtain ⟨p0, hp⟩ := hp
      obtain ⟨hc, hp⟩ := hp
      refine b8_copyFromf_34 p0 (C_stCopy (1625 + 3 * x2.toNatClampNeg) (1778 + 3 * x2.toNatClampNeg) M hc) (Nat.le_of_ble_eq_true rfl) ?_
      exact T_8_copyFromf_49 (F_8_copyFromf_26 n) (P_8_copyFromf_26 n) ih x2 (stCopy (1625 + 3 * x2.toNatClampNeg) (1778 + 3 * x2.toNatClampNeg) M) hp
def F_8_copyFromf_11 (M : Mem) : Mem := F_8_copyFromf_26 FU 0 (wr M 1614 2 (if 16 < (rd M 1617 2) then 16 else (rd M 1617 2)))
def P_8_copyFromf_11 (M : Mem) : Prop := ((P_8_copyFromf_26 FU 0 (wr M 1614 2 (if 16 < (rd M 1617 2) then 16 else (rd M 1617 2)))))
theorem T_8_copyFromf_11 {g : Gl} (M : Mem) (hp : P_8_copyFromf_11 M) : Rn g 2 m8_copyFrom 11 [some (.ref 1614), some (.ref 1617), none] [] M (none) ((F_8_copyFromf_11 M)) := by
  rw [F_8_copyFromf_11]
  rw [P_8_copyFromf_11] at hp
  refine b8_copyFromf_11 (Nat.le_of_ble_eq_true rfl) ?_
  refine b8_copyFromf_21  ?_
  exact T_8_copyFromf_26 FU 0 (wr M 1614 2 (if 16 < (rd M 1617 2) then 16 else (rd M 1617 2))) hp
def F_8_copyFromf_0 (M : Mem) : Mem := F_8_copyFromf_11 (stCopy 1622 1775 M)
def P_8_copyFromf_0 (M : Mem) : Prop := ((isS 1622 ∧ isS 1775) ∧ (P_8_copyFromf_11 (stCopy 1622 1775 M)))
theorem T_8_copyFromf_0 {g : Gl} (M : Mem) (hp : P_8_copyFromf_0 M) : Rn g 2 m8_copyFrom 0 [some (.ref 1614), some (.ref 1617), none] [] M (none) ((F_8_copyFromf_0 M)) := by
  rw [F_8_copyFromf_0]
  rw [P_8_copyFromf_0] at hp
  obtain ⟨hc, hp⟩ := hp
  refine b8_copyFromf_0  (C_stCopy 1622 1775 M hc) (Nat.le_of_ble_eq_true rfl) ?_
  exact T_8_copyFromf_11 (stCopy 1622 1775 M) hp
theorem C_8_copyFromf {g : Gl}   (M : Mem) (hp : P_8_copyFromf_0 M) : Ms g 2 m8_copyFrom [.ref 1614, .ref 1617] M (none) ((F_8_copyFromf_0 M)) := Ms.of okM_m8_copyFrom (Nat.le_of_ble_eq_true rfl) (R_wk (lc rfl (lc rfl (ln l0))) (T_8_copyFromf_0 M hp))
def F_9_clear_0 (M : Mem) : Mem := wr M 1592 7 0
theorem T_9_clear_0 {g : Gl} (M : Mem)  : Rn g 0 m9_clear 0 [some (.ref 1592)] [] M (none) ((F_9_clear_0 M)) := by
  rw [F_9_clear_0]
  exact b9_clear_0  rfl rfl
theorem C_9_clear {g : Gl}   (M : Mem)  : Ms g 0 m9_clear [.ref 1592] M (none) ((F_9_clear_0 M)) := Ms.of okM_m9_clear (Nat.le_of_ble_eq_true rfl) (R_wk (lc rfl l0) (T_9_clear_0 M))
