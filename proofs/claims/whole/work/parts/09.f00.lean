/-! THE REFERENCE, as functions (F), with what they need (P), and that the machine does them (T, C) -/
def FU : Nat := 7000
theorem vpl {i : Int32} {n : Nat} (h : ¬ (i < 0 ∨ n ≤ i.toNatClampNeg)) : vp_in i n := h
theorem sw_out {x : Int32} {lo hi : Int} (h : ∀ z : Int, lo ≤ z → z ≤ hi → ¬ x.toInt = z) : x.toInt < lo ∨ hi < x.toInt := by
  rcases Int.lt_or_le x.toInt lo with q | q
  · exact Or.inl q
  · rcases Int.lt_or_le hi x.toInt with r | r
    · exact Or.inr r
    · exact absurd rfl (h x.toInt q r)

def F_12_tellsNothing_22  : Nat → Int32 → Mem → Mem
  | 0, _, M => M
  | n + 1, x1, M => if (10 : Int32) ≤ x1 then (M) else ((F_12_tellsNothing_22 n) (x1 + 1) (wr M 7 x1.toNatClampNeg 16))
def P_12_tellsNothing_22  : Nat → Int32 → Mem → Prop
  | 0, _, _ => False
  | n + 1, x1, M => (((10 : Int32) ≤ x1 → True) ∧ (¬ (10 : Int32) ≤ x1 → (vp_in x1 10) ∧ ((P_12_tellsNothing_22 n) (x1 + 1) (wr M 7 x1.toNatClampNeg 16))))
theorem T_12_tellsNothing_22 {g : Gl} : ∀ (n : Nat) (x1 : Int32) (M : Mem) (hp : P_12_tellsNothing_22 n x1 M), Rn g 0 m12_tellsNothing 22 [some (.ref 0), some (.int x1)] [] M (none) ((F_12_tellsNothing_22 n x1 M)) := by
  intro n
  induction n with
  | zero => intro x1 M hp; exact hp.elim
  | succ n ih =>
    intro x1 M hp
    rw [F_12_tellsNothing_22]
    rw [P_12_tellsNothing_22] at hp
    refine b12_tellsNothing_22  (fun h => ?_) (fun h => ?_)
    · rw [if_pos h]
      exact b12_tellsNothing_42  rfl rfl
    · rw [if_neg h]
      have hp := hp.2 h
      obtain ⟨p0, hp⟩ := hp
      refine b12_tellsNothing_28 p0 ?_
      exact ih (x1 + 1) (wr M 7 x1.toNatClampNeg 16) hp
def F_12_tellsNothing_2  : Nat → Int32 → Mem → Mem
  | 0, _, M => M
  | n + 1, x1, M => if (4 : Int32) ≤ x1 then (F_12_tellsNothing_22 FU 0 M) else ((F_12_tellsNothing_2 n) (x1 + 1) (wr M 3 x1.toNatClampNeg 0))
def P_12_tellsNothing_2  : Nat → Int32 → Mem → Prop
  | 0, _, _ => False
  | n + 1, x1, M => (((4 : Int32) ≤ x1 → (P_12_tellsNothing_22 FU 0 M)) ∧ (¬ (4 : Int32) ≤ x1 → (vp_in x1 4) ∧ ((P_12_tellsNothing_2 n) (x1 + 1) (wr M 3 x1.toNatClampNeg 0))))
theorem T_12_tellsNothing_2 {g : Gl} : ∀ (n : Nat) (x1 : Int32) (M : Mem) (hp : P_12_tellsNothing_2 n x1 M), Rn g 0 m12_tellsNothing 2 [some (.ref 0), some (.int x1)] [] M (none) ((F_12_tellsNothing_2 n x1 M)) := by
  intro n
  induction n with
  | zero => intro x1 M hp; exact hp.elim
  | succ n ih =>
    intro x1 M hp
    rw [F_12_tellsNothing_2]
    rw [P_12_tellsNothing_2] at hp
    refine b12_tellsNothing_2  (fun h => ?_) (fun h => ?_)
    · rw [if_pos h]
      have hp := hp.1 h
      refine b12_tellsNothing_20  ?_
      exact T_12_tellsNothing_22 FU 0 M hp
    · rw [if_neg h]
      have hp := hp.2 h
      obtain ⟨p0, hp⟩ := hp
      refine b12_tellsNothing_7 p0 ?_
      exact ih (x1 + 1) (wr M 3 x1.toNatClampNeg 0) hp
def F_12_tellsNothing_0 (M : Mem) : Mem := F_12_tellsNothing_2 FU 0 M
def P_12_tellsNothing_0 (M : Mem) : Prop := (P_12_tellsNothing_2 FU 0 M)
theorem T_12_tellsNothing_0 {g : Gl} (M : Mem) (hp : P_12_tellsNothing_0 M) : Rn g 0 m12_tellsNothing 0 [some (.ref 0), none] [] M (none) ((F_12_tellsNothing_0 M)) := by
  rw [F_12_tellsNothing_0]
  rw [P_12_tellsNothing_0] at hp
  refine b12_tellsNothing_0  ?_
  exact T_12_tellsNothing_2 FU 0 M hp
theorem C_12_tellsNothing {g : Gl}   (M : Mem) (hp : P_12_tellsNothing_0 M) : Ms g 0 m12_tellsNothing [.ref 0] M (none) ((F_12_tellsNothing_0 M)) := Ms.of okM_m12_tellsNothing (Nat.le_of_ble_eq_true rfl) (R_wk (lc rfl (ln l0)) (T_12_tellsNothing_0 M hp))
def F_12_thrown_0 (M : Mem) : Int32 := (rd M 0 0)
theorem T_12_thrown_0 {g : Gl} (M : Mem)  : Rn g 0 m12_thrown 0 [some (.ref 0)] [] M (some (.int (F_12_thrown_0 M))) (M) := by
  rw [F_12_thrown_0]
  exact b12_thrown_0  rfl rfl
theorem C_12_thrown {g : Gl}   (M : Mem)  : Ms g 0 m12_thrown [.ref 0] M (some (.int (F_12_thrown_0 M))) (M) := Ms.of okM_m12_thrown (Nat.le_of_ble_eq_true rfl) (R_wk (lc rfl l0) (T_12_thrown_0 M))
def F_12_bad_26 (M : Mem) : Int32 × Mem := if (rd M 0 0) = 0 then ((0, M)) else ((1, M))
theorem T_12_bad_26 {g : Gl} (M : Mem)  : Rn g 0 m12_bad 26 [some (.ref 0), none, none, none] [] M (some (.int (F_12_bad_26 M).1)) ((F_12_bad_26 M).2) := by
  rw [F_12_bad_26]
  refine b12_bad_26  (fun h => ?_) (fun h => ?_)
  · rw [if_pos h]
    refine b12_bad_37  ?_
    exact b12_bad_38  rfl rfl rfl
  · rw [if_neg h]
    refine b12_bad_33  ?_
    exact b12_bad_38  rfl rfl rfl
def F_12_bad_0 (x1 : Int32) (x2 : Int32) (x3 : Int32) (M : Mem) : Int32 × Mem := if x1 = 0 then (F_12_bad_26 M) else (if (rd M 0 0) = 0 then (F_12_bad_26 (wr (wr M 0 0 x2) 2 x3.toNatClampNeg ((rd (wr M 0 0 x2) 2 x3.toNatClampNeg) + 1))) else (F_12_bad_26 M))
def P_12_bad_0 (x1 : Int32) (x2 : Int32) (x3 : Int32) (M : Mem) : Prop := ((x1 = 0 → True) ∧ (¬ x1 = 0 → ((¬ (rd M 0 0) = 0 → True) ∧ ((rd M 0 0) = 0 → (vp_in x3 2)))))
theorem T_12_bad_0 {g : Gl} (x1 : Int32) (x2 : Int32) (x3 : Int32) (M : Mem) (hp : P_12_bad_0 x1 x2 x3 M) : Rn g 0 m12_bad 0 [some (.ref 0), some (.int x1), some (.int x2), some (.int x3)] [] M (some (.int (F_12_bad_0 x1 x2 x3 M).1)) ((F_12_bad_0 x1 x2 x3 M).2) := by
  rw [F_12_bad_0]
  rw [P_12_bad_0] at hp
  refine b12_bad_0  (fun h => ?_) (fun h => ?_)
  · rw [if_pos h]
    exact T_12_bad_26 M
  · rw [if_neg h]
    have hp := hp.2 h
    refine b12_bad_4  (fun h => ?_) (fun h => ?_)
    · rw [if_neg h]
      exact T_12_bad_26 M
    · rw [if_pos h]
      have hp := hp.2 h
      have p0 := hp
      refine b12_bad_11 p0 ?_
      exact T_12_bad_26 (wr (wr M 0 0 x2) 2 x3.toNatClampNeg ((rd (wr M 0 0 x2) 2 x3.toNatClampNeg) + 1))
theorem C_12_bad {g : Gl}  (x1 : Int32) (x2 : Int32) (x3 : Int32) (M : Mem) (hp : P_12_bad_0 x1 x2 x3 M) : Ms g 0 m12_bad [.ref 0, .int x1, .int x2, .int x3] M (some (.int (F_12_bad_0 x1 x2 x3 M).1)) ((F_12_bad_0 x1 x2 x3 M).2) := Ms.of okM_m12_bad (Nat.le_of_ble_eq_true rfl) (R_wk (lc rfl (lc rfl (lc rfl (lc rfl l0)))) (T_12_bad_0 x1 x2 x3 M hp))
def F_12_in_14 (M : Mem) : Int32 := 0
theorem T_12_in_14 {g : Gl} (M : Mem)  : Rn g 0 m12_in 14 [none, none, none] [] M (some (.int (F_12_in_14 M))) (M) := by
  rw [F_12_in_14]
  refine b12_in_14  ?_
  exact b12_in_15  rfl rfl rfl
def F_12_in_0 (M : Mem) (x0 : Int32) (x1 : Int32) (x2 : Int32) : Int32 := if x0 < x1 then (F_12_in_14 M) else (if x2 < x0 then (F_12_in_14 M) else (1))
theorem T_12_in_0 {g : Gl} (M : Mem) (x0 : Int32) (x1 : Int32) (x2 : Int32)  : Rn g 0 m12_in 0 [some (.int x0), some (.int x1), some (.int x2)] [] M (some (.int (F_12_in_0 M x0 x1 x2))) (M) := by
  rw [F_12_in_0]
  refine b12_in_0  (fun h => ?_) (fun h => ?_)
  · rw [if_pos h]
    exact T_12_in_14 _
  · rw [if_neg h]
    refine b12_in_5  (fun h => ?_) (fun h => ?_)
    · rw [if_pos h]
      exact T_12_in_14 _
    · rw [if_neg h]
      refine b12_in_10  ?_
      exact b12_in_15  rfl rfl rfl
theorem C_12_in {g : Gl}  (x0 : Int32) (x1 : Int32) (x2 : Int32) (M : Mem)  : Ms g 0 m12_in [.int x0, .int x1, .int x2] M (some (.int (F_12_in_0 M x0 x1 x2))) (M) := Ms.of okM_m12_in (Nat.le_of_ble_eq_true rfl) (R_wk (lc rfl (lc rfl (lc rfl l0))) (T_12_in_0 M x0 x1 x2))
def F_12_less_0 (M : Mem) (x0 : Int32) (x1 : Int32) : Int32 := if x1 ≤ x0 then (x1) else (x0)
theorem T_12_less_0 {g : Gl} (M : Mem) (x0 : Int32) (x1 : Int32)  : Rn g 0 m12_less 0 [some (.int x0), some (.int x1)] [] M (some (.int (F_12_less_0 M x0 x1))) (M) := by
  rw [F_12_less_0]
  refine b12_less_0  (fun h => ?_) (fun h => ?_)
  · rw [if_pos h]
    refine b12_less_9  ?_
    exact b12_less_10  rfl rfl
  · rw [if_neg h]
    refine b12_less_5  ?_
    exact b12_less_10  rfl rfl
theorem C_12_less {g : Gl}  (x0 : Int32) (x1 : Int32) (M : Mem)  : Ms g 0 m12_less [.int x0, .int x1] M (some (.int (F_12_less_0 M x0 x1))) (M) := Ms.of okM_m12_less (Nat.le_of_ble_eq_true rfl) (R_wk (lc rfl (lc rfl l0)) (T_12_less_0 M x0 x1))
def F_12_more_0 (M : Mem) (x0 : Int32) (x1 : Int32) : Int32 := if x0 ≤ x1 then (x1) else (x0)
theorem T_12_more_0 {g : Gl} (M : Mem) (x0 : Int32) (x1 : Int32)  : Rn g 0 m12_more 0 [some (.int x0), some (.int x1)] [] M (some (.int (F_12_more_0 M x0 x1))) (M) := by
  rw [F_12_more_0]
  refine b12_more_0  (fun h => ?_) (fun h => ?_)
  · rw [if_pos h]
    refine b12_more_9  ?_
    exact b12_more_10  rfl rfl
  · rw [if_neg h]
    refine b12_more_5  ?_
    exact b12_more_10  rfl rfl
theorem C_12_more {g : Gl}  (x0 : Int32) (x1 : Int32) (M : Mem)  : Ms g 0 m12_more [.int x0, .int x1] M (some (.int (F_12_more_0 M x0 x1))) (M) := Ms.of okM_m12_more (Nat.le_of_ble_eq_true rfl) (R_wk (lc rfl (lc rfl l0)) (T_12_more_0 M x0 x1))
def F_12_has_0 (M : Mem) (x0 : Int32) (x1 : Int32) : Int32 := if ((x0 >>> (x1 &&& 31)) &&& 1) = 1 then (1) else (0)
theorem T_12_has_0 {g : Gl} (M : Mem) (x0 : Int32) (x1 : Int32)  : Rn g 0 m12_has 0 [some (.int x0), some (.int x1)] [] M (some (.int (F_12_has_0 M x0 x1))) (M) := by
  rw [F_12_has_0]
  refine b12_has_0  (fun h => ?_) (fun h => ?_)
  · rw [if_neg h]
    refine b12_has_13  ?_
    exact b12_has_14  rfl rfl rfl
  · rw [if_pos h]
    refine b12_has_9  ?_
    exact b12_has_14  rfl rfl rfl
theorem C_12_has {g : Gl}  (x0 : Int32) (x1 : Int32) (M : Mem)  : Ms g 0 m12_has [.int x0, .int x1] M (some (.int (F_12_has_0 M x0 x1))) (M) := Ms.of okM_m12_has (Nat.le_of_ble_eq_true rfl) (R_wk (lc rfl (lc rfl l0)) (T_12_has_0 M x0 x1))
def F_12_feed_76 (k23 : Int32 → Int32 → Int32 → Int32 → Int32 → Int32 → Mem → Int32 × Mem) (x1 : Int32) (x2 : Int32) (x3 : Int32) (x4 : Int32) (x5 : Int32) (x6 : Int32) (xs0 : Int32) (M : Mem) : Int32 × Mem := k23 x1 x2 x3 x4 x5 (x6 + 1) (wr (wr M 1 ((rd M 0 1).toNatClampNeg) ((xs0 >>> ((24 - (8 * (x6 - x6 / 4 * 4))) &&& 31)) &&& 255)) 0 1 ((rd (wr M 1 ((rd M 0 1).toNatClampNeg) ((xs0 >>> ((24 - (8 * (x6 - x6 / 4 * 4))) &&& 31)) &&& 255)) 0 1) + 1))
def P_12_feed_76 (pk23 : Int32 → Int32 → Int32 → Int32 → Int32 → Int32 → Mem → Prop) (x1 : Int32) (x2 : Int32) (x3 : Int32) (x4 : Int32) (x5 : Int32) (x6 : Int32) (xs0 : Int32) (M : Mem) : Prop := (vp_in (rd M 0 1) 600) ∧ (pk23 x1 x2 x3 x4 x5 (x6 + 1) (wr (wr M 1 ((rd M 0 1).toNatClampNeg) ((xs0 >>> ((24 - (8 * (x6 - x6 / 4 * 4))) &&& 31)) &&& 255)) 0 1 ((rd (wr M 1 ((rd M 0 1).toNatClampNeg) ((xs0 >>> ((24 - (8 * (x6 - x6 / 4 * 4))) &&& 31)) &&& 255)) 0 1) + 1)))
theorem T_12_feed_76 {g : Gl} (k23 : Int32 → Int32 → Int32 → Int32 → Int32 → Int32 → Mem → Int32 × Mem) (pk23 : Int32 → Int32 → Int32 → Int32 → Int32 → Int32 → Mem → Prop) (ih23 : ∀ (x1 : Int32) (x2 : Int32) (x3 : Int32) (x4 : Int32) (x5 : Int32) (x6 : Int32) (M : Mem), pk23 x1 x2 x3 x4 x5 x6 M → Rn g 0 m12_feed 23 [some (.ref 0), some (.int x1), some (.int x2), some (.int x3), some (.int x4), some (.int x5), some (.int x6), none] [] M (some (.int (k23 x1 x2 x3 x4 x5 x6 M).1)) ((k23 x1 x2 x3 x4 x5 x6 M).2)) (x1 : Int32) (x2 : Int32) (x3 : Int32) (x4 : Int32) (x5 : Int32) (x6 : Int32) (xs0 : Int32) (M : Mem) (hp : P_12_feed_76 pk23 x1 x2 x3 x4 x5 x6 xs0 M) : Rn g 0 m12_feed 76 [some (.ref 0), some (.int x1), some (.int x2), some (.int x3), some (.int x4), some (.int x5), some (.int x6), none] [.int xs0] M (some (.int (F_12_feed_76 k23 x1 x2 x3 x4 x5 x6 xs0 M).1)) ((F_12_feed_76 k23 x1 x2 x3 x4 x5 x6 xs0 M).2) := by
  rw [F_12_feed_76]
  rw [P_12_feed_76] at hp
  obtain ⟨p0, hp⟩ := hp
  refine b12_feed_76 (by decide) p0 ?_
  exact ih23 x1 x2 x3 x4 x5 (x6 + 1) (wr (wr M 1 ((rd M 0 1).toNatClampNeg) ((xs0 >>> ((24 - (8 * (x6 - x6 / 4 * 4))) &&& 31)) &&& 255)) 0 1 ((rd (wr M 1 ((rd M 0 1).toNatClampNeg) ((xs0 >>> ((24 - (8 * (x6 - x6 / 4 * 4))) &&& 31)) &&& 255)) 0 1) + 1)) hp
def F_12_feed_23  : Nat → Int32 → Int32 → Int32 → Int32 → Int32 → Int32 → Mem → Int32 × Mem
  | 0, _, _, _, _, _, _, M => (0, M)
  | n + 1, x1, x2, x3, x4, x5, x6, M => if (20 : Int32) ≤ x6 then ((rd M 0 1, M)) else (if (4 : Int32) ≤ x6 then (if (8 : Int32) ≤ x6 then (if (12 : Int32) ≤ x6 then (if (16 : Int32) ≤ x6 then (F_12_feed_76 (F_12_feed_23 n) x1 x2 x3 x4 x5 x6 x5 M) else (F_12_feed_76 (F_12_feed_23 n) x1 x2 x3 x4 x5 x6 x4 M)) else (F_12_feed_76 (F_12_feed_23 n) x1 x2 x3 x4 x5 x6 x3 M)) else (F_12_feed_76 (F_12_feed_23 n) x1 x2 x3 x4 x5 x6 x2 M)) else (F_12_feed_76 (F_12_feed_23 n) x1 x2 x3 x4 x5 x6 x1 M))
def P_12_feed_23  : Nat → Int32 → Int32 → Int32 → Int32 → Int32 → Int32 → Mem → Prop
  | 0, _, _, _, _, _, _, _ => False
  | n + 1, x1, x2, x3, x4, x5, x6, M => (((20 : Int32) ≤ x6 → True) ∧ (¬ (20 : Int32) ≤ x6 → (((4 : Int32) ≤ x6 → (((8 : Int32) ≤ x6 → (((12 : Int32) ≤ x6 → (((16 : Int32) ≤ x6 → (P_12_feed_76 (P_12_feed_23 n) x1 x2 x3 x4 x5 x6 x5 M)) ∧ (¬ (16 : Int32) ≤ x6 → (P_12_feed_76 (P_12_feed_23 n) x1 x2 x3 x4 x5 x6 x4 M)))) ∧ (¬ (12 : Int32) ≤ x6 → (P_12_feed_76 (P_12_feed_23 n) x1 x2 x3 x4 x5 x6 x3 M)))) ∧ (¬ (8 : Int32) ≤ x6 → (P_12_feed_76 (P_12_feed_23 n) x1 x2 x3 x4 x5 x6 x2 M)))) ∧ (¬ (4 : Int32) ≤ x6 → (P_12_feed_76 (P_12_feed_23 n) x1 x2 x3 x4 x5 x6 x1 M)))))
theorem T_12_feed_23 {g : Gl} : ∀ (n : Nat) (x1 : Int32) (x2 : Int32) (x3 : Int32) (x4 : Int32) (x5 : Int32) (x6 : Int32) (M : Mem) (hp : P_12_feed_23 n x1 x2 x3 x4 x5 x6 M), Rn g 0 m12_feed 23 [some (.ref 0), some (.int x1), some (.int x2), some (.int x3), some (.int x4), some (.int x5), some (.int x6), none] [] M (some (.int (F_12_feed_23 n x1 x2 x3 x4 x5 x6 M).1)) ((F_12_feed_23 n x1 x2 x3 x4 x5 x6 M).2) := by
  intro n
  induction n with
  | zero => intro x1 x2 x3 x4 x5 x6 M hp; exact hp.elim
  | succ n ih =>
    intro x1 x2 x3 x4 x5 x6 M hp
    rw [F_12_feed_23]
    rw [P_12_feed_23] at hp
    refine b12_feed_23  (fun h => ?_) (fun h => ?_)
    · rw [if_pos h]
      exact b12_feed_120  rfl rfl
    · rw [if_neg h]
      have hp := hp.2 h
      refine b12_feed_30  (fun h => ?_) (fun h => ?_)
      · rw [if_pos h]
        have hp := hp.1 h
        refine b12_feed_40  (fun h => ?_) (fun h => ?_)
        · rw [if_pos h]
          have hp := hp.1 h
          refine b12_feed_51  (fun h => ?_) (fun h => ?_)
          · rw [if_pos h]
            have hp := hp.1 h
            refine b12_feed_62  (fun h => ?_) (fun h => ?_)
            · rw [if_pos h]
              have hp := hp.1 h
              refine b12_feed_74  ?_
              exact T_12_feed_76 (F_12_feed_23 n) (P_12_feed_23 n) ih x1 x2 x3 x4 x5 x6 x5 M hp
            · rw [if_neg h]
              have hp := hp.2 h
              refine b12_feed_69  ?_
              exact T_12_feed_76 (F_12_feed_23 n) (P_12_feed_23 n) ih x1 x2 x3 x4 x5 x6 x4 M hp
          · rw [if_neg h]
            have hp := hp.2 h
            refine b12_feed_58  ?_
            exact T_12_feed_76 (F_12_feed_23 n) (P_12_feed_23 n) ih x1 x2 x3 x4 x5 x6 x3 M hp
        · rw [if_neg h]
          have hp := hp.2 h
          refine b12_feed_47  ?_
          exact T_12_feed_76 (F_12_feed_23 n) (P_12_feed_23 n) ih x1 x2 x3 x4 x5 x6 x2 M hp
      · rw [if_neg h]
        have hp := hp.2 h
        refine b12_feed_36  ?_
        exact T_12_feed_76 (F_12_feed_23 n) (P_12_feed_23 n) ih x1 x2 x3 x4 x5 x6 x1 M hp
def F_12_feed_0 (x1 : Int32) (x2 : Int32) (x3 : Int32) (x4 : Int32) (x5 : Int32) (M : Mem) : Int32 × Mem := if ((rd (wr M 0 0 0) 0 1) + 20) ≤ 600 then (F_12_feed_23 FU x1 x2 x3 x4 x5 0 (wr M 0 0 0)) else (((-1), (wr M 0 0 0)))
def P_12_feed_0 (x1 : Int32) (x2 : Int32) (x3 : Int32) (x4 : Int32) (x5 : Int32) (M : Mem) : Prop := ((((rd (wr M 0 0 0) 0 1) + 20) ≤ 600 → (P_12_feed_23 FU x1 x2 x3 x4 x5 0 (wr M 0 0 0))) ∧ (¬ ((rd (wr M 0 0 0) 0 1) + 20) ≤ 600 → True))
theorem T_12_feed_0 {g : Gl} (x1 : Int32) (x2 : Int32) (x3 : Int32) (x4 : Int32) (x5 : Int32) (M : Mem) (hp : P_12_feed_0 x1 x2 x3 x4 x5 M) : Rn g 0 m12_feed 0 [some (.ref 0), some (.int x1), some (.int x2), some (.int x3), some (.int x4), some (.int x5), none, none] [] M (some (.int (F_12_feed_0 x1 x2 x3 x4 x5 M).1)) ((F_12_feed_0 x1 x2 x3 x4 x5 M).2) := by
  rw [F_12_feed_0]
  rw [P_12_feed_0] at hp
  refine b12_feed_0  (fun h => ?_) (fun h => ?_)
  · rw [if_pos h]
    have hp := hp.1 h
    refine b12_feed_20  ?_
    exact T_12_feed_23 FU x1 x2 x3 x4 x5 0 (wr M 0 0 0) hp
  · rw [if_neg h]
    exact b12_feed_18  rfl rfl
theorem C_12_feed {g : Gl}  (x1 : Int32) (x2 : Int32) (x3 : Int32) (x4 : Int32) (x5 : Int32) (M : Mem) (hp : P_12_feed_0 x1 x2 x3 x4 x5 M) : Ms g 0 m12_feed [.ref 0, .int x1, .int x2, .int x3, .int x4, .int x5] M (some (.int (F_12_feed_0 x1 x2 x3 x4 x5 M).1)) ((F_12_feed_0 x1 x2 x3 x4 x5 M).2) := Ms.of okM_m12_feed (Nat.le_of_ble_eq_true rfl) (R_wk (lc rfl (lc rfl (lc rfl (lc rfl (lc rfl (lc rfl (ln (ln l0)))))))) (T_12_feed_0 x1 x2 x3 x4 x5 M hp))
def F_12_byteAt_0 (M : Mem) (x1 : Int32) : Int32 := if x1 < (rd M 0 2) then ((rd M 1 x1.toNatClampNeg)) else ((-1))
def P_12_byteAt_0 (M : Mem) (x1 : Int32) : Prop := ((x1 < (rd M 0 2) → (vp_in x1 600)) ∧ (¬ x1 < (rd M 0 2) → True))
theorem T_12_byteAt_0 {g : Gl} (M : Mem) (x1 : Int32) (hp : P_12_byteAt_0 M x1) : Rn g 0 m12_byteAt 0 [some (.ref 0), some (.int x1)] [] M (some (.int (F_12_byteAt_0 M x1))) (M) := by
  rw [F_12_byteAt_0]
  rw [P_12_byteAt_0] at hp
  refine b12_byteAt_0  (fun h => ?_) (fun h => ?_)
  · rw [if_pos h]
    have hp := hp.1 h
    have p0 := hp
    refine b12_byteAt_12 p0 ?_
    exact b12_byteAt_18  rfl rfl
  · rw [if_neg h]
    refine b12_byteAt_8  ?_
    exact b12_byteAt_18  rfl rfl
theorem C_12_byteAt {g : Gl}  (x1 : Int32) (M : Mem) (hp : P_12_byteAt_0 M x1) : Ms g 0 m12_byteAt [.ref 0, .int x1] M (some (.int (F_12_byteAt_0 M x1))) (M) := Ms.of okM_m12_byteAt (Nat.le_of_ble_eq_true rfl) (R_wk (lc rfl (lc rfl l0)) (T_12_byteAt_0 M x1 hp))
def F_12_blanks_0  : Nat → Mem → Mem
  | 0, M => M
  | n + 1, M => if (F_12_byteAt_0 M (rd M 0 4)) = 32 then ((F_12_blanks_0 n) (wr M 0 4 ((rd M 0 4) + 1))) else (M)
def P_12_blanks_0  : Nat → Mem → Prop
  | 0, _ => False
  | n + 1, M => ((P_12_byteAt_0 M (rd M 0 4)) ∧ (((¬ (F_12_byteAt_0 M (rd M 0 4)) = 32 → True) ∧ ((F_12_byteAt_0 M (rd M 0 4)) = 32 → ((P_12_blanks_0 n) (wr M 0 4 ((rd M 0 4) + 1)))))))
theorem T_12_blanks_0 {g : Gl} : ∀ (n : Nat)  (M : Mem) (hp : P_12_blanks_0 n M), Rn g 1 m12_blanks 0 [some (.ref 0)] [] M (none) ((F_12_blanks_0 n M)) := by
  intro n
  induction n with
  | zero => intro M hp; exact hp.elim
  | succ n ih =>
    intro M hp
    rw [F_12_blanks_0]
    rw [P_12_blanks_0] at hp
    obtain ⟨hc, hp⟩ := hp
    refine b12_blanks_0  (C_12_byteAt (rd M 0 4) M hc) (Nat.le_of_ble_eq_true rfl) ?_
    refine b12_blanks_8  (fun h => ?_) (fun h => ?_)
    · rw [if_neg h]
      exact b12_blanks_26  rfl rfl
    · rw [if_pos h]
      have hp := hp.2 h
      refine b12_blanks_13  ?_
      exact ih (wr M 0 4 ((rd M 0 4) + 1)) hp
theorem C_12_blanks {g : Gl}   (M : Mem) (hp : P_12_blanks_0 FU M) : Ms g 1 m12_blanks [.ref 0] M (none) ((F_12_blanks_0 FU M)) := Ms.of okM_m12_blanks (Nat.le_of_ble_eq_true rfl) (R_wk (lc rfl l0) (T_12_blanks_0 FU M hp))
def F_12_wrong_0 (x1 : Int32) (x2 : Int32) (M : Mem) : Mem := if (rd M 0 5) = 0 then ((wr (wr M 0 5 x1) 0 6 x2)) else (M)
theorem T_12_wrong_0 {g : Gl} (x1 : Int32) (x2 : Int32) (M : Mem)  : Rn g 0 m12_wrong 0 [some (.ref 0), some (.int x1), some (.int x2)] [] M (none) ((F_12_wrong_0 x1 x2 M)) := by
  rw [F_12_wrong_0]
  refine b12_wrong_0  (fun h => ?_) (fun h => ?_)
  · rw [if_neg h]
    exact b12_wrong_17  rfl rfl
  · rw [if_pos h]
    refine b12_wrong_7  ?_
    exact b12_wrong_17  rfl rfl
theorem C_12_wrong {g : Gl}  (x1 : Int32) (x2 : Int32) (M : Mem)  : Ms g 0 m12_wrong [.ref 0, .int x1, .int x2] M (none) ((F_12_wrong_0 x1 x2 M)) := Ms.of okM_m12_wrong (Nat.le_of_ble_eq_true rfl) (R_wk (lc rfl (lc rfl (lc rfl l0))) (T_12_wrong_0 x1 x2 M))
def F_12_isDigit_16 (M : Mem) : Int32 := 0
theorem T_12_isDigit_16 {g : Gl} (M : Mem)  : Rn g 0 m12_isDigit 16 [none] [] M (some (.int (F_12_isDigit_16 M))) (M) := by
  rw [F_12_isDigit_16]
  refine b12_isDigit_16  ?_
  exact b12_isDigit_17  rfl rfl rfl
def F_12_isDigit_0 (M : Mem) (x0 : Int32) : Int32 := if x0 < 48 then (F_12_isDigit_16 M) else (if (57 : Int32) < x0 then (F_12_isDigit_16 M) else (1))
theorem T_12_isDigit_0 {g : Gl} (M : Mem) (x0 : Int32)  : Rn g 0 m12_isDigit 0 [some (.int x0)] [] M (some (.int (F_12_isDigit_0 M x0))) (M) := by
  rw [F_12_isDigit_0]
  refine b12_isDigit_0  (fun h => ?_) (fun h => ?_)
  · rw [if_pos h]
    exact T_12_isDigit_16 _
  · rw [if_neg h]
    refine b12_isDigit_6  (fun h => ?_) (fun h => ?_)
    · rw [if_pos h]
      exact T_12_isDigit_16 _
    · rw [if_neg h]
      refine b12_isDigit_12  ?_
      exact b12_isDigit_17  rfl rfl rfl
theorem C_12_isDigit {g : Gl}  (x0 : Int32) (M : Mem)  : Ms g 0 m12_isDigit [.int x0] M (some (.int (F_12_isDigit_0 M x0))) (M) := Ms.of okM_m12_isDigit (Nat.le_of_ble_eq_true rfl) (R_wk (lc rfl l0) (T_12_isDigit_0 M x0))
def F_12_isSmall_16 (M : Mem) : Int32 := 0
theorem T_12_isSmall_16 {g : Gl} (M : Mem)  : Rn g 0 m12_isSmall 16 [none] [] M (some (.int (F_12_isSmall_16 M))) (M) := by
  rw [F_12_isSmall_16]
  refine b12_isSmall_16  ?_
  exact b12_isSmall_17  rfl rfl rfl
def F_12_isSmall_0 (M : Mem) (x0 : Int32) : Int32 := if x0 < 97 then (F_12_isSmall_16 M) else (if (122 : Int32) < x0 then (F_12_isSmall_16 M) else (1))
theorem T_12_isSmall_0 {g : Gl} (M : Mem) (x0 : Int32)  : Rn g 0 m12_isSmall 0 [some (.int x0)] [] M (some (.int (F_12_isSmall_0 M x0))) (M) := by
  rw [F_12_isSmall_0]
  refine b12_isSmall_0  (fun h => ?_) (fun h => ?_)
  · rw [if_pos h]
    exact T_12_isSmall_16 _
  · rw [if_neg h]
    refine b12_isSmall_6  (fun h => ?_) (fun h => ?_)
    · rw [if_pos h]
      exact T_12_isSmall_16 _
    · rw [if_neg h]
      refine b12_isSmall_12  ?_
      exact b12_isSmall_17  rfl rfl rfl
theorem C_12_isSmall {g : Gl}  (x0 : Int32) (M : Mem)  : Ms g 0 m12_isSmall [.int x0] M (some (.int (F_12_isSmall_0 M x0))) (M) := Ms.of okM_m12_isSmall (Nat.le_of_ble_eq_true rfl) (R_wk (lc rfl l0) (T_12_isSmall_0 M x0))
def F_12_number_91 (k44 : Int32 → Int32 → Int32 → Int32 → Mem → Int32 × Mem) (x1 : Int32) (x2 : Int32) (x3 : Int32) (xs0 : Int32) (M : Mem) : Int32 × Mem := k44 x1 x2 x3 xs0 (wr M 0 4 ((rd M 0 4) + 1))
def P_12_number_91 (pk44 : Int32 → Int32 → Int32 → Int32 → Mem → Prop) (x1 : Int32) (x2 : Int32) (x3 : Int32) (xs0 : Int32) (M : Mem) : Prop := (pk44 x1 x2 x3 xs0 (wr M 0 4 ((rd M 0 4) + 1)))
theorem T_12_number_91 {g : Gl} (k44 : Int32 → Int32 → Int32 → Int32 → Mem → Int32 × Mem) (pk44 : Int32 → Int32 → Int32 → Int32 → Mem → Prop) (ih44 : ∀ (x1 : Int32) (x2 : Int32) (x3 : Int32) (x4 : Int32) (M : Mem), pk44 x1 x2 x3 x4 M → Rn g 2 m12_number 44 [some (.ref 0), some (.int x1), some (.int x2), some (.int x3), some (.int x4)] [] M (some (.int (k44 x1 x2 x3 x4 M).1)) ((k44 x1 x2 x3 x4 M).2)) (x1 : Int32) (x2 : Int32) (x3 : Int32) (xs0 : Int32) (M : Mem) (hp : P_12_number_91 pk44 x1 x2 x3 xs0 M) : Rn g 2 m12_number 91 [some (.ref 0), some (.int x1), some (.int x2), some (.int x3), none] [.int xs0] M (some (.int (F_12_number_91 k44 x1 x2 x3 xs0 M).1)) ((F_12_number_91 k44 x1 x2 x3 xs0 M).2) := by
  rw [F_12_number_91]
  rw [P_12_number_91] at hp
  refine b12_number_91  ?_
  exact ih44 x1 x2 x3 xs0 (wr M 0 4 ((rd M 0 4) + 1)) hp
def F_12_number_122 (x4 : Int32) (M : Mem) : Int32 × Mem := if (rd M 0 5) = 0 then ((x4, M)) else ((0, M))
theorem T_12_number_122 {g : Gl} (x4 : Int32) (M : Mem)  : Rn g 2 m12_number 122 [some (.ref 0), none, none, none, some (.int x4)] [] M (some (.int (F_12_number_122 x4 M).1)) ((F_12_number_122 x4 M).2) := by
  rw [F_12_number_122]
  refine b12_number_122  (fun h => ?_) (fun h => ?_)
  · rw [if_neg h]
    refine b12_number_134  ?_
    exact b12_number_135  rfl rfl
  · rw [if_pos h]
    refine b12_number_129  ?_
    exact b12_number_135  rfl rfl
def F_12_number_44  : Nat → Int32 → Int32 → Int32 → Int32 → Mem → Int32 × Mem
  | 0, _, _, _, _, M => (0, M)
  | n + 1, x1, x2, x3, x4, M => if (F_12_isDigit_0 M (F_12_byteAt_0 M (rd M 0 4))) = 0 then (if (F_12_in_0 M x4 x1 x2) = 0 then (F_12_number_122 x4 (F_12_wrong_0 2 x3 M)) else (F_12_number_122 x4 M)) else (if (((10 * x4) + (F_12_byteAt_0 M (rd M 0 4))) - 48) ≤ 100000 then (F_12_number_91 (F_12_number_44 n) x1 x2 x3 (((10 * x4) + (F_12_byteAt_0 M (rd M 0 4))) - 48) M) else (F_12_number_91 (F_12_number_44 n) x1 x2 x3 100000 M))
def P_12_number_44  : Nat → Int32 → Int32 → Int32 → Int32 → Mem → Prop
  | 0, _, _, _, _, _ => False
  | n + 1, x1, x2, x3, x4, M => ((P_12_byteAt_0 M (rd M 0 4)) ∧ ((((((F_12_isDigit_0 M (F_12_byteAt_0 M (rd M 0 4))) = 0 → True) ∧ (¬ (F_12_isDigit_0 M (F_12_byteAt_0 M (rd M 0 4))) = 0 → ((P_12_byteAt_0 M (rd M 0 4)) ∧ ((((((10 * x4) + (F_12_byteAt_0 M (rd M 0 4))) - 48) ≤ 100000 → (P_12_number_91 (P_12_number_44 n) x1 x2 x3 (((10 * x4) + (F_12_byteAt_0 M (rd M 0 4))) - 48) M)) ∧ (¬ (((10 * x4) + (F_12_byteAt_0 M (rd M 0 4))) - 48) ≤ 100000 → (P_12_number_91 (P_12_number_44 n) x1 x2 x3 100000 M)))))))))))
theorem T_12_number_44 {g : Gl} : ∀ (n : Nat) (x1 : Int32) (x2 : Int32) (x3 : Int32) (x4 : Int32) (M : Mem) (hp : P_12_number_44 n x1 x2 x3 x4 M), Rn g 2 m12_number 44 [some (.ref 0), some (.int x1), some (.int x2), some (.int x3), some (.int x4)] [] M (some (.int (F_12_number_44 n x1 x2 x3 x4 M).1)) ((F_12_number_44 n x1 x2 x3 x4 M).2) := by
  intro n
  induction n with
  | zero => intro x1 x2 x3 x4 M hp; exact hp.elim
  | succ n ih =>
    intro x1 x2 x3 x4 M hp
    rw [F_12_number_44]
    rw [P_12_number_44] at hp
    obtain ⟨hc, hp⟩ := hp
    refine b12_number_44  (C_12_byteAt (rd M 0 4) M hc) (Nat.le_of_ble_eq_true rfl) ?_
    refine b12_number_52  (C_12_isDigit (F_12_byteAt_0 M (rd M 0 4)) M) (Nat.le_of_ble_eq_true rfl) ?_
    refine b12_number_55  (fun h => ?_) (fun h => ?_)
    · rw [if_pos h]
      refine b12_number_106  (C_12_in x4 x1 x2 M) (Nat.le_of_ble_eq_true rfl) ?_
      refine b12_number_113  (fun h => ?_) (fun h => ?_)
      · rw [if_neg h]
        exact T_12_number_122 x4 M
      · rw [if_pos h]
        refine b12_number_116  (C_12_wrong 2 x3 M) (Nat.le_of_ble_eq_true rfl) ?_
        exact T_12_number_122 x4 (F_12_wrong_0 2 x3 M)
    · rw [if_neg h]
      have hp := hp.2 h
      obtain ⟨hc, hp⟩ := hp
      refine b12_number_58  (C_12_byteAt (rd M 0 4) M hc) (Nat.le_of_ble_eq_true rfl) ?_
      refine b12_number_71  (fun h => ?_) (fun h => ?_)
      · rw [if_pos h]
        have hp := hp.1 h
        refine b12_number_89  ?_
        exact T_12_number_91 (F_12_number_44 n) (P_12_number_44 n) ih x1 x2 x3 (((10 * x4) + (F_12_byteAt_0 M (rd M 0 4))) - 48) M hp
      · rw [if_neg h]
        have hp := hp.2 h
        refine b12_number_84  ?_
        exact T_12_number_91 (F_12_number_44 n) (P_12_number_44 n) ih x1 x2 x3 100000 M hp
def F_12_number_13 (x1 : Int32) (x2 : Int32) (M : Mem) : Int32 × Mem := if (F_12_isDigit_0 M (F_12_byteAt_0 M (rd M 0 4))) = 0 then (F_12_number_44 FU x1 x2 (rd M 0 4) 0 (F_12_wrong_0 1 (rd M 0 4) M)) else (F_12_number_44 FU x1 x2 (rd M 0 4) 0 M)
def P_12_number_13 (x1 : Int32) (x2 : Int32) (M : Mem) : Prop := ((P_12_byteAt_0 M (rd M 0 4)) ∧ (((((¬ (F_12_isDigit_0 M (F_12_byteAt_0 M (rd M 0 4))) = 0 → P_12_number_44 FU x1 x2 (rd M 0 4) 0 M) ∧ ((F_12_isDigit_0 M (F_12_byteAt_0 M (rd M 0 4))) = 0 → ((P_12_number_44 FU x1 x2 (rd M 0 4) 0 (F_12_wrong_0 1 (rd M 0 4) M)))))))))
theorem T_12_number_13 {g : Gl} (x1 : Int32) (x2 : Int32) (M : Mem) (hp : P_12_number_13 x1 x2 M) : Rn g 2 m12_number 13 [some (.ref 0), some (.int x1), some (.int x2), none, none] [] M (some (.int (F_12_number_13 x1 x2 M).1)) ((F_12_number_13 x1 x2 M).2) := by
  rw [F_12_number_13]
  rw [P_12_number_13] at hp
  obtain ⟨hc, hp⟩ := hp
  refine b12_number_13  (C_12_byteAt (rd M 0 4) M hc) (Nat.le_of_ble_eq_true rfl) ?_
  refine b12_number_29  (C_12_isDigit (F_12_byteAt_0 M (rd M 0 4)) M) (Nat.le_of_ble_eq_true rfl) ?_
  refine b12_number_32  (fun h => ?_) (fun h => ?_)
  · rw [if_neg h]
    have hp := hp.1 h
    exact T_12_number_44 FU x1 x2 (rd M 0 4) 0 M hp
  · rw [if_pos h]
    have hp := hp.2 h
    refine b12_number_35  (C_12_wrong 1 (rd M 0 4) M) (Nat.le_of_ble_eq_true rfl) ?_
    exact T_12_number_44 FU x1 x2 (rd M 0 4) 0 (F_12_wrong_0 1 (rd M 0 4) M) hp
def F_12_number_0 (x1 : Int32) (x2 : Int32) (M : Mem) : Int32 × Mem := if (rd M 0 5) = 0 then (F_12_number_13 x1 x2 (F_12_blanks_0 FU M)) else ((0, M))
def P_12_number_0 (x1 : Int32) (x2 : Int32) (M : Mem) : Prop := (((rd M 0 5) = 0 → ((P_12_blanks_0 FU M) ∧ (P_12_number_13 x1 x2 (F_12_blanks_0 FU M)))) ∧ (¬ (rd M 0 5) = 0 → True))
theorem T_12_number_0 {g : Gl} (x1 : Int32) (x2 : Int32) (M : Mem) (hp : P_12_number_0 x1 x2 M) : Rn g 2 m12_number 0 [some (.ref 0), some (.int x1), some (.int x2), none, none] [] M (some (.int (F_12_number_0 x1 x2 M).1)) ((F_12_number_0 x1 x2 M).2) := by
  rw [F_12_number_0]
  rw [P_12_number_0] at hp
  refine b12_number_0  (fun h => ?_) (fun h => ?_)
  · rw [if_pos h]
    have hp := hp.1 h
    obtain ⟨hc, hp⟩ := hp
    refine b12_number_9  (C_12_blanks  M hc) (Nat.le_of_ble_eq_true rfl) ?_
    exact T_12_number_13 x1 x2 (F_12_blanks_0 FU M) hp
  · rw [if_neg h]
    exact b12_number_7  rfl rfl
theorem C_12_number {g : Gl}  (x1 : Int32) (x2 : Int32) (M : Mem) (hp : P_12_number_0 x1 x2 M) : Ms g 2 m12_number [.ref 0, .int x1, .int x2] M (some (.int (F_12_number_0 x1 x2 M).1)) ((F_12_number_0 x1 x2 M).2) := Ms.of okM_m12_number (Nat.le_of_ble_eq_true rfl) (R_wk (lc rfl (lc rfl (lc rfl (ln (ln l0))))) (T_12_number_0 x1 x2 M hp))
def F_12_wordHere_54 (k8 : Int32 → Int32 → Mem → Int32 × Mem) (x2 : Int32) (xs0 : Int32) (M : Mem) : Int32 × Mem := k8 xs0 (x2 + 1) M
def P_12_wordHere_54 (pk8 : Int32 → Int32 → Mem → Prop) (x2 : Int32) (xs0 : Int32) (M : Mem) : Prop := (pk8 xs0 (x2 + 1) M)
theorem T_12_wordHere_54 {g : Gl} (k8 : Int32 → Int32 → Mem → Int32 × Mem) (pk8 : Int32 → Int32 → Mem → Prop) (ih8 : ∀ (x1 : Int32) (x2 : Int32) (M : Mem), pk8 x1 x2 M → Rn g 2 m12_wordHere 8 [some (.ref 0), some (.int x1), some (.int x2)] [] M (some (.int (k8 x1 x2 M).1)) ((k8 x1 x2 M).2)) (x2 : Int32) (xs0 : Int32) (M : Mem) (hp : P_12_wordHere_54 pk8 x2 xs0 M) : Rn g 2 m12_wordHere 54 [some (.ref 0), none, some (.int x2)] [.int xs0] M (some (.int (F_12_wordHere_54 k8 x2 xs0 M).1)) ((F_12_wordHere_54 k8 x2 xs0 M).2) := by
  rw [F_12_wordHere_54]
  rw [P_12_wordHere_54] at hp
  refine b12_wordHere_54  ?_
  exact ih8 xs0 (x2 + 1) M hp
def F_12_wordHere_8  : Nat → Int32 → Int32 → Mem → Int32 × Mem
  | 0, _, _, M => (0, M)
  | n + 1, x1, x2, M => if (F_12_isSmall_0 M (F_12_byteAt_0 M ((rd M 0 4) + x2))) = 0 then (if x2 ≤ 6 then ((x1, M)) else (((-1), M))) else (if (6 : Int32) ≤ x2 then (F_12_wordHere_54 (F_12_wordHere_8 n) x2 x1 M) else (F_12_wordHere_54 (F_12_wordHere_8 n) x2 ((((27 * x1) + (F_12_byteAt_0 M ((rd M 0 4) + x2))) - 97) + 1) M))
def P_12_wordHere_8  : Nat → Int32 → Int32 → Mem → Prop
  | 0, _, _, _ => False
  | n + 1, x1, x2, M => ((P_12_byteAt_0 M ((rd M 0 4) + x2)) ∧ ((((((F_12_isSmall_0 M (F_12_byteAt_0 M ((rd M 0 4) + x2))) = 0 → True) ∧ (¬ (F_12_isSmall_0 M (F_12_byteAt_0 M ((rd M 0 4) + x2))) = 0 → (((6 : Int32) ≤ x2 → (P_12_wordHere_54 (P_12_wordHere_8 n) x2 x1 M)) ∧ (¬ (6 : Int32) ≤ x2 → ((P_12_byteAt_0 M ((rd M 0 4) + x2)) ∧ ((P_12_wordHere_54 (P_12_wordHere_8 n) x2 ((((27 * x1) + (F_12_byteAt_0 M ((rd M 0 4) + x2))) - 97) + 1) M)))))))))))
theorem T_12_wordHere_8 {g : Gl} : ∀ (n : Nat) (x1 : Int32) (x2 : Int32) (M : Mem) (hp : P_12_wordHere_8 n x1 x2 M), Rn g 2 m12_wordHere 8 [some (.ref 0), some (.int x1), some (.int x2)] [] M (some (.int (F_12_wordHere_8 n x1 x2 M).1)) ((F_12_wordHere_8 n x1 x2 M).2) := by
  intro n
  induction n with
  | zero => intro x1 x2 M hp; exact hp.elim
  | succ n ih =>
    intro x1 x2 M hp
    rw [F_12_wordHere_8]
    rw [P_12_wordHere_8] at hp
    obtain ⟨hc, hp⟩ := hp
    refine b12_wordHere_8  (C_12_byteAt ((rd M 0 4) + x2) M hc) (Nat.le_of_ble_eq_true rfl) ?_
    refine b12_wordHere_18  (C_12_isSmall (F_12_byteAt_0 M ((rd M 0 4) + x2)) M) (Nat.le_of_ble_eq_true rfl) ?_
    refine b12_wordHere_21  (fun h => ?_) (fun h => ?_)
    · rw [if_pos h]
      refine b12_wordHere_61  (fun h => ?_) (fun h => ?_)
      · rw [if_pos h]
        refine b12_wordHere_71  ?_
        exact b12_wordHere_72  rfl rfl
      · rw [if_neg h]
        refine b12_wordHere_67  ?_
        exact b12_wordHere_72  rfl rfl
    · rw [if_neg h]
      have hp := hp.2 h
      refine b12_wordHere_24  (fun h => ?_) (fun h => ?_)
      · rw [if_pos h]
        have hp := hp.1 h
        refine b12_wordHere_53  ?_
        exact T_12_wordHere_54 (F_12_wordHere_8 n) (P_12_wordHere_8 n) ih x2 x1 M hp
      · rw [if_neg h]
        have hp := hp.2 h
        obtain ⟨hc, hp⟩ := hp
        refine b12_wordHere_30  (C_12_byteAt ((rd M 0 4) + x2) M hc) (Nat.le_of_ble_eq_true rfl) ?_
        refine b12_wordHere_44  ?_
        exact T_12_wordHere_54 (F_12_wordHere_8 n) (P_12_wordHere_8 n) ih x2 ((((27 * x1) + (F_12_byteAt_0 M ((rd M 0 4) + x2))) - 97) + 1) M hp
def F_12_wordHere_4 (M : Mem) : Int32 × Mem := F_12_wordHere_8 FU 0 0 M
def P_12_wordHere_4 (M : Mem) : Prop := (P_12_wordHere_8 FU 0 0 M)
theorem T_12_wordHere_4 {g : Gl} (M : Mem) (hp : P_12_wordHere_4 M) : Rn g 2 m12_wordHere 4 [some (.ref 0), none, none] [] M (some (.int (F_12_wordHere_4 M).1)) ((F_12_wordHere_4 M).2) := by
  rw [F_12_wordHere_4]
  rw [P_12_wordHere_4] at hp
  refine b12_wordHere_4  ?_
  exact T_12_wordHere_8 FU 0 0 M hp
def F_12_wordHere_0 (M : Mem) : Int32 × Mem := F_12_wordHere_4 (F_12_blanks_0 FU M)
def P_12_wordHere_0 (M : Mem) : Prop := ((P_12_blanks_0 FU M) ∧ (P_12_wordHere_4 (F_12_blanks_0 FU M)))
theorem T_12_wordHere_0 {g : Gl} (M : Mem) (hp : P_12_wordHere_0 M) : Rn g 2 m12_wordHere 0 [some (.ref 0), none, none] [] M (some (.int (F_12_wordHere_0 M).1)) ((F_12_wordHere_0 M).2) := by
  rw [F_12_wordHere_0]
  rw [P_12_wordHere_0] at hp
  obtain ⟨hc, hp⟩ := hp
  refine b12_wordHere_0  (C_12_blanks  M hc) (Nat.le_of_ble_eq_true rfl) ?_
  exact T_12_wordHere_4 (F_12_blanks_0 FU M) hp
theorem C_12_wordHere {g : Gl}   (M : Mem) (hp : P_12_wordHere_0 M) : Ms g 2 m12_wordHere [.ref 0] M (some (.int (F_12_wordHere_0 M).1)) ((F_12_wordHere_0 M).2) := Ms.of okM_m12_wordHere (Nat.le_of_ble_eq_true rfl) (R_wk (lc rfl (ln (ln l0))) (T_12_wordHere_0 M hp))
def F_12_six_49 (M : Mem) (x5 : Int32) (xs0 : Int32) : Int32 := if x5 = 0 then (xs0) else (((27 * xs0) + x5))
theorem T_12_six_49 {g : Gl} (M : Mem) (x5 : Int32) (xs0 : Int32)  : Rn g 0 m12_six 49 [none, none, none, none, none, some (.int x5), none] [.int xs0] M (some (.int (F_12_six_49 M x5 xs0))) (M) := by
  rw [F_12_six_49]
  refine b12_six_49  (fun h => ?_) (fun h => ?_)
  · rw [if_neg h]
    refine b12_six_61  ?_
    exact b12_six_69  rfl rfl
  · rw [if_pos h]
    refine b12_six_56  ?_
    exact b12_six_69  rfl rfl
def F_12_six_29 (M : Mem) (x4 : Int32) (x5 : Int32) (xs0 : Int32) : Int32 := if x4 = 0 then (F_12_six_49 M x5 xs0) else (F_12_six_49 M x5 ((27 * xs0) + x4))
theorem T_12_six_29 {g : Gl} (M : Mem) (x4 : Int32) (x5 : Int32) (xs0 : Int32)  : Rn g 0 m12_six 29 [none, none, none, none, some (.int x4), some (.int x5), none] [.int xs0] M (some (.int (F_12_six_29 M x4 x5 xs0))) (M) := by
  rw [F_12_six_29]
  refine b12_six_29  (fun h => ?_) (fun h => ?_)
  · rw [if_neg h]
    refine b12_six_41  ?_
    exact T_12_six_49 _ x5 ((27 * xs0) + x4)
  · rw [if_pos h]
    refine b12_six_36  ?_
    exact T_12_six_49 _ x5 xs0
def F_12_six_0 (M : Mem) (x0 : Int32) (x1 : Int32) (x2 : Int32) (x3 : Int32) (x4 : Int32) (x5 : Int32) : Int32 := if x3 = 0 then (F_12_six_29 M x4 x5 ((27 * ((27 * x0) + x1)) + x2)) else (F_12_six_29 M x4 x5 ((27 * ((27 * ((27 * x0) + x1)) + x2)) + x3))
theorem T_12_six_0 {g : Gl} (M : Mem) (x0 : Int32) (x1 : Int32) (x2 : Int32) (x3 : Int32) (x4 : Int32) (x5 : Int32)  : Rn g 0 m12_six 0 [some (.int x0), some (.int x1), some (.int x2), some (.int x3), some (.int x4), some (.int x5), none] [] M (some (.int (F_12_six_0 M x0 x1 x2 x3 x4 x5))) (M) := by
  rw [F_12_six_0]
  refine b12_six_0  (fun h => ?_) (fun h => ?_)
  · rw [if_neg h]
    refine b12_six_22  ?_
    exact T_12_six_29 _ x4 x5 ((27 * ((27 * ((27 * x0) + x1)) + x2)) + x3)
  · rw [if_pos h]
    refine b12_six_17  ?_
    exact T_12_six_29 _ x4 x5 ((27 * ((27 * x0) + x1)) + x2)
theorem C_12_six {g : Gl}  (x0 : Int32) (x1 : Int32) (x2 : Int32) (x3 : Int32) (x4 : Int32) (x5 : Int32) (M : Mem)  : Ms g 0 m12_six [.int x0, .int x1, .int x2, .int x3, .int x4, .int x5] M (some (.int (F_12_six_0 M x0 x1 x2 x3 x4 x5))) (M) := Ms.of okM_m12_six (Nat.le_of_ble_eq_true rfl) (R_wk (lc rfl (lc rfl (lc rfl (lc rfl (lc rfl (lc rfl (ln l0))))))) (T_12_six_0 M x0 x1 x2 x3 x4 x5))
def F_12_isWord_30 (M : Mem) : Int32 × Mem := (0, M)
theorem T_12_isWord_30 {g : Gl} (M : Mem)  : Rn g 3 m12_isWord 30 [none, none, none, none, none, none, none] [] M (some (.int (F_12_isWord_30 M).1)) ((F_12_isWord_30 M).2) := by
  rw [F_12_isWord_30]
  refine b12_isWord_30  ?_
  exact b12_isWord_31  rfl rfl rfl
def F_12_isWord_11 (x1 : Int32) (x2 : Int32) (x3 : Int32) (x4 : Int32) (x5 : Int32) (x6 : Int32) (xs0 : Int32) (M : Mem) : Int32 × Mem := if xs0 = (F_12_six_0 M x1 x2 x3 x4 x5 x6) then ((1, M)) else (F_12_isWord_30 M)
theorem T_12_isWord_11 {g : Gl} (x1 : Int32) (x2 : Int32) (x3 : Int32) (x4 : Int32) (x5 : Int32) (x6 : Int32) (xs0 : Int32) (M : Mem)  : Rn g 3 m12_isWord 11 [none, some (.int x1), some (.int x2), some (.int x3), some (.int x4), some (.int x5), some (.int x6)] [.int xs0] M (some (.int (F_12_isWord_11 x1 x2 x3 x4 x5 x6 xs0 M).1)) ((F_12_isWord_11 x1 x2 x3 x4 x5 x6 xs0 M).2) := by
  rw [F_12_isWord_11]
  refine b12_isWord_11  (C_12_six x1 x2 x3 x4 x5 x6 M) (Nat.le_of_ble_eq_true rfl) ?_
  refine b12_isWord_23  (fun h => ?_) (fun h => ?_)
  · rw [if_neg h]
    exact T_12_isWord_30 M
  · rw [if_pos h]
    refine b12_isWord_26  ?_
    exact b12_isWord_31  rfl rfl rfl
def F_12_isWord_0 (x1 : Int32) (x2 : Int32) (x3 : Int32) (x4 : Int32) (x5 : Int32) (x6 : Int32) (M : Mem) : Int32 × Mem := if (rd M 0 5) = 0 then (F_12_isWord_11 x1 x2 x3 x4 x5 x6 ((F_12_wordHere_0 M).1) ((F_12_wordHere_0 M).2)) else (F_12_isWord_30 M)
def P_12_isWord_0 (x1 : Int32) (x2 : Int32) (x3 : Int32) (x4 : Int32) (x5 : Int32) (x6 : Int32) (M : Mem) : Prop := ((¬ (rd M 0 5) = 0 → True) ∧ ((rd M 0 5) = 0 → ((P_12_wordHere_0 M))))
theorem T_12_isWord_0 {g : Gl} (x1 : Int32) (x2 : Int32) (x3 : Int32) (x4 : Int32) (x5 : Int32) (x6 : Int32) (M : Mem) (hp : P_12_isWord_0 x1 x2 x3 x4 x5 x6 M) : Rn g 3 m12_isWord 0 [some (.ref 0), some (.int x1), some (.int x2), some (.int x3), some (.int x4), some (.int x5), some (.int x6)] [] M (some (.int (F_12_isWord_0 x1 x2 x3 x4 x5 x6 M).1)) ((F_12_isWord_0 x1 x2 x3 x4 x5 x6 M).2) := by
  rw [F_12_isWord_0]
  rw [P_12_isWord_0] at hp
  refine b12_isWord_0  (fun h => ?_) (fun h => ?_)
  · rw [if_neg h]
    exact T_12_isWord_30 M
  · rw [if_pos h]
    have hp := hp.2 h
    have hc := hp
    refine b12_isWord_7  (C_12_wordHere  M hc) (Nat.le_of_ble_eq_true rfl) ?_
    exact T_12_isWord_11 x1 x2 x3 x4 x5 x6 ((F_12_wordHere_0 M).1) ((F_12_wordHere_0 M).2)
theorem C_12_isWord {g : Gl}  (x1 : Int32) (x2 : Int32) (x3 : Int32) (x4 : Int32) (x5 : Int32) (x6 : Int32) (M : Mem) (hp : P_12_isWord_0 x1 x2 x3 x4 x5 x6 M) : Ms g 3 m12_isWord [.ref 0, .int x1, .int x2, .int x3, .int x4, .int x5, .int x6] M (some (.int (F_12_isWord_0 x1 x2 x3 x4 x5 x6 M).1)) ((F_12_isWord_0 x1 x2 x3 x4 x5 x6 M).2) := Ms.of okM_m12_isWord (Nat.le_of_ble_eq_true rfl) (R_wk (lc rfl (lc rfl (lc rfl (lc rfl (lc rfl (lc rfl (lc rfl l0))))))) (T_12_isWord_0 x1 x2 x3 x4 x5 x6 M hp))
def F_12_skipWord_0  : Nat → Mem → Mem
  | 0, M => M
  | n + 1, M => if (F_12_isSmall_0 M (F_12_byteAt_0 M (rd M 0 4))) = 0 then (M) else ((F_12_skipWord_0 n) (wr M 0 4 ((rd M 0 4) + 1)))
def P_12_skipWord_0  : Nat → Mem → Prop
  | 0, _ => False
  | n + 1, M => ((P_12_byteAt_0 M (rd M 0 4)) ∧ ((((((F_12_isSmall_0 M (F_12_byteAt_0 M (rd M 0 4))) = 0 → True) ∧ (¬ (F_12_isSmall_0 M (F_12_byteAt_0 M (rd M 0 4))) = 0 → ((P_12_skipWord_0 n) (wr M 0 4 ((rd M 0 4) + 1)))))))))
theorem T_12_skipWord_0 {g : Gl} : ∀ (n : Nat)  (M : Mem) (hp : P_12_skipWord_0 n M), Rn g 1 m12_skipWord 0 [some (.ref 0)] [] M (none) ((F_12_skipWord_0 n M)) := by
  intro n
  induction n with
  | zero => intro M hp; exact hp.elim
  | succ n ih =>
    intro M hp
    rw [F_12_skipWord_0]
    rw [P_12_skipWord_0] at hp
    obtain ⟨hc, hp⟩ := hp
    refine b12_skipWord_0  (C_12_byteAt (rd M 0 4) M hc) (Nat.le_of_ble_eq_true rfl) ?_
    refine b12_skipWord_8  (C_12_isSmall (F_12_byteAt_0 M (rd M 0 4)) M) (Nat.le_of_ble_eq_true rfl) ?_
    refine b12_skipWord_11  (fun h => ?_) (fun h => ?_)
    · rw [if_pos h]
      exact b12_skipWord_27  rfl rfl
    · rw [if_neg h]
      have hp := hp.2 h
      refine b12_skipWord_14  ?_
      exact ih (wr M 0 4 ((rd M 0 4) + 1)) hp
theorem C_12_skipWord {g : Gl}   (M : Mem) (hp : P_12_skipWord_0 FU M) : Ms g 1 m12_skipWord [.ref 0] M (none) ((F_12_skipWord_0 FU M)) := Ms.of okM_m12_skipWord (Nat.le_of_ble_eq_true rfl) (R_wk (lc rfl l0) (T_12_skipWord_0 FU M hp))
def F_12_takes_24 (x7 : Int32) (M : Mem) : Int32 × Mem := (x7, M)
def P_12_takes_24 (x7 : Int32) (M : Mem) : Prop := (narrow .boolean (.int x7) = .int x7)
theorem T_12_takes_24 {g : Gl} (x7 : Int32) (M : Mem) (hp : P_12_takes_24 x7 M) : Rn g 4 m12_takes 24 [none, none, none, none, none, none, none, some (.int x7)] [] M (some (.int (F_12_takes_24 x7 M).1)) ((F_12_takes_24 x7 M).2) := by
  rw [F_12_takes_24]
  rw [P_12_takes_24] at hp
  have p0 := hp
  exact b12_takes_24  rfl rfl p0
def F_12_takes_13 (xs0 : Int32) (M : Mem) : Int32 × Mem := if xs0 = 0 then (F_12_takes_24 xs0 M) else (F_12_takes_24 xs0 (F_12_skipWord_0 FU M))
def P_12_takes_13 (xs0 : Int32) (M : Mem) : Prop := ((xs0 = 0 → P_12_takes_24 xs0 M) ∧ (¬ xs0 = 0 → ((P_12_skipWord_0 FU M) ∧ (P_12_takes_24 xs0 (F_12_skipWord_0 FU M)))))
theorem T_12_takes_13 {g : Gl} (xs0 : Int32) (M : Mem) (hp : P_12_takes_13 xs0 M) : Rn g 4 m12_takes 13 [some (.ref 0), none, none, none, none, none, none, none] [.int xs0] M (some (.int (F_12_takes_13 xs0 M).1)) ((F_12_takes_13 xs0 M).2) := by
  rw [F_12_takes_13]
  rw [P_12_takes_13] at hp
  refine b12_takes_13  (fun h => ?_) (fun h => ?_)
  · rw [if_pos h]
    have hp := hp.1 h
    exact T_12_takes_24 xs0 M hp
  · rw [if_neg h]
    have hp := hp.2 h
    obtain ⟨hc, hp⟩ := hp
    refine b12_takes_20  (C_12_skipWord  M hc) (Nat.le_of_ble_eq_true rfl) ?_
    exact T_12_takes_24 xs0 (F_12_skipWord_0 FU M) hp
def F_12_takes_0 (x1 : Int32) (x2 : Int32) (x3 : Int32) (x4 : Int32) (x5 : Int32) (x6 : Int32) (M : Mem) : Int32 × Mem := F_12_takes_13 ((F_12_isWord_0 x1 x2 x3 x4 x5 x6 M).1) ((F_12_isWord_0 x1 x2 x3 x4 x5 x6 M).2)
def P_12_takes_0 (x1 : Int32) (x2 : Int32) (x3 : Int32) (x4 : Int32) (x5 : Int32) (x6 : Int32) (M : Mem) : Prop := ((P_12_isWord_0 x1 x2 x3 x4 x5 x6 M) ∧ (P_12_takes_13 ((F_12_isWord_0 x1 x2 x3 x4 x5 x6 M).1) ((F_12_isWord_0 x1 x2 x3 x4 x5 x6 M).2)))
theorem T_12_takes_0 {g : Gl} (x1 : Int32) (x2 : Int32) (x3 : Int32) (x4 : Int32) (x5 : Int32) (x6 : Int32) (M : Mem) (hp : P_12_takes_0 x1 x2 x3 x4 x5 x6 M) : Rn g 4 m12_takes 0 [some (.ref 0), some (.int x1), some (.int x2), some (.int x3), some (.int x4), some (.int x5), some (.int x6), none] [] M (some (.int (F_12_takes_0 x1 x2 x3 x4 x5 x6 M).1)) ((F_12_takes_0 x1 x2 x3 x4 x5 x6 M).2) := by
  rw [F_12_takes_0]
  rw [P_12_takes_0] at hp
  obtain ⟨hc, hp⟩ := hp
  refine b12_takes_0  (C_12_isWord x1 x2 x3 x4 x5 x6 M hc) (Nat.le_of_ble_eq_true rfl) ?_
  exact T_12_takes_13 ((F_12_isWord_0 x1 x2 x3 x4 x5 x6 M).1) ((F_12_isWord_0 x1 x2 x3 x4 x5 x6 M).2) hp
theorem C_12_takes {g : Gl}  (x1 : Int32) (x2 : Int32) (x3 : Int32) (x4 : Int32) (x5 : Int32) (x6 : Int32) (M : Mem) (hp : P_12_takes_0 x1 x2 x3 x4 x5 x6 M) : Ms g 4 m12_takes [.ref 0, .int x1, .int x2, .int x3, .int x4, .int x5, .int x6] M (some (.int (F_12_takes_0 x1 x2 x3 x4 x5 x6 M).1)) ((F_12_takes_0 x1 x2 x3 x4 x5 x6 M).2) := Ms.of okM_m12_takes (Nat.le_of_ble_eq_true rfl) (R_wk (lc rfl (lc rfl (lc rfl (lc rfl (lc rfl (lc rfl (lc rfl (ln l0)))))))) (T_12_takes_0 x1 x2 x3 x4 x5 x6 M hp))
def F_12_sign_46 (M : Mem) : Mem := M
theorem T_12_sign_46 {g : Gl} (M : Mem)  : Rn g 2 m12_sign 46 [none, none] [] M (none) ((F_12_sign_46 M)) := by
  rw [F_12_sign_46]
  exact b12_sign_46  rfl rfl
def F_12_sign_12 (x1 : Int32) (M : Mem) : Mem := if (F_12_byteAt_0 M (rd M 0 4)) = x1 then (F_12_sign_46 (wr M 0 4 ((rd M 0 4) + 1))) else (F_12_sign_46 (F_12_wrong_0 1 (rd M 0 4) M))
def P_12_sign_12 (x1 : Int32) (M : Mem) : Prop := ((P_12_byteAt_0 M (rd M 0 4)))
theorem T_12_sign_12 {g : Gl} (x1 : Int32) (M : Mem) (hp : P_12_sign_12 x1 M) : Rn g 2 m12_sign 12 [some (.ref 0), some (.int x1)] [] M (none) ((F_12_sign_12 x1 M)) := by
  rw [F_12_sign_12]
  rw [P_12_sign_12] at hp
  have hc := hp
  refine b12_sign_12  (C_12_byteAt (rd M 0 4) M hc) (Nat.le_of_ble_eq_true rfl) ?_
  refine b12_sign_20  (fun h => ?_) (fun h => ?_)
  · rw [if_neg h]
    refine b12_sign_37  (C_12_wrong 1 (rd M 0 4) M) (Nat.le_of_ble_eq_true rfl) ?_
    exact T_12_sign_46 (F_12_wrong_0 1 (rd M 0 4) M)
  · rw [if_pos h]
    refine b12_sign_24  ?_
    exact T_12_sign_46 (wr M 0 4 ((rd M 0 4) + 1))
def F_12_sign_0 (x1 : Int32) (M : Mem) : Mem := if (rd M 0 5) = 0 then (F_12_sign_12 x1 (F_12_blanks_0 FU M)) else (M)
def P_12_sign_0 (x1 : Int32) (M : Mem) : Prop := (((rd M 0 5) = 0 → ((P_12_blanks_0 FU M) ∧ (P_12_sign_12 x1 (F_12_blanks_0 FU M)))) ∧ (¬ (rd M 0 5) = 0 → True))
theorem T_12_sign_0 {g : Gl} (x1 : Int32) (M : Mem) (hp : P_12_sign_0 x1 M) : Rn g 2 m12_sign 0 [some (.ref 0), some (.int x1)] [] M (none) ((F_12_sign_0 x1 M)) := by
  rw [F_12_sign_0]
  rw [P_12_sign_0] at hp
  refine b12_sign_0  (fun h => ?_) (fun h => ?_)
  · rw [if_pos h]
    have hp := hp.1 h
    obtain ⟨hc, hp⟩ := hp
    refine b12_sign_8  (C_12_blanks  M hc) (Nat.le_of_ble_eq_true rfl) ?_
    exact T_12_sign_12 x1 (F_12_blanks_0 FU M) hp
  · rw [if_neg h]
    exact b12_sign_7  rfl rfl
theorem C_12_sign {g : Gl}  (x1 : Int32) (M : Mem) (hp : P_12_sign_0 x1 M) : Ms g 2 m12_sign [.ref 0, .int x1] M (none) ((F_12_sign_0 x1 M)) := Ms.of okM_m12_sign (Nat.le_of_ble_eq_true rfl) (R_wk (lc rfl (lc rfl l0)) (T_12_sign_0 x1 M hp))
def F_12_takesSign_30 (xs0 : Int32) (M : Mem) : Int32 × Mem := if xs0 = 0 then ((xs0, M)) else ((xs0, (wr M 0 4 ((rd M 0 4) + 1))))
def P_12_takesSign_30 (xs0 : Int32) (M : Mem) : Prop := ((xs0 = 0 → (narrow .boolean (.int xs0) = .int xs0)) ∧ (¬ xs0 = 0 → ((narrow .boolean (.int xs0) = .int xs0))))
theorem T_12_takesSign_30 {g : Gl} (xs0 : Int32) (M : Mem) (hp : P_12_takesSign_30 xs0 M) : Rn g 2 m12_takesSign 30 [some (.ref 0), none, none] [.int xs0] M (some (.int (F_12_takesSign_30 xs0 M).1)) ((F_12_takesSign_30 xs0 M).2) := by
  rw [F_12_takesSign_30]
  rw [P_12_takesSign_30] at hp
  refine b12_takesSign_30  (fun h => ?_) (fun h => ?_)
  · rw [if_pos h]
    have hp := hp.1 h
    have p0 := hp
    exact b12_takesSign_45  rfl rfl p0
  · rw [if_neg h]
    have hp := hp.2 h
    refine b12_takesSign_35  ?_
    have p1 := hp
    exact b12_takesSign_45  rfl rfl p1
def F_12_takesSign_13 (x1 : Int32) (M : Mem) : Int32 × Mem := if (F_12_byteAt_0 M (rd M 0 4)) = x1 then (F_12_takesSign_30 1 M) else (F_12_takesSign_30 0 M)
def P_12_takesSign_13 (x1 : Int32) (M : Mem) : Prop := ((P_12_byteAt_0 M (rd M 0 4)) ∧ (((¬ (F_12_byteAt_0 M (rd M 0 4)) = x1 → (P_12_takesSign_30 0 M)) ∧ ((F_12_byteAt_0 M (rd M 0 4)) = x1 → (P_12_takesSign_30 1 M)))))
theorem T_12_takesSign_13 {g : Gl} (x1 : Int32) (M : Mem) (hp : P_12_takesSign_13 x1 M) : Rn g 2 m12_takesSign 13 [some (.ref 0), some (.int x1), none] [] M (some (.int (F_12_takesSign_13 x1 M).1)) ((F_12_takesSign_13 x1 M).2) := by
  rw [F_12_takesSign_13]
  rw [P_12_takesSign_13] at hp
  obtain ⟨hc, hp⟩ := hp
  refine b12_takesSign_13  (C_12_byteAt (rd M 0 4) M hc) (Nat.le_of_ble_eq_true rfl) ?_
  refine b12_takesSign_21  (fun h => ?_) (fun h => ?_)
  · rw [if_neg h]
    have hp := hp.1 h
    refine b12_takesSign_29  ?_
    exact T_12_takesSign_30 0 M hp
  · rw [if_pos h]
    have hp := hp.2 h
    refine b12_takesSign_25  ?_
    exact T_12_takesSign_30 1 M hp
def F_12_takesSign_0 (x1 : Int32) (M : Mem) : Int32 × Mem := if (rd M 0 5) = 0 then (F_12_takesSign_13 x1 (F_12_blanks_0 FU M)) else ((0, M))
def P_12_takesSign_0 (x1 : Int32) (M : Mem) : Prop := (((rd M 0 5) = 0 → ((P_12_blanks_0 FU M) ∧ (P_12_takesSign_13 x1 (F_12_blanks_0 FU M)))) ∧ (¬ (rd M 0 5) = 0 → True))
theorem T_12_takesSign_0 {g : Gl} (x1 : Int32) (M : Mem) (hp : P_12_takesSign_0 x1 M) : Rn g 2 m12_takesSign 0 [some (.ref 0), some (.int x1), none] [] M (some (.int (F_12_takesSign_0 x1 M).1)) ((F_12_takesSign_0 x1 M).2) := by
  rw [F_12_takesSign_0]
  rw [P_12_takesSign_0] at hp
  refine b12_takesSign_0  (fun h => ?_) (fun h => ?_)
  · rw [if_pos h]
    have hp := hp.1 h
    obtain ⟨hc, hp⟩ := hp
    refine b12_takesSign_9  (C_12_blanks  M hc) (Nat.le_of_ble_eq_true rfl) ?_
    exact T_12_takesSign_13 x1 (F_12_blanks_0 FU M) hp
  · rw [if_neg h]
    exact b12_takesSign_7  rfl rfl
theorem C_12_takesSign {g : Gl}  (x1 : Int32) (M : Mem) (hp : P_12_takesSign_0 x1 M) : Ms g 2 m12_takesSign [.ref 0, .int x1] M (some (.int (F_12_takesSign_0 x1 M).1)) ((F_12_takesSign_0 x1 M).2) := Ms.of okM_m12_takesSign (Nat.le_of_ble_eq_true rfl) (R_wk (lc rfl (lc rfl (ln l0))) (T_12_takesSign_0 x1 M hp))
def F_12_starts_39 (M : Mem) : Mem := M
theorem T_12_starts_39 {g : Gl} (M : Mem)  : Rn g 2 m12_starts 39 [none, none] [] M (none) ((F_12_starts_39 M)) := by
  rw [F_12_starts_39]
  exact b12_starts_39  rfl rfl
def F_12_starts_0 (x1 : Int32) (M : Mem) : Mem := F_12_starts_39 (F_12_blanks_0 FU (wr (wr (wr (wr (wr (wr (wr M 0 1 0) 0 2 x1) 0 4 0) 0 5 0) 0 6 (-1)) 0 7 0) 0 8 0))
def P_12_starts_0 (x1 : Int32) (M : Mem) : Prop := ((P_12_blanks_0 FU (wr (wr (wr (wr (wr (wr (wr M 0 1 0) 0 2 x1) 0 4 0) 0 5 0) 0 6 (-1)) 0 7 0) 0 8 0)))
theorem T_12_starts_0 {g : Gl} (x1 : Int32) (M : Mem) (hp : P_12_starts_0 x1 M) : Rn g 2 m12_starts 0 [some (.ref 0), some (.int x1)] [] M (none) ((F_12_starts_0 x1 M)) := by
  rw [F_12_starts_0]
  rw [P_12_starts_0] at hp
  have hc := hp
  refine b12_starts_0  (C_12_blanks  (wr (wr (wr (wr (wr (wr (wr M 0 1 0) 0 2 x1) 0 4 0) 0 5 0) 0 6 (-1)) 0 7 0) 0 8 0) hc) (Nat.le_of_ble_eq_true rfl) ?_
  exact T_12_starts_39 (F_12_blanks_0 FU (wr (wr (wr (wr (wr (wr (wr M 0 1 0) 0 2 x1) 0 4 0) 0 5 0) 0 6 (-1)) 0 7 0) 0 8 0))
theorem C_12_starts {g : Gl}  (x1 : Int32) (M : Mem) (hp : P_12_starts_0 x1 M) : Ms g 2 m12_starts [.ref 0, .int x1] M (none) ((F_12_starts_0 x1 M)) := Ms.of okM_m12_starts (Nat.le_of_ble_eq_true rfl) (R_wk (lc rfl (lc rfl l0)) (T_12_starts_0 x1 M hp))
def F_12_ends2_0 (M : Mem) : Int32 × Mem := ((rd (wr M 0 3 (rd M 0 6)) 0 5) - 10, wr M 0 3 (rd M 0 6))
theorem T_12_ends2_0 {g : Gl} (M : Mem)  : Rn g 0 m12_ends2 0 [some (.ref 0)] [] M (some (.int (F_12_ends2_0 M).1)) ((F_12_ends2_0 M).2) := by
  rw [F_12_ends2_0]
  exact b12_ends2_0  rfl rfl
theorem C_12_ends2 {g : Gl}   (M : Mem)  : Ms g 0 m12_ends2 [.ref 0] M (some (.int (F_12_ends2_0 M).1)) ((F_12_ends2_0 M).2) := Ms.of okM_m12_ends2 (Nat.le_of_ble_eq_true rfl) (R_wk (lc rfl l0) (T_12_ends2_0 M))
def F_12_kindHere_87 (xs0 : Int32) (M : Mem) : Int32 × Mem := if xs0 = 0 then (((-1), M)) else ((4, M))
theorem T_12_kindHere_87 {g : Gl} (xs0 : Int32) (M : Mem)  : Rn g 4 m12_kindHere 87 [none] [.int xs0] M (some (.int (F_12_kindHere_87 xs0 M).1)) ((F_12_kindHere_87 xs0 M).2) := by
  rw [F_12_kindHere_87]
  refine b12_kindHere_87  (fun h => ?_) (fun h => ?_)
  · rw [if_pos h]
    refine b12_kindHere_94  ?_
    exact b12_kindHere_95  rfl rfl
  · rw [if_neg h]
    refine b12_kindHere_90  ?_
    exact b12_kindHere_95  rfl rfl
def F_12_kindHere_69 (xs0 : Int32) (M : Mem) : Int32 × Mem := if xs0 = 0 then (F_12_kindHere_87 ((F_12_isWord_0 23 1 18 4 5 18 M).1) ((F_12_isWord_0 23 1 18 4 5 18 M).2)) else ((3, M))
def P_12_kindHere_69 (xs0 : Int32) (M : Mem) : Prop := ((xs0 = 0 → ((P_12_isWord_0 23 1 18 4 5 18 M))) ∧ (¬ xs0 = 0 → True))
theorem T_12_kindHere_69 {g : Gl} (xs0 : Int32) (M : Mem) (hp : P_12_kindHere_69 xs0 M) : Rn g 4 m12_kindHere 69 [some (.ref 0)] [.int xs0] M (some (.int (F_12_kindHere_69 xs0 M).1)) ((F_12_kindHere_69 xs0 M).2) := by
  rw [F_12_kindHere_69]
  rw [P_12_kindHere_69] at hp
  refine b12_kindHere_69  (fun h => ?_) (fun h => ?_)
  · rw [if_pos h]
    have hp := hp.1 h
    have hc := hp
    refine b12_kindHere_74  (C_12_isWord 23 1 18 4 5 18 M hc) (Nat.le_of_ble_eq_true rfl) ?_
    exact T_12_kindHere_87 ((F_12_isWord_0 23 1 18 4 5 18 M).1) ((F_12_isWord_0 23 1 18 4 5 18 M).2)
  · rw [if_neg h]
    exact b12_kindHere_72  rfl rfl
def F_12_kindHere_51 (xs0 : Int32) (M : Mem) : Int32 × Mem := if xs0 = 0 then (F_12_kindHere_69 ((F_12_isWord_0 5 24 9 20 0 0 M).1) ((F_12_isWord_0 5 24 9 20 0 0 M).2)) else ((2, M))
def P_12_kindHere_51 (xs0 : Int32) (M : Mem) : Prop := ((xs0 = 0 → ((P_12_isWord_0 5 24 9 20 0 0 M) ∧ (P_12_kindHere_69 ((F_12_isWord_0 5 24 9 20 0 0 M).1) ((F_12_isWord_0 5 24 9 20 0 0 M).2)))) ∧ (¬ xs0 = 0 → True))
theorem T_12_kindHere_51 {g : Gl} (xs0 : Int32) (M : Mem) (hp : P_12_kindHere_51 xs0 M) : Rn g 4 m12_kindHere 51 [some (.ref 0)] [.int xs0] M (some (.int (F_12_kindHere_51 xs0 M).1)) ((F_12_kindHere_51 xs0 M).2) := by
  rw [F_12_kindHere_51]
  rw [P_12_kindHere_51] at hp
  refine b12_kindHere_51  (fun h => ?_) (fun h => ?_)
  · rw [if_pos h]
    have hp := hp.1 h
    obtain ⟨hc, hp⟩ := hp
    refine b12_kindHere_56  (C_12_isWord 5 24 9 20 0 0 M hc) (Nat.le_of_ble_eq_true rfl) ?_
    exact T_12_kindHere_69 ((F_12_isWord_0 5 24 9 20 0 0 M).1) ((F_12_isWord_0 5 24 9 20 0 0 M).2) hp
  · rw [if_neg h]
    exact b12_kindHere_54  rfl rfl
def F_12_kindHere_32 (xs0 : Int32) (M : Mem) : Int32 × Mem := if xs0 = 0 then (F_12_kindHere_51 ((F_12_isWord_0 20 15 21 18 0 0 M).1) ((F_12_isWord_0 20 15 21 18 0 0 M).2)) else ((1, M))
def P_12_kindHere_32 (xs0 : Int32) (M : Mem) : Prop := ((xs0 = 0 → ((P_12_isWord_0 20 15 21 18 0 0 M) ∧ (P_12_kindHere_51 ((F_12_isWord_0 20 15 21 18 0 0 M).1) ((F_12_isWord_0 20 15 21 18 0 0 M).2)))) ∧ (¬ xs0 = 0 → True))
theorem T_12_kindHere_32 {g : Gl} (xs0 : Int32) (M : Mem) (hp : P_12_kindHere_32 xs0 M) : Rn g 4 m12_kindHere 32 [some (.ref 0)] [.int xs0] M (some (.int (F_12_kindHere_32 xs0 M).1)) ((F_12_kindHere_32 xs0 M).2) := by
  rw [F_12_kindHere_32]
  rw [P_12_kindHere_32] at hp
  refine b12_kindHere_32  (fun h => ?_) (fun h => ?_)
  · rw [if_pos h]
    have hp := hp.1 h
    obtain ⟨hc, hp⟩ := hp
    refine b12_kindHere_37  (C_12_isWord 20 15 21 18 0 0 M hc) (Nat.le_of_ble_eq_true rfl) ?_
    exact T_12_kindHere_51 ((F_12_isWord_0 20 15 21 18 0 0 M).1) ((F_12_isWord_0 20 15 21 18 0 0 M).2) hp
  · rw [if_neg h]
    exact b12_kindHere_35  rfl rfl
def F_12_kindHere_14 (xs0 : Int32) (M : Mem) : Int32 × Mem := if xs0 = 0 then (F_12_kindHere_32 ((F_12_isWord_0 4 15 15 18 0 0 M).1) ((F_12_isWord_0 4 15 15 18 0 0 M).2)) else ((0, M))
def P_12_kindHere_14 (xs0 : Int32) (M : Mem) : Prop := ((xs0 = 0 → ((P_12_isWord_0 4 15 15 18 0 0 M) ∧ (P_12_kindHere_32 ((F_12_isWord_0 4 15 15 18 0 0 M).1) ((F_12_isWord_0 4 15 15 18 0 0 M).2)))) ∧ (¬ xs0 = 0 → True))
theorem T_12_kindHere_14 {g : Gl} (xs0 : Int32) (M : Mem) (hp : P_12_kindHere_14 xs0 M) : Rn g 4 m12_kindHere 14 [some (.ref 0)] [.int xs0] M (some (.int (F_12_kindHere_14 xs0 M).1)) ((F_12_kindHere_14 xs0 M).2) := by
  rw [F_12_kindHere_14]
  rw [P_12_kindHere_14] at hp
  refine b12_kindHere_14  (fun h => ?_) (fun h => ?_)
  · rw [if_pos h]
    have hp := hp.1 h
    obtain ⟨hc, hp⟩ := hp
    refine b12_kindHere_19  (C_12_isWord 4 15 15 18 0 0 M hc) (Nat.le_of_ble_eq_true rfl) ?_
    exact T_12_kindHere_32 ((F_12_isWord_0 4 15 15 18 0 0 M).1) ((F_12_isWord_0 4 15 15 18 0 0 M).2) hp
  · rw [if_neg h]
    exact b12_kindHere_17  rfl rfl
def F_12_kindHere_0 (M : Mem) : Int32 × Mem := F_12_kindHere_14 ((F_12_isWord_0 18 15 15 13 0 0 M).1) ((F_12_isWord_0 18 15 15 13 0 0 M).2)
def P_12_kindHere_0 (M : Mem) : Prop := ((P_12_isWord_0 18 15 15 13 0 0 M) ∧ (P_12_kindHere_14 ((F_12_isWord_0 18 15 15 13 0 0 M).1) ((F_12_isWord_0 18 15 15 13 0 0 M).2)))
theorem T_12_kindHere_0 {g : Gl} (M : Mem) (hp : P_12_kindHere_0 M) : Rn g 4 m12_kindHere 0 [some (.ref 0)] [] M (some (.int (F_12_kindHere_0 M).1)) ((F_12_kindHere_0 M).2) := by
  rw [F_12_kindHere_0]
  rw [P_12_kindHere_0] at hp
  obtain ⟨hc, hp⟩ := hp
  refine b12_kindHere_0  (C_12_isWord 18 15 15 13 0 0 M hc) (Nat.le_of_ble_eq_true rfl) ?_
  exact T_12_kindHere_14 ((F_12_isWord_0 18 15 15 13 0 0 M).1) ((F_12_isWord_0 18 15 15 13 0 0 M).2) hp
theorem C_12_kindHere {g : Gl}   (M : Mem) (hp : P_12_kindHere_0 M) : Ms g 4 m12_kindHere [.ref 0] M (some (.int (F_12_kindHere_0 M).1)) ((F_12_kindHere_0 M).2) := Ms.of okM_m12_kindHere (Nat.le_of_ble_eq_true rfl) (R_wk (lc rfl l0) (T_12_kindHere_0 M hp))
def F_12_roomHere_13 (xs0 : Int32) (M : Mem) : Int32 × Mem := (xs0, M)
theorem T_12_roomHere_13 {g : Gl} (xs0 : Int32) (M : Mem)  : Rn g 3 m12_roomHere 13 [none] [.int xs0] M (some (.int (F_12_roomHere_13 xs0 M).1)) ((F_12_roomHere_13 xs0 M).2) := by
  rw [F_12_roomHere_13]
  exact b12_roomHere_13  rfl rfl
def F_12_roomHere_0 (M : Mem) : Int32 × Mem := F_12_roomHere_13 ((F_12_number_0 0 ((rd M 3 ((0 : Int32).toNatClampNeg)) - 1) M).1) ((F_12_number_0 0 ((rd M 3 ((0 : Int32).toNatClampNeg)) - 1) M).2)
def P_12_roomHere_0 (M : Mem) : Prop := ((P_12_number_0 0 ((rd M 3 ((0 : Int32).toNatClampNeg)) - 1) M))
theorem T_12_roomHere_0 {g : Gl} (M : Mem) (hp : P_12_roomHere_0 M) : Rn g 3 m12_roomHere 0 [some (.ref 0)] [] M (some (.int (F_12_roomHere_0 M).1)) ((F_12_roomHere_0 M).2) := by
  rw [F_12_roomHere_0]
  rw [P_12_roomHere_0] at hp
  have hc := hp
  refine b12_roomHere_0 (vpl (by decide)) (C_12_number 0 ((rd M 3 ((0 : Int32).toNatClampNeg)) - 1) M hc) (Nat.le_of_ble_eq_true rfl) ?_
  exact T_12_roomHere_13 ((F_12_number_0 0 ((rd M 3 ((0 : Int32).toNatClampNeg)) - 1) M).1) ((F_12_number_0 0 ((rd M 3 ((0 : Int32).toNatClampNeg)) - 1) M).2)
theorem C_12_roomHere {g : Gl}   (M : Mem) (hp : P_12_roomHere_0 M) : Ms g 3 m12_roomHere [.ref 0] M (some (.int (F_12_roomHere_0 M).1)) ((F_12_roomHere_0 M).2) := Ms.of okM_m12_roomHere (Nat.le_of_ble_eq_true rfl) (R_wk (lc rfl l0) (T_12_roomHere_0 M hp))
def F_12_clause_358 (M : Mem) : Mem := M
theorem T_12_clause_358 {g : Gl} (M : Mem)  : Rn g 5 m12_clause 358 [none, none, none, none] [] M (none) ((F_12_clause_358 M)) := by
  rw [F_12_clause_358]
  exact b12_clause_358  rfl rfl
def F_12_clause_352 (M : Mem) : Mem := F_12_clause_358 (F_12_sign_0 59 M)
def P_12_clause_352 (M : Mem) : Prop := ((P_12_sign_0 59 M))
theorem T_12_clause_352 {g : Gl} (M : Mem) (hp : P_12_clause_352 M) : Rn g 5 m12_clause 352 [some (.ref 0), none, none, none] [] M (none) ((F_12_clause_352 M)) := by
  rw [F_12_clause_352]
  rw [P_12_clause_352] at hp
  have hc := hp
  refine b12_clause_352  (C_12_sign 59 M hc) (Nat.le_of_ble_eq_true rfl) ?_
  exact T_12_clause_358 (F_12_sign_0 59 M)
def F_12_clause_350 (xs0 : Int32) (xs1 : Int32) (xs2 : Int32) (M : Mem) : Mem := F_12_clause_352 (wr M 3 xs2.toNatClampNeg (xs1 + xs0))
def P_12_clause_350 (xs0 : Int32) (xs1 : Int32) (xs2 : Int32) (M : Mem) : Prop := (vp_in xs2 4) ∧ (P_12_clause_352 (wr M 3 xs2.toNatClampNeg (xs1 + xs0)))
theorem T_12_clause_350 {g : Gl} (xs0 : Int32) (xs1 : Int32) (xs2 : Int32) (M : Mem) (hp : P_12_clause_350 xs0 xs1 xs2 M) : Rn g 5 m12_clause 350 [some (.ref 0), none, none, none] [.int xs0, .int xs1, .int xs2, .ref 3] M (none) ((F_12_clause_350 xs0 xs1 xs2 M)) := by
  rw [F_12_clause_350]
  rw [P_12_clause_350] at hp
  obtain ⟨p0, hp⟩ := hp
  refine b12_clause_350 p0 ?_
  exact T_12_clause_352 (wr M 3 xs2.toNatClampNeg (xs1 + xs0)) hp
def F_12_clause_326 (x1 : Int32) (M : Mem) : Mem := if (3 : Int32) ≤ x1 then (F_12_clause_352 M) else (if (rd M 0 5) = 0 then (F_12_clause_350 1 (rd M 3 x1.toNatClampNeg) x1 M) else (F_12_clause_350 0 (rd M 3 x1.toNatClampNeg) x1 M))
def P_12_clause_326 (x1 : Int32) (M : Mem) : Prop := (((3 : Int32) ≤ x1 → P_12_clause_352 M) ∧ (¬ (3 : Int32) ≤ x1 → (vp_in x1 4) ∧ ((¬ (rd M 0 5) = 0 → (P_12_clause_350 0 (rd M 3 x1.toNatClampNeg) x1 M)) ∧ ((rd M 0 5) = 0 → (P_12_clause_350 1 (rd M 3 x1.toNatClampNeg) x1 M)))))
theorem T_12_clause_326 {g : Gl} (x1 : Int32) (M : Mem) (hp : P_12_clause_326 x1 M) : Rn g 5 m12_clause 326 [some (.ref 0), some (.int x1), none, none] [] M (none) ((F_12_clause_326 x1 M)) := by
  rw [F_12_clause_326]
  rw [P_12_clause_326] at hp
  refine b12_clause_326  (fun h => ?_) (fun h => ?_)
  · rw [if_pos h]
    have hp := hp.1 h
    exact T_12_clause_352 M hp
  · rw [if_neg h]
    have hp := hp.2 h
    obtain ⟨p0, hp⟩ := hp
    refine b12_clause_331 p0 (fun h => ?_) (fun h => ?_)
    · rw [if_neg h]
      have hp := hp.1 h
      refine b12_clause_349  ?_
      exact T_12_clause_350 0 (rd M 3 x1.toNatClampNeg) x1 M hp
    · rw [if_pos h]
      have hp := hp.2 h
      refine b12_clause_345  ?_
      exact T_12_clause_350 1 (rd M 3 x1.toNatClampNeg) x1 M hp
def F_12_clause_157 (x1 : Int32) (xs0 : Int32) (xs1 : Int32) (M : Mem) : Mem := F_12_clause_326 x1 (wr M 5 xs1.toNatClampNeg xs0)
def P_12_clause_157 (x1 : Int32) (xs0 : Int32) (xs1 : Int32) (M : Mem) : Prop := (vp_in xs1 10) ∧ (P_12_clause_326 x1 (wr M 5 xs1.toNatClampNeg xs0))
theorem T_12_clause_157 {g : Gl} (x1 : Int32) (xs0 : Int32) (xs1 : Int32) (M : Mem) (hp : P_12_clause_157 x1 xs0 xs1 M) : Rn g 5 m12_clause 157 [some (.ref 0), some (.int x1), none, none] [.int xs0, .int xs1, .ref 5] M (none) ((F_12_clause_157 x1 xs0 xs1 M)) := by
  rw [F_12_clause_157]
  rw [P_12_clause_157] at hp
  obtain ⟨p0, hp⟩ := hp
  refine b12_clause_157 p0 ?_
  exact T_12_clause_326 x1 (wr M 5 xs1.toNatClampNeg xs0) hp
def F_12_clause_247 (x1 : Int32) (xs0 : Int32) (xs1 : Int32) (qs2 : Nat) (M : Mem) : Mem := F_12_clause_326 x1 (wr M (30 + qs2) xs1.toNatClampNeg xs0)
def P_12_clause_247 (x1 : Int32) (xs0 : Int32) (xs1 : Int32) (qs2 : Nat) (M : Mem) : Prop := (qs2 < 24) ∧ ((vp_in xs1 4) ∧ (P_12_clause_326 x1 (wr M (30 + qs2) xs1.toNatClampNeg xs0)))
theorem T_12_clause_247 {g : Gl} (x1 : Int32) (xs0 : Int32) (xs1 : Int32) (qs2 : Nat) (M : Mem) (hp : P_12_clause_247 x1 xs0 xs1 qs2 M) : Rn g 5 m12_clause 247 [some (.ref 0), some (.int x1), none, none] [.int xs0, .int xs1, .ref (30 + qs2)] M (none) ((F_12_clause_247 x1 xs0 xs1 qs2 M)) := by
  rw [F_12_clause_247]
  rw [P_12_clause_247] at hp
  obtain ⟨hqs2, hp⟩ := hp
  obtain ⟨p0, hp⟩ := hp
  refine b12_clause_247 hqs2 p0 ?_
  exact T_12_clause_326 x1 (wr M (30 + qs2) xs1.toNatClampNeg xs0) hp
def F_12_clause_235 (x1 : Int32) (q2 : Nat) (xs0 : Int32) (xs1 : Int32) (qs2 : Nat) (M : Mem) : Mem := F_12_clause_247 x1 ((F_12_number_0 (rd (wr M (30 + qs2) xs1.toNatClampNeg xs0) (30 + q2) ((2 : Int32).toNatClampNeg)) 23 (wr M (30 + qs2) xs1.toNatClampNeg xs0)).1) 3 q2 ((F_12_number_0 (rd (wr M (30 + qs2) xs1.toNatClampNeg xs0) (30 + q2) ((2 : Int32).toNatClampNeg)) 23 (wr M (30 + qs2) xs1.toNatClampNeg xs0)).2)
def P_12_clause_235 (x1 : Int32) (q2 : Nat) (xs0 : Int32) (xs1 : Int32) (qs2 : Nat) (M : Mem) : Prop := (q2 < 24) ∧ ((qs2 < 24) ∧ ((vp_in xs1 4) ∧ ((P_12_number_0 (rd (wr M (30 + qs2) xs1.toNatClampNeg xs0) (30 + q2) ((2 : Int32).toNatClampNeg)) 23 (wr M (30 + qs2) xs1.toNatClampNeg xs0)) ∧ (P_12_clause_247 x1 ((F_12_number_0 (rd (wr M (30 + qs2) xs1.toNatClampNeg xs0) (30 + q2) ((2 : Int32).toNatClampNeg)) 23 (wr M (30 + qs2) xs1.toNatClampNeg xs0)).1) 3 q2 ((F_12_number_0 (rd (wr M (30 + qs2) xs1.toNatClampNeg xs0) (30 + q2) ((2 : Int32).toNatClampNeg)) 23 (wr M (30 + qs2) xs1.toNatClampNeg xs0)).2)))))
theorem T_12_clause_235 {g : Gl} (x1 : Int32) (q2 : Nat) (xs0 : Int32) (xs1 : Int32) (qs2 : Nat) (M : Mem) (hp : P_12_clause_235 x1 q2 xs0 xs1 qs2 M) : Rn g 5 m12_clause 235 [some (.ref 0), some (.int x1), some (.ref (30 + q2)), none] [.int xs0, .int xs1, .ref (30 + qs2)] M (none) ((F_12_clause_235 x1 q2 xs0 xs1 qs2 M)) := by
  rw [F_12_clause_235]
  rw [P_12_clause_235] at hp
  obtain ⟨hq2, hqs2, hp⟩ := hp
  obtain ⟨p0, hp⟩ := hp
  obtain ⟨hc, hp⟩ := hp
  refine b12_clause_235 hq2 hqs2 p0 (vpl (by decide)) (C_12_number (rd (wr M (30 + qs2) xs1.toNatClampNeg xs0) (30 + q2) ((2 : Int32).toNatClampNeg)) 23 (wr M (30 + qs2) xs1.toNatClampNeg xs0) hc) (Nat.le_of_ble_eq_true rfl) ?_
  exact T_12_clause_247 x1 ((F_12_number_0 (rd (wr M (30 + qs2) xs1.toNatClampNeg xs0) (30 + q2) ((2 : Int32).toNatClampNeg)) 23 (wr M (30 + qs2) xs1.toNatClampNeg xs0)).1) 3 q2 ((F_12_number_0 (rd (wr M (30 + qs2) xs1.toNatClampNeg xs0) (30 + q2) ((2 : Int32).toNatClampNeg)) 23 (wr M (30 + qs2) xs1.toNatClampNeg xs0)).2) hp
def F_12_clause_226 (x1 : Int32) (q2 : Nat) (M : Mem) : Mem := F_12_clause_235 x1 q2 ((F_12_number_0 0 23 M).1) 2 q2 ((F_12_number_0 0 23 M).2)
def P_12_clause_226 (x1 : Int32) (q2 : Nat) (M : Mem) : Prop := (q2 < 24) ∧ (((P_12_number_0 0 23 M) ∧ (P_12_clause_235 x1 q2 ((F_12_number_0 0 23 M).1) 2 q2 ((F_12_number_0 0 23 M).2))))
theorem T_12_clause_226 {g : Gl} (x1 : Int32) (q2 : Nat) (M : Mem) (hp : P_12_clause_226 x1 q2 M) : Rn g 5 m12_clause 226 [some (.ref 0), some (.int x1), some (.ref (30 + q2)), none] [] M (none) ((F_12_clause_226 x1 q2 M)) := by
  rw [F_12_clause_226]
  rw [P_12_clause_226] at hp
  obtain ⟨hq2, hp⟩ := hp
  obtain ⟨hc, hp⟩ := hp
  refine b12_clause_226 hq2 (C_12_number 0 23 M hc) (Nat.le_of_ble_eq_true rfl) ?_
  exact T_12_clause_235 x1 q2 ((F_12_number_0 0 23 M).1) 2 q2 ((F_12_number_0 0 23 M).2) hp
def F_12_clause_203 (x1 : Int32) (q2 : Nat) (x3 : Int32) (xs0 : Int32) (xs1 : Int32) (qs2 : Nat) (M : Mem) : Mem := if (rd (wr M (30 + qs2) xs1.toNatClampNeg xs0) 0 5) = 0 then (if (rd (wr M (30 + qs2) xs1.toNatClampNeg xs0) (30 + q2) ((1 : Int32).toNatClampNeg)) = (rd (wr M (30 + qs2) xs1.toNatClampNeg xs0) (30 + q2) ((0 : Int32).toNatClampNeg)) then (F_12_clause_226 x1 q2 (F_12_wrong_0 2 x3 (wr M (30 + qs2) xs1.toNatClampNeg xs0))) else (F_12_clause_226 x1 q2 (wr M (30 + qs2) xs1.toNatClampNeg xs0))) else (F_12_clause_226 x1 q2 (wr M (30 + qs2) xs1.toNatClampNeg xs0))
def P_12_clause_203 (x1 : Int32) (q2 : Nat) (x3 : Int32) (xs0 : Int32) (xs1 : Int32) (qs2 : Nat) (M : Mem) : Prop := (q2 < 24) ∧ ((qs2 < 24) ∧ ((vp_in xs1 4) ∧ ((¬ (rd (wr M (30 + qs2) xs1.toNatClampNeg xs0) 0 5) = 0 → P_12_clause_226 x1 q2 (wr M (30 + qs2) xs1.toNatClampNeg xs0)) ∧ ((rd (wr M (30 + qs2) xs1.toNatClampNeg xs0) 0 5) = 0 → ((¬ (rd (wr M (30 + qs2) xs1.toNatClampNeg xs0) (30 + q2) ((1 : Int32).toNatClampNeg)) = (rd (wr M (30 + qs2) xs1.toNatClampNeg xs0) (30 + q2) ((0 : Int32).toNatClampNeg)) → P_12_clause_226 x1 q2 (wr M (30 + qs2) xs1.toNatClampNeg xs0)) ∧ ((rd (wr M (30 + qs2) xs1.toNatClampNeg xs0) (30 + q2) ((1 : Int32).toNatClampNeg)) = (rd (wr M (30 + qs2) xs1.toNatClampNeg xs0) (30 + q2) ((0 : Int32).toNatClampNeg)) → ((P_12_clause_226 x1 q2 (F_12_wrong_0 2 x3 (wr M (30 + qs2) xs1.toNatClampNeg xs0))))))))))
theorem T_12_clause_203 {g : Gl} (x1 : Int32) (q2 : Nat) (x3 : Int32) (xs0 : Int32) (xs1 : Int32) (qs2 : Nat) (M : Mem) (hp : P_12_clause_203 x1 q2 x3 xs0 xs1 qs2 M) : Rn g 5 m12_clause 203 [some (.ref 0), some (.int x1), some (.ref (30 + q2)), some (.int x3)] [.int xs0, .int xs1, .ref (30 + qs2)] M (none) ((F_12_clause_203 x1 q2 x3 xs0 xs1 qs2 M)) := by
  rw [F_12_clause_203]
  rw [P_12_clause_203] at hp
  obtain ⟨hq2, hqs2, hp⟩ := hp
  obtain ⟨p0, hp⟩ := hp
  refine b12_clause_203 hq2 hqs2 p0 (fun h => ?_) (fun h => ?_)
  · rw [if_neg h]
    have hp := hp.1 h
    exact T_12_clause_226 x1 q2 (wr M (30 + qs2) xs1.toNatClampNeg xs0) hp
  · rw [if_pos h]
    have hp := hp.2 h
    refine b12_clause_211 hq2 (vpl (by decide)) (vpl (by decide)) (fun h => ?_) (fun h => ?_)
    · rw [if_neg h]
      have hp := hp.1 h
      exact T_12_clause_226 x1 q2 (wr M (30 + qs2) xs1.toNatClampNeg xs0) hp
    · rw [if_pos h]
      have hp := hp.2 h
      refine b12_clause_220 hq2 (C_12_wrong 2 x3 (wr M (30 + qs2) xs1.toNatClampNeg xs0)) (Nat.le_of_ble_eq_true rfl) ?_
      exact T_12_clause_226 x1 q2 (F_12_wrong_0 2 x3 (wr M (30 + qs2) xs1.toNatClampNeg xs0)) hp
def F_12_clause_192 (x1 : Int32) (q2 : Nat) (M : Mem) : Mem := F_12_clause_203 x1 q2 (rd M 0 4) ((F_12_roomHere_0 M).1) 1 q2 ((F_12_roomHere_0 M).2)
def P_12_clause_192 (x1 : Int32) (q2 : Nat) (M : Mem) : Prop := (q2 < 24) ∧ (((P_12_roomHere_0 M) ∧ (P_12_clause_203 x1 q2 (rd M 0 4) ((F_12_roomHere_0 M).1) 1 q2 ((F_12_roomHere_0 M).2))))
theorem T_12_clause_192 {g : Gl} (x1 : Int32) (q2 : Nat) (M : Mem) (hp : P_12_clause_192 x1 q2 M) : Rn g 5 m12_clause 192 [some (.ref 0), some (.int x1), some (.ref (30 + q2)), none] [] M (none) ((F_12_clause_192 x1 q2 M)) := by
  rw [F_12_clause_192]
  rw [P_12_clause_192] at hp
  obtain ⟨hq2, hp⟩ := hp
  obtain ⟨hc, hp⟩ := hp
  refine b12_clause_192 hq2 (C_12_roomHere  M hc) (Nat.le_of_ble_eq_true rfl) ?_
  exact T_12_clause_203 x1 q2 (rd M 0 4) ((F_12_roomHere_0 M).1) 1 q2 ((F_12_roomHere_0 M).2) hp
def F_12_clause_179 (x1 : Int32) (q2 : Nat) (xs0 : Int32) (xs1 : Int32) (qs2 : Nat) (M : Mem) : Mem := if (rd (wr M (30 + qs2) xs1.toNatClampNeg xs0) 0 5) = 0 then (F_12_clause_192 x1 q2 (F_12_blanks_0 FU (wr M (30 + qs2) xs1.toNatClampNeg xs0))) else ((wr M (30 + qs2) xs1.toNatClampNeg xs0))
def P_12_clause_179 (x1 : Int32) (q2 : Nat) (xs0 : Int32) (xs1 : Int32) (qs2 : Nat) (M : Mem) : Prop := (q2 < 24) ∧ ((qs2 < 24) ∧ ((vp_in xs1 4) ∧ (((rd (wr M (30 + qs2) xs1.toNatClampNeg xs0) 0 5) = 0 → ((P_12_blanks_0 FU (wr M (30 + qs2) xs1.toNatClampNeg xs0)) ∧ (P_12_clause_192 x1 q2 (F_12_blanks_0 FU (wr M (30 + qs2) xs1.toNatClampNeg xs0))))) ∧ (¬ (rd (wr M (30 + qs2) xs1.toNatClampNeg xs0) 0 5) = 0 → True))))
theorem T_12_clause_179 {g : Gl} (x1 : Int32) (q2 : Nat) (xs0 : Int32) (xs1 : Int32) (qs2 : Nat) (M : Mem) (hp : P_12_clause_179 x1 q2 xs0 xs1 qs2 M) : Rn g 5 m12_clause 179 [some (.ref 0), some (.int x1), some (.ref (30 + q2)), none] [.int xs0, .int xs1, .ref (30 + qs2)] M (none) ((F_12_clause_179 x1 q2 xs0 xs1 qs2 M)) := by
  rw [F_12_clause_179]
  rw [P_12_clause_179] at hp
  obtain ⟨hq2, hqs2, hp⟩ := hp
  obtain ⟨p0, hp⟩ := hp
  refine b12_clause_179 hq2 hqs2 p0 (fun h => ?_) (fun h => ?_)
  · rw [if_pos h]
    have hp := hp.1 h
    obtain ⟨hc, hp⟩ := hp
    refine b12_clause_188 hq2 (C_12_blanks  (wr M (30 + qs2) xs1.toNatClampNeg xs0) hc) (Nat.le_of_ble_eq_true rfl) ?_
    exact T_12_clause_192 x1 q2 (F_12_blanks_0 FU (wr M (30 + qs2) xs1.toNatClampNeg xs0)) hp
  · rw [if_neg h]
    exact b12_clause_187  rfl rfl
def F_12_clause_265 (x1 : Int32) (xs0 : Int32) (xs1 : Int32) (M : Mem) : Mem := F_12_clause_326 x1 (wr M 9 xs1.toNatClampNeg xs0)
def P_12_clause_265 (x1 : Int32) (xs0 : Int32) (xs1 : Int32) (M : Mem) : Prop := (vp_in xs1 6) ∧ (P_12_clause_326 x1 (wr M 9 xs1.toNatClampNeg xs0))
theorem T_12_clause_265 {g : Gl} (x1 : Int32) (xs0 : Int32) (xs1 : Int32) (M : Mem) (hp : P_12_clause_265 x1 xs0 xs1 M) : Rn g 5 m12_clause 265 [some (.ref 0), some (.int x1), none, none] [.int xs0, .int xs1, .ref 9] M (none) ((F_12_clause_265 x1 xs0 xs1 M)) := by
  rw [F_12_clause_265]
  rw [P_12_clause_265] at hp
  obtain ⟨p0, hp⟩ := hp
  refine b12_clause_265 p0 ?_
  exact T_12_clause_326 x1 (wr M 9 xs1.toNatClampNeg xs0) hp
def F_12_clause_273 (x1 : Int32) (xs0 : Int32) (M : Mem) : Mem := if (rd M 0 5) = 0 then (F_12_clause_326 x1 (wr M 3 ((3 : Int32).toNatClampNeg) ((rd M 3 ((3 : Int32).toNatClampNeg)) ||| ((1 : Int32) <<< (xs0 &&& 31))))) else (F_12_clause_326 x1 M)
def P_12_clause_273 (x1 : Int32) (xs0 : Int32) (M : Mem) : Prop := ((¬ (rd M 0 5) = 0 → P_12_clause_326 x1 M) ∧ ((rd M 0 5) = 0 → (P_12_clause_326 x1 (wr M 3 ((3 : Int32).toNatClampNeg) ((rd M 3 ((3 : Int32).toNatClampNeg)) ||| ((1 : Int32) <<< (xs0 &&& 31)))))))
theorem T_12_clause_273 {g : Gl} (x1 : Int32) (xs0 : Int32) (M : Mem) (hp : P_12_clause_273 x1 xs0 M) : Rn g 5 m12_clause 273 [some (.ref 0), some (.int x1), none, none] [.int xs0] M (none) ((F_12_clause_273 x1 xs0 M)) := by
  rw [F_12_clause_273]
  rw [P_12_clause_273] at hp
  refine b12_clause_273  (fun h => ?_) (fun h => ?_)
  · rw [if_neg h]
    have hp := hp.1 h
    exact T_12_clause_326 x1 M hp
  · rw [if_pos h]
    have hp := hp.2 h
    refine b12_clause_281 (vpl (by decide)) ?_
    exact T_12_clause_326 x1 (wr M 3 ((3 : Int32).toNatClampNeg) ((rd M 3 ((3 : Int32).toNatClampNeg)) ||| ((1 : Int32) <<< (xs0 &&& 31)))) hp
def F_12_clause_308 (x1 : Int32) (x2 : Int32) (xs0 : Int32) (M : Mem) : Mem := if (rd M 0 5) = 0 then (F_12_clause_326 x1 (wr M 7 x2.toNatClampNeg xs0)) else (F_12_clause_326 x1 M)
def P_12_clause_308 (x1 : Int32) (x2 : Int32) (xs0 : Int32) (M : Mem) : Prop := ((¬ (rd M 0 5) = 0 → P_12_clause_326 x1 M) ∧ ((rd M 0 5) = 0 → (vp_in x2 10) ∧ (P_12_clause_326 x1 (wr M 7 x2.toNatClampNeg xs0))))
theorem T_12_clause_308 {g : Gl} (x1 : Int32) (x2 : Int32) (xs0 : Int32) (M : Mem) (hp : P_12_clause_308 x1 x2 xs0 M) : Rn g 5 m12_clause 308 [some (.ref 0), some (.int x1), some (.int x2), none] [.int xs0] M (none) ((F_12_clause_308 x1 x2 xs0 M)) := by
  rw [F_12_clause_308]
  rw [P_12_clause_308] at hp
  refine b12_clause_308  (fun h => ?_) (fun h => ?_)
  · rw [if_neg h]
    have hp := hp.1 h
    exact T_12_clause_326 x1 M hp
  · rw [if_pos h]
    have hp := hp.2 h
    obtain ⟨p0, hp⟩ := hp
    refine b12_clause_316 p0 ?_
    exact T_12_clause_326 x1 (wr M 7 x2.toNatClampNeg xs0) hp
def F_12_clause_300 (x1 : Int32) (xs0 : Int32) (M : Mem) : Mem := F_12_clause_308 x1 xs0 ((F_12_number_0 0 16 M).1) ((F_12_number_0 0 16 M).2)
def P_12_clause_300 (x1 : Int32) (xs0 : Int32) (M : Mem) : Prop := ((P_12_number_0 0 16 M) ∧ (P_12_clause_308 x1 xs0 ((F_12_number_0 0 16 M).1) ((F_12_number_0 0 16 M).2)))
theorem T_12_clause_300 {g : Gl} (x1 : Int32) (xs0 : Int32) (M : Mem) (hp : P_12_clause_300 x1 xs0 M) : Rn g 5 m12_clause 300 [some (.ref 0), some (.int x1), none, none] [.int xs0] M (none) ((F_12_clause_300 x1 xs0 M)) := by
  rw [F_12_clause_300]
  rw [P_12_clause_300] at hp
  obtain ⟨hc, hp⟩ := hp
  refine b12_clause_300  (C_12_number 0 16 M hc) (Nat.le_of_ble_eq_true rfl) ?_
  exact T_12_clause_308 x1 xs0 ((F_12_number_0 0 16 M).1) ((F_12_number_0 0 16 M).2) hp
def F_12_clause_99 (x1 : Int32) (M : Mem) : Mem := (if x1 = 0 then (F_12_clause_157 x1 ((F_12_number_0 0 7 (wr M 0 7 ((rd M 0 7) + 1))).1) (rd (wr M 0 7 ((rd M 0 7) + 1)) 3 ((0 : Int32).toNatClampNeg)) ((F_12_number_0 0 7 (wr M 0 7 ((rd M 0 7) + 1))).2)) else (if x1 = 1 then (F_12_clause_179 x1 ((rd (wr M 0 7 ((rd M 0 7) + 1)) 3 ((1 : Int32).toNatClampNeg)).toNatClampNeg) ((F_12_roomHere_0 (wr M 0 7 ((rd M 0 7) + 1))).1) 0 ((rd (wr M 0 7 ((rd M 0 7) + 1)) 3 ((1 : Int32).toNatClampNeg)).toNatClampNeg) ((F_12_roomHere_0 (wr M 0 7 ((rd M 0 7) + 1))).2)) else (if x1 = 2 then (F_12_clause_265 x1 ((F_12_roomHere_0 (wr M 0 7 ((rd M 0 7) + 1))).1) (rd (wr M 0 7 ((rd M 0 7) + 1)) 3 ((2 : Int32).toNatClampNeg)) ((F_12_roomHere_0 (wr M 0 7 ((rd M 0 7) + 1))).2)) else (if x1 = 3 then (F_12_clause_273 x1 ((F_12_roomHere_0 (wr M 0 7 ((rd M 0 7) + 1))).1) ((F_12_roomHere_0 (wr M 0 7 ((rd M 0 7) + 1))).2)) else (F_12_clause_300 x1 ((F_12_roomHere_0 (wr M 0 7 ((rd M 0 7) + 1))).1) ((F_12_roomHere_0 (wr M 0 7 ((rd M 0 7) + 1))).2))))))
def P_12_clause_99 (x1 : Int32) (M : Mem) : Prop := ((x1 = 0 → ((P_12_number_0 0 7 (wr M 0 7 ((rd M 0 7) + 1))) ∧ (P_12_clause_157 x1 ((F_12_number_0 0 7 (wr M 0 7 ((rd M 0 7) + 1))).1) (rd (wr M 0 7 ((rd M 0 7) + 1)) 3 ((0 : Int32).toNatClampNeg)) ((F_12_number_0 0 7 (wr M 0 7 ((rd M 0 7) + 1))).2)))) ∧ (x1 = 1 → (vp_in (rd (wr M 0 7 ((rd M 0 7) + 1)) 3 ((1 : Int32).toNatClampNeg)) 24) ∧ ((P_12_roomHere_0 (wr M 0 7 ((rd M 0 7) + 1))) ∧ (P_12_clause_179 x1 ((rd (wr M 0 7 ((rd M 0 7) + 1)) 3 ((1 : Int32).toNatClampNeg)).toNatClampNeg) ((F_12_roomHere_0 (wr M 0 7 ((rd M 0 7) + 1))).1) 0 ((rd (wr M 0 7 ((rd M 0 7) + 1)) 3 ((1 : Int32).toNatClampNeg)).toNatClampNeg) ((F_12_roomHere_0 (wr M 0 7 ((rd M 0 7) + 1))).2)))) ∧ (x1 = 2 → ((P_12_roomHere_0 (wr M 0 7 ((rd M 0 7) + 1))) ∧ (P_12_clause_265 x1 ((F_12_roomHere_0 (wr M 0 7 ((rd M 0 7) + 1))).1) (rd (wr M 0 7 ((rd M 0 7) + 1)) 3 ((2 : Int32).toNatClampNeg)) ((F_12_roomHere_0 (wr M 0 7 ((rd M 0 7) + 1))).2)))) ∧ (x1 = 3 → ((P_12_roomHere_0 (wr M 0 7 ((rd M 0 7) + 1))) ∧ (P_12_clause_273 x1 ((F_12_roomHere_0 (wr M 0 7 ((rd M 0 7) + 1))).1) ((F_12_roomHere_0 (wr M 0 7 ((rd M 0 7) + 1))).2)))) ∧ (¬ x1 = 0 ∧ ¬ x1 = 1 ∧ ¬ x1 = 2 ∧ ¬ x1 = 3 → ((P_12_roomHere_0 (wr M 0 7 ((rd M 0 7) + 1))) ∧ (P_12_clause_300 x1 ((F_12_roomHere_0 (wr M 0 7 ((rd M 0 7) + 1))).1) ((F_12_roomHere_0 (wr M 0 7 ((rd M 0 7) + 1))).2)))))
theorem T_12_clause_99 {g : Gl} (x1 : Int32) (M : Mem) (hp : P_12_clause_99 x1 M) : Rn g 5 m12_clause 99 [some (.ref 0), some (.int x1), none, none] [] M (none) ((F_12_clause_99 x1 M)) := by
  rw [F_12_clause_99]
  rw [P_12_clause_99] at hp
  by_cases h0 : x1 = 0
  · rw [if_pos h0]
    have hp := hp.1 h0
    refine b12_clause_99_c0  h0 ?_
    obtain ⟨hc, hp⟩ := hp
    refine b12_clause_140 (vpl (by decide)) (C_12_number 0 7 (wr M 0 7 ((rd M 0 7) + 1)) hc) (Nat.le_of_ble_eq_true rfl) ?_
    exact T_12_clause_157 x1 ((F_12_number_0 0 7 (wr M 0 7 ((rd M 0 7) + 1))).1) (rd (wr M 0 7 ((rd M 0 7) + 1)) 3 ((0 : Int32).toNatClampNeg)) ((F_12_number_0 0 7 (wr M 0 7 ((rd M 0 7) + 1))).2) hp
  rw [if_neg h0]
  by_cases h1 : x1 = 1
  · rw [if_pos h1]
    have hp := hp.2.1 h1
    refine b12_clause_99_c1  h1 ?_
    obtain ⟨p0, hp⟩ := hp
    obtain ⟨hc, hp⟩ := hp
    refine b12_clause_161 (vpl (by decide)) p0 (C_12_roomHere  (wr M 0 7 ((rd M 0 7) + 1)) hc) (Nat.le_of_ble_eq_true rfl) ?_
    exact T_12_clause_179 x1 ((rd (wr M 0 7 ((rd M 0 7) + 1)) 3 ((1 : Int32).toNatClampNeg)).toNatClampNeg) ((F_12_roomHere_0 (wr M 0 7 ((rd M 0 7) + 1))).1) 0 ((rd (wr M 0 7 ((rd M 0 7) + 1)) 3 ((1 : Int32).toNatClampNeg)).toNatClampNeg) ((F_12_roomHere_0 (wr M 0 7 ((rd M 0 7) + 1))).2) hp
  rw [if_neg h1]
  by_cases h2 : x1 = 2
  · rw [if_pos h2]
    have hp := hp.2.2.1 h2
    refine b12_clause_99_c2  h2 ?_
    obtain ⟨hc, hp⟩ := hp
    refine b12_clause_251 (vpl (by decide)) (C_12_roomHere  (wr M 0 7 ((rd M 0 7) + 1)) hc) (Nat.le_of_ble_eq_true rfl) ?_
    exact T_12_clause_265 x1 ((F_12_roomHere_0 (wr M 0 7 ((rd M 0 7) + 1))).1) (rd (wr M 0 7 ((rd M 0 7) + 1)) 3 ((2 : Int32).toNatClampNeg)) ((F_12_roomHere_0 (wr M 0 7 ((rd M 0 7) + 1))).2) hp
  rw [if_neg h2]
  by_cases h3 : x1 = 3
  · rw [if_pos h3]
    have hp := hp.2.2.2.1 h3
    refine b12_clause_99_c3  h3 ?_
    obtain ⟨hc, hp⟩ := hp
    refine b12_clause_269  (C_12_roomHere  (wr M 0 7 ((rd M 0 7) + 1)) hc) (Nat.le_of_ble_eq_true rfl) ?_
    exact T_12_clause_273 x1 ((F_12_roomHere_0 (wr M 0 7 ((rd M 0 7) + 1))).1) ((F_12_roomHere_0 (wr M 0 7 ((rd M 0 7) + 1))).2) hp
  rw [if_neg h3]
  have hp := hp.2.2.2.2 ⟨h0, h1, h2, h3⟩
  refine b12_clause_99_d  (sw_out (x := x1) (lo := 0) (hi := 3) (by intro z ha hb e; rcases (show z = 0 ∨ z = 1 ∨ z = 2 ∨ z = 3 by omega) with r | r | r | r <;> subst r <;> first | exact h0 (Int32.toInt_inj.mp (e.trans (by decide))) | exact h1 (Int32.toInt_inj.mp (e.trans (by decide))) | exact h2 (Int32.toInt_inj.mp (e.trans (by decide))) | exact h3 (Int32.toInt_inj.mp (e.trans (by decide))))) ?_
  obtain ⟨hc, hp⟩ := hp
  refine b12_clause_296  (C_12_roomHere  (wr M 0 7 ((rd M 0 7) + 1)) hc) (Nat.le_of_ble_eq_true rfl) ?_
  exact T_12_clause_300 x1 ((F_12_roomHere_0 (wr M 0 7 ((rd M 0 7) + 1))).1) ((F_12_roomHere_0 (wr M 0 7 ((rd M 0 7) + 1))).2) hp
def F_12_clause_87 (x1 : Int32) (M : Mem) : Mem := if (rd M 0 5) = 0 then (F_12_clause_99 x1 (F_12_skipWord_0 FU M)) else (M)
def P_12_clause_87 (x1 : Int32) (M : Mem) : Prop := (((rd M 0 5) = 0 → ((P_12_skipWord_0 FU M) ∧ (P_12_clause_99 x1 (F_12_skipWord_0 FU M)))) ∧ (¬ (rd M 0 5) = 0 → True))
theorem T_12_clause_87 {g : Gl} (x1 : Int32) (M : Mem) (hp : P_12_clause_87 x1 M) : Rn g 5 m12_clause 87 [some (.ref 0), some (.int x1), none, none] [] M (none) ((F_12_clause_87 x1 M)) := by
  rw [F_12_clause_87]
  rw [P_12_clause_87] at hp
  refine b12_clause_87  (fun h => ?_) (fun h => ?_)
  · rw [if_pos h]
    have hp := hp.1 h
    obtain ⟨hc, hp⟩ := hp
    refine b12_clause_95  (C_12_skipWord  M hc) (Nat.le_of_ble_eq_true rfl) ?_
    exact T_12_clause_99 x1 (F_12_skipWord_0 FU M) hp
  · rw [if_neg h]
    exact b12_clause_94  rfl rfl
def F_12_clause_19 (x1 : Int32) (M : Mem) : Mem := F_12_clause_87 x1 M
def P_12_clause_19 (x1 : Int32) (M : Mem) : Prop := (P_12_clause_87 x1 M)
theorem T_12_clause_19 {g : Gl} (x1 : Int32) (M : Mem) (hp : P_12_clause_19 x1 M) : Rn g 5 m12_clause 19 [some (.ref 0), some (.int x1), none, none] [] M (none) ((F_12_clause_19 x1 M)) := by
  rw [F_12_clause_19]
  rw [P_12_clause_19] at hp
  refine b12_clause_19  ?_
  exact T_12_clause_87 x1 M hp
def F_12_clause_78 (x1 : Int32) (M : Mem) : Mem := F_12_clause_87 x1 (F_12_wrong_0 3 (rd M 0 4) M)
def P_12_clause_78 (x1 : Int32) (M : Mem) : Prop := ((P_12_clause_87 x1 (F_12_wrong_0 3 (rd M 0 4) M)))
theorem T_12_clause_78 {g : Gl} (x1 : Int32) (M : Mem) (hp : P_12_clause_78 x1 M) : Rn g 5 m12_clause 78 [some (.ref 0), some (.int x1), none, none] [] M (none) ((F_12_clause_78 x1 M)) := by
  rw [F_12_clause_78]
  rw [P_12_clause_78] at hp
  refine b12_clause_78  (C_12_wrong 3 (rd M 0 4) M) (Nat.le_of_ble_eq_true rfl) ?_
  exact T_12_clause_87 x1 (F_12_wrong_0 3 (rd M 0 4) M) hp
def F_12_clause_62 (x1 : Int32) (M : Mem) : Mem := if x1 = 2 then (if (rd M 3 ((2 : Int32).toNatClampNeg)) = 6 then (F_12_clause_78 x1 M) else (F_12_clause_87 x1 M)) else (F_12_clause_87 x1 M)
def P_12_clause_62 (x1 : Int32) (M : Mem) : Prop := ((¬ x1 = 2 → P_12_clause_87 x1 M) ∧ (x1 = 2 → ((¬ (rd M 3 ((2 : Int32).toNatClampNeg)) = 6 → P_12_clause_87 x1 M) ∧ ((rd M 3 ((2 : Int32).toNatClampNeg)) = 6 → P_12_clause_78 x1 M))))
theorem T_12_clause_62 {g : Gl} (x1 : Int32) (M : Mem) (hp : P_12_clause_62 x1 M) : Rn g 5 m12_clause 62 [some (.ref 0), some (.int x1), none, none] [] M (none) ((F_12_clause_62 x1 M)) := by
  rw [F_12_clause_62]
  rw [P_12_clause_62] at hp
  refine b12_clause_62  (fun h => ?_) (fun h => ?_)
  · rw [if_neg h]
    have hp := hp.1 h
    exact T_12_clause_87 x1 M hp
  · rw [if_pos h]
    have hp := hp.2 h
    refine b12_clause_67 (vpl (by decide)) (fun h => ?_) (fun h => ?_)
    · rw [if_neg h]
      have hp := hp.1 h
      exact T_12_clause_87 x1 M hp
    · rw [if_pos h]
      have hp := hp.2 h
      exact T_12_clause_78 x1 M hp
def F_12_clause_46 (x1 : Int32) (M : Mem) : Mem := if x1 = 1 then (if (rd M 3 ((1 : Int32).toNatClampNeg)) = 24 then (F_12_clause_78 x1 M) else (F_12_clause_62 x1 M)) else (F_12_clause_62 x1 M)
def P_12_clause_46 (x1 : Int32) (M : Mem) : Prop := ((¬ x1 = 1 → P_12_clause_62 x1 M) ∧ (x1 = 1 → (((rd M 3 ((1 : Int32).toNatClampNeg)) = 24 → P_12_clause_78 x1 M) ∧ (¬ (rd M 3 ((1 : Int32).toNatClampNeg)) = 24 → P_12_clause_62 x1 M))))
theorem T_12_clause_46 {g : Gl} (x1 : Int32) (M : Mem) (hp : P_12_clause_46 x1 M) : Rn g 5 m12_clause 46 [some (.ref 0), some (.int x1), none, none] [] M (none) ((F_12_clause_46 x1 M)) := by
  rw [F_12_clause_46]
  rw [P_12_clause_46] at hp
  refine b12_clause_46  (fun h => ?_) (fun h => ?_)
  · rw [if_neg h]
    have hp := hp.1 h
    exact T_12_clause_62 x1 M hp
  · rw [if_pos h]
    have hp := hp.2 h
    refine b12_clause_51 (vpl (by decide)) (fun h => ?_) (fun h => ?_)
    · rw [if_pos h]
      have hp := hp.1 h
      exact T_12_clause_78 x1 M hp
    · rw [if_neg h]
      have hp := hp.2 h
      exact T_12_clause_62 x1 M hp
def F_12_clause_4 (xs0 : Int32) (M : Mem) : Mem := if xs0 = (-1) then (F_12_clause_19 xs0 (F_12_wrong_0 1 (rd M 0 4) M)) else (if (rd M 0 7) = 60 then (F_12_clause_78 xs0 M) else (if xs0 = 0 then (if (rd M 3 ((0 : Int32).toNatClampNeg)) = 10 then (F_12_clause_78 xs0 M) else (F_12_clause_46 xs0 M)) else (F_12_clause_46 xs0 M)))
def P_12_clause_4 (xs0 : Int32) (M : Mem) : Prop := ((¬ xs0 = (-1) → (((rd M 0 7) = 60 → P_12_clause_78 xs0 M) ∧ (¬ (rd M 0 7) = 60 → ((¬ xs0 = 0 → P_12_clause_46 xs0 M) ∧ (xs0 = 0 → (((rd M 3 ((0 : Int32).toNatClampNeg)) = 10 → P_12_clause_78 xs0 M) ∧ (¬ (rd M 3 ((0 : Int32).toNatClampNeg)) = 10 → P_12_clause_46 xs0 M))))))) ∧ (xs0 = (-1) → ((P_12_clause_19 xs0 (F_12_wrong_0 1 (rd M 0 4) M)))))
theorem T_12_clause_4 {g : Gl} (xs0 : Int32) (M : Mem) (hp : P_12_clause_4 xs0 M) : Rn g 5 m12_clause 4 [some (.ref 0), none, none, none] [.int xs0] M (none) ((F_12_clause_4 xs0 M)) := by
  rw [F_12_clause_4]
  rw [P_12_clause_4] at hp
  refine b12_clause_4  (fun h => ?_) (fun h => ?_)
  · rw [if_neg h]
    have hp := hp.1 h
    refine b12_clause_22  (fun h => ?_) (fun h => ?_)
    · rw [if_pos h]
      have hp := hp.1 h
      exact T_12_clause_78 xs0 M hp
    · rw [if_neg h]
      have hp := hp.2 h
      refine b12_clause_31  (fun h => ?_) (fun h => ?_)
      · rw [if_neg h]
        have hp := hp.1 h
        exact T_12_clause_46 xs0 M hp
      · rw [if_pos h]
        have hp := hp.2 h
        refine b12_clause_35 (vpl (by decide)) (fun h => ?_) (fun h => ?_)
        · rw [if_pos h]
          have hp := hp.1 h
          exact T_12_clause_78 xs0 M hp
        · rw [if_neg h]
          have hp := hp.2 h
          exact T_12_clause_46 xs0 M hp
  · rw [if_pos h]
    have hp := hp.2 h
    refine b12_clause_10  (C_12_wrong 1 (rd M 0 4) M) (Nat.le_of_ble_eq_true rfl) ?_
    exact T_12_clause_19 xs0 (F_12_wrong_0 1 (rd M 0 4) M) hp
def F_12_clause_0 (M : Mem) : Mem := F_12_clause_4 ((F_12_kindHere_0 M).1) ((F_12_kindHere_0 M).2)
def P_12_clause_0 (M : Mem) : Prop := ((P_12_kindHere_0 M) ∧ (P_12_clause_4 ((F_12_kindHere_0 M).1) ((F_12_kindHere_0 M).2)))
theorem T_12_clause_0 {g : Gl} (M : Mem) (hp : P_12_clause_0 M) : Rn g 5 m12_clause 0 [some (.ref 0), none, none, none] [] M (none) ((F_12_clause_0 M)) := by
  rw [F_12_clause_0]
  rw [P_12_clause_0] at hp
  obtain ⟨hc, hp⟩ := hp
  refine b12_clause_0  (C_12_kindHere  M hc) (Nat.le_of_ble_eq_true rfl) ?_
  exact T_12_clause_4 ((F_12_kindHere_0 M).1) ((F_12_kindHere_0 M).2) hp
theorem C_12_clause {g : Gl}   (M : Mem) (hp : P_12_clause_0 M) : Ms g 5 m12_clause [.ref 0] M (none) ((F_12_clause_0 M)) := Ms.of okM_m12_clause (Nat.le_of_ble_eq_true rfl) (R_wk (lc rfl (ln (ln (ln l0)))) (T_12_clause_0 M hp))
