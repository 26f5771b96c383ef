def F_12_laysa_10 (k2 : Int32 → Int32 → Mem → Mem) : Nat → Int32 → Int32 → Int32 → Mem → Mem
  | 0, _, _, _, M => M
  | n + 1, x2, x3, x4, M => if 4 ≤ x4 then (k2 x2 (x3 + 1) M) else ((F_12_laysa_10 k2 n) x2 x3 (x4 + 1) (wr M (54 + x3.toNatClampNeg) x4.toNatClampNeg (rd M (30 + x3.toNatClampNeg) x4.toNatClampNeg)))
def P_12_laysa_10 (pk2 : Int32 → Int32 → Mem → Prop) : Nat → Int32 → Int32 → Int32 → Mem → Prop
  | 0, _, _, _, _ => False
  | n + 1, x2, x3, x4, M => (vp_in x3 24) ∧ (((4 ≤ x4 → (pk2 x2 (x3 + 1) M)) ∧ (¬ 4 ≤ x4 → (vp_in x3 24) ∧ (vp_in x4 4) ∧ ((P_12_laysa_10 pk2 n) x2 x3 (x4 + 1) (wr M (54 + x3.toNatClampNeg) x4.toNatClampNeg (rd M (30 + x3.toNatClampNeg) x4.toNatClampNeg))))))
theorem T_12_laysa_10 {g : Gl} (k2 : Int32 → Int32 → Mem → Mem) (pk2 : Int32 → Int32 → Mem → Prop) (ih2 : ∀ (x2 : Int32) (x3 : Int32) (M : Mem), pk2 x2 x3 M → Rn g 0 m12_lays 2 [some (.ref 11), some (.ref 12), some (.int x2), some (.int x3), none] [] M (none) ((k2 x2 x3 M))) : ∀ (n : Nat) (x2 : Int32) (x3 : Int32) (x4 : Int32) (M : Mem) (hp : P_12_laysa_10 pk2 n x2 x3 x4 M), Rn g 0 m12_lays 10 [some (.ref 11), some (.ref 12), some (.int x2), some (.int x3), some (.int x4)] [] M (none) ((F_12_laysa_10 k2 n x2 x3 x4 M)) := by
  intro n
  induction n with
  | zero => intro x2 x3 x4 M hp; exact hp.elim
  | succ n ih =>
    intro x2 x3 x4 M hp
    rw [F_12_laysa_10]
    rw [P_12_laysa_10] at hp
    obtain ⟨p0, hp⟩ := hp
    refine b12_laysa_10 p0 ?_
    refine b12_laysa_16  (fun h => ?_) (fun h => ?_)
    · rw [if_pos h]
      have hp := hp.1 h
      refine b12_laysa_37  ?_
      exact ih2 x2 (x3 + 1) M hp
    · rw [if_neg h]
      have hp := hp.2 h
      obtain ⟨p1, p2, hp⟩ := hp
      refine b12_laysa_19 p1 p2 ?_
      exact ih x2 x3 (x4 + 1) (wr M (54 + x3.toNatClampNeg) x4.toNatClampNeg (rd M (30 + x3.toNatClampNeg) x4.toNatClampNeg)) hp
def F_12_laysa_2  : Nat → Int32 → Int32 → Mem → Mem
  | 0, _, _, M => M
  | n + 1, x2, x3, M => if x2 ≤ x3 then (M) else (F_12_laysa_10 (F_12_laysa_2 n) FU x2 x3 0 M)
def P_12_laysa_2  : Nat → Int32 → Int32 → Mem → Prop
  | 0, _, _, _ => False
  | n + 1, x2, x3, M => ((x2 ≤ x3 → True) ∧ (¬ x2 ≤ x3 → (P_12_laysa_10 (P_12_laysa_2 n) FU x2 x3 0 M)))
theorem T_12_laysa_2 {g : Gl} : ∀ (n : Nat) (x2 : Int32) (x3 : Int32) (M : Mem) (hp : P_12_laysa_2 n x2 x3 M), Rn g 0 m12_lays 2 [some (.ref 11), some (.ref 12), some (.int x2), some (.int x3), none] [] M (none) ((F_12_laysa_2 n x2 x3 M)) := by
  intro n
  induction n with
  | zero => intro x2 x3 M hp; exact hp.elim
  | succ n ih =>
    intro x2 x3 M hp
    rw [F_12_laysa_2]
    rw [P_12_laysa_2] at hp
    refine b12_laysa_2  (fun h => ?_) (fun h => ?_)
    · rw [if_pos h]
      exact b12_laysa_43  rfl rfl
    · rw [if_neg h]
      have hp := hp.2 h
      refine b12_laysa_7  ?_
      exact T_12_laysa_10 (F_12_laysa_2 n) (P_12_laysa_2 n) ih FU x2 x3 0 M hp
def F_12_laysa_0 (x2 : Int32) (M : Mem) : Mem := F_12_laysa_2 FU x2 0 M
def P_12_laysa_0 (x2 : Int32) (M : Mem) : Prop := (P_12_laysa_2 FU x2 0 M)
theorem T_12_laysa_0 {g : Gl} (x2 : Int32) (M : Mem) (hp : P_12_laysa_0 x2 M) : Rn g 0 m12_lays 0 [some (.ref 11), some (.ref 12), some (.int x2), none, none] [] M (none) ((F_12_laysa_0 x2 M)) := by
  rw [F_12_laysa_0]
  rw [P_12_laysa_0] at hp
  refine b12_laysa_0  ?_
  exact T_12_laysa_2 FU x2 0 M hp
theorem C_12_laysa {g : Gl}  (x2 : Int32) (M : Mem) (hp : P_12_laysa_0 x2 M) : Ms g 0 m12_lays [.ref 11, .ref 12, .int x2] M (none) ((F_12_laysa_0 x2 M)) := Ms.of okM_m12_lays (Nat.le_of_ble_eq_true rfl) (R_wk (lc rfl (lc rfl (lc rfl (ln (ln l0))))) (T_12_laysa_0 x2 M hp))
def F_12_laysb_10 (k2 : Int32 → Int32 → Mem → Mem) : Nat → Int32 → Int32 → Int32 → Mem → Mem
  | 0, _, _, _, M => M
  | n + 1, x2, x3, x4, M => if 2 ≤ x4 then (k2 x2 (x3 + 1) M) else ((F_12_laysb_10 k2 n) x2 x3 (x4 + 1) (wr M (78 + x3.toNatClampNeg) x4.toNatClampNeg (rd M (238 + x3.toNatClampNeg) x4.toNatClampNeg)))
def P_12_laysb_10 (pk2 : Int32 → Int32 → Mem → Prop) : Nat → Int32 → Int32 → Int32 → Mem → Prop
  | 0, _, _, _, _ => False
  | n + 1, x2, x3, x4, M => (vp_in x3 160) ∧ (((2 ≤ x4 → (pk2 x2 (x3 + 1) M)) ∧ (¬ 2 ≤ x4 → (vp_in x3 160) ∧ (vp_in x4 2) ∧ ((P_12_laysb_10 pk2 n) x2 x3 (x4 + 1) (wr M (78 + x3.toNatClampNeg) x4.toNatClampNeg (rd M (238 + x3.toNatClampNeg) x4.toNatClampNeg))))))
theorem T_12_laysb_10 {g : Gl} (k2 : Int32 → Int32 → Mem → Mem) (pk2 : Int32 → Int32 → Mem → Prop) (ih2 : ∀ (x2 : Int32) (x3 : Int32) (M : Mem), pk2 x2 x3 M → Rn g 0 m12_lays 2 [some (.ref 14), some (.ref 13), some (.int x2), some (.int x3), none] [] M (none) ((k2 x2 x3 M))) : ∀ (n : Nat) (x2 : Int32) (x3 : Int32) (x4 : Int32) (M : Mem) (hp : P_12_laysb_10 pk2 n x2 x3 x4 M), Rn g 0 m12_lays 10 [some (.ref 14), some (.ref 13), some (.int x2), some (.int x3), some (.int x4)] [] M (none) ((F_12_laysb_10 k2 n x2 x3 x4 M)) := by
  intro n
  induction n with
  | zero => intro x2 x3 x4 M hp; exact hp.elim
  | succ n ih =>
    intro x2 x3 x4 M hp
    rw [F_12_laysb_10]
    rw [P_12_laysb_10] at hp
    obtain ⟨p0, hp⟩ := hp
    refine b12_laysb_10 p0 ?_
    refine b12_laysb_16  (fun h => ?_) (fun h => ?_)
    · rw [if_pos h]
      have hp := hp.1 h
      refine b12_laysb_37  ?_
      exact ih2 x2 (x3 + 1) M hp
    · rw [if_neg h]
      have hp := hp.2 h
      obtain ⟨p1, p2, hp⟩ := hp
      refine b12_laysb_19 p1 p2 ?_
      exact ih x2 x3 (x4 + 1) (wr M (78 + x3.toNatClampNeg) x4.toNatClampNeg (rd M (238 + x3.toNatClampNeg) x4.toNatClampNeg)) hp
def F_12_laysb_2  : Nat → Int32 → Int32 → Mem → Mem
  | 0, _, _, M => M
  | n + 1, x2, x3, M => if x2 ≤ x3 then (M) else (F_12_laysb_10 (F_12_laysb_2 n) FU x2 x3 0 M)
def P_12_laysb_2  : Nat → Int32 → Int32 → Mem → Prop
  | 0, _, _, _ => False
  | n + 1, x2, x3, M => ((x2 ≤ x3 → True) ∧ (¬ x2 ≤ x3 → (P_12_laysb_10 (P_12_laysb_2 n) FU x2 x3 0 M)))
theorem T_12_laysb_2 {g : Gl} : ∀ (n : Nat) (x2 : Int32) (x3 : Int32) (M : Mem) (hp : P_12_laysb_2 n x2 x3 M), Rn g 0 m12_lays 2 [some (.ref 14), some (.ref 13), some (.int x2), some (.int x3), none] [] M (none) ((F_12_laysb_2 n x2 x3 M)) := by
  intro n
  induction n with
  | zero => intro x2 x3 M hp; exact hp.elim
  | succ n ih =>
    intro x2 x3 M hp
    rw [F_12_laysb_2]
    rw [P_12_laysb_2] at hp
    refine b12_laysb_2  (fun h => ?_) (fun h => ?_)
    · rw [if_pos h]
      exact b12_laysb_43  rfl rfl
    · rw [if_neg h]
      have hp := hp.2 h
      refine b12_laysb_7  ?_
      exact T_12_laysb_10 (F_12_laysb_2 n) (P_12_laysb_2 n) ih FU x2 x3 0 M hp
def F_12_laysb_0 (x2 : Int32) (M : Mem) : Mem := F_12_laysb_2 FU x2 0 M
def P_12_laysb_0 (x2 : Int32) (M : Mem) : Prop := (P_12_laysb_2 FU x2 0 M)
theorem T_12_laysb_0 {g : Gl} (x2 : Int32) (M : Mem) (hp : P_12_laysb_0 x2 M) : Rn g 0 m12_lays 0 [some (.ref 14), some (.ref 13), some (.int x2), none, none] [] M (none) ((F_12_laysb_0 x2 M)) := by
  rw [F_12_laysb_0]
  rw [P_12_laysb_0] at hp
  refine b12_laysb_0  ?_
  exact T_12_laysb_2 FU x2 0 M hp
theorem C_12_laysb {g : Gl}  (x2 : Int32) (M : Mem) (hp : P_12_laysb_0 x2 M) : Ms g 0 m12_lays [.ref 14, .ref 13, .int x2] M (none) ((F_12_laysb_0 x2 M)) := Ms.of okM_m12_lays (Nat.le_of_ble_eq_true rfl) (R_wk (lc rfl (lc rfl (lc rfl (ln (ln l0))))) (T_12_laysb_0 x2 M hp))
def F_12_beginsAnew_103  : Nat → Int32 → Mem → Mem
  | 0, _, M => M
  | n + 1, x1, M => if (rd M 4 ((2 : Int32).toNatClampNeg)) ≤ x1 then (wr (wr (wr (wr (wr M 0 21 0) 0 35 0) 0 36 0) 0 37 0) 0 38 0) else ((F_12_beginsAnew_103 n) (x1 + 1) (wr (wr M 10 x1.toNatClampNeg (rd M 9 x1.toNatClampNeg)) 20 ((0 + x1).toNatClampNeg) (rd (wr M 10 x1.toNatClampNeg (rd M 9 x1.toNatClampNeg)) 10 x1.toNatClampNeg)))
def P_12_beginsAnew_103  : Nat → Int32 → Mem → Prop
  | 0, _, _ => False
  | n + 1, x1, M => (((rd M 4 ((2 : Int32).toNatClampNeg)) ≤ x1 → True) ∧ (¬ (rd M 4 ((2 : Int32).toNatClampNeg)) ≤ x1 → (vp_in x1 6) ∧ (vp_in (0 + x1) 56) ∧ ((P_12_beginsAnew_103 n) (x1 + 1) (wr (wr M 10 x1.toNatClampNeg (rd M 9 x1.toNatClampNeg)) 20 ((0 + x1).toNatClampNeg) (rd (wr M 10 x1.toNatClampNeg (rd M 9 x1.toNatClampNeg)) 10 x1.toNatClampNeg)))))
theorem T_12_beginsAnew_103 {g : Gl} : ∀ (n : Nat) (x1 : Int32) (M : Mem) (hp : P_12_beginsAnew_103 n x1 M), Rn g 1 m12_beginsAnew 103 [some (.ref 0), some (.int x1)] [] M (none) ((F_12_beginsAnew_103 n x1 M)) := by
  intro n
  induction n with
  | zero => intro x1 M hp; exact hp.elim
  | succ n ih =>
    intro x1 M hp
    rw [F_12_beginsAnew_103]
    rw [P_12_beginsAnew_103] at hp
    refine b12_beginsAnew_103 (vpl (by decide)) (fun h => ?_) (fun h => ?_)
    · rw [if_pos h]
      exact b12_beginsAnew_145  rfl rfl
    · rw [if_neg h]
      have hp := hp.2 h
      obtain ⟨p0, p1, hp⟩ := hp
      refine b12_beginsAnew_113 p0 p1 ?_
      exact ih (x1 + 1) (wr (wr M 10 x1.toNatClampNeg (rd M 9 x1.toNatClampNeg)) 20 ((0 + x1).toNatClampNeg) (rd (wr M 10 x1.toNatClampNeg (rd M 9 x1.toNatClampNeg)) 10 x1.toNatClampNeg)) hp
def F_12_beginsAnew_82  : Nat → Int32 → Mem → Mem
  | 0, _, M => M
  | n + 1, x1, M => if (56 : Int32) ≤ x1 then (F_12_beginsAnew_103 FU 0 M) else ((F_12_beginsAnew_82 n) (x1 + 1) (wr M 20 x1.toNatClampNeg 0))
def P_12_beginsAnew_82  : Nat → Int32 → Mem → Prop
  | 0, _, _ => False
  | n + 1, x1, M => (((56 : Int32) ≤ x1 → (P_12_beginsAnew_103 FU 0 M)) ∧ (¬ (56 : Int32) ≤ x1 → (vp_in x1 56) ∧ ((P_12_beginsAnew_82 n) (x1 + 1) (wr M 20 x1.toNatClampNeg 0))))
theorem T_12_beginsAnew_82 {g : Gl} : ∀ (n : Nat) (x1 : Int32) (M : Mem) (hp : P_12_beginsAnew_82 n x1 M), Rn g 1 m12_beginsAnew 82 [some (.ref 0), some (.int x1)] [] M (none) ((F_12_beginsAnew_82 n x1 M)) := by
  intro n
  induction n with
  | zero => intro x1 M hp; exact hp.elim
  | succ n ih =>
    intro x1 M hp
    rw [F_12_beginsAnew_82]
    rw [P_12_beginsAnew_82] at hp
    refine b12_beginsAnew_82  (fun h => ?_) (fun h => ?_)
    · rw [if_pos h]
      have hp := hp.1 h
      refine b12_beginsAnew_101  ?_
      exact T_12_beginsAnew_103 FU 0 M hp
    · rw [if_neg h]
      have hp := hp.2 h
      obtain ⟨p0, hp⟩ := hp
      refine b12_beginsAnew_88 p0 ?_
      exact ih (x1 + 1) (wr M 20 x1.toNatClampNeg 0) hp
def F_12_beginsAnew_80 (M : Mem) : Mem := F_12_beginsAnew_82 FU 0 M
def P_12_beginsAnew_80 (M : Mem) : Prop := (P_12_beginsAnew_82 FU 0 M)
theorem T_12_beginsAnew_80 {g : Gl} (M : Mem) (hp : P_12_beginsAnew_80 M) : Rn g 1 m12_beginsAnew 80 [some (.ref 0), none] [] M (none) ((F_12_beginsAnew_80 M)) := by
  rw [F_12_beginsAnew_80]
  rw [P_12_beginsAnew_80] at hp
  refine b12_beginsAnew_80  ?_
  exact T_12_beginsAnew_82 FU 0 M hp
def F_12_beginsAnew_27  : Nat → Int32 → Mem → Mem
  | 0, _, M => M
  | n + 1, x1, M => if (10 : Int32) ≤ x1 then (F_12_beginsAnew_80 (F_12_laysa_0 (rd M 4 ((1 : Int32).toNatClampNeg)) M)) else ((F_12_beginsAnew_27 n) (x1 + 1) (wr (wr M 6 x1.toNatClampNeg (rd M 5 x1.toNatClampNeg)) 8 x1.toNatClampNeg (rd (wr M 6 x1.toNatClampNeg (rd M 5 x1.toNatClampNeg)) 7 x1.toNatClampNeg)))
def P_12_beginsAnew_27  : Nat → Int32 → Mem → Prop
  | 0, _, _ => False
  | n + 1, x1, M => (((10 : Int32) ≤ x1 → ((P_12_laysa_0 (rd M 4 ((1 : Int32).toNatClampNeg)) M) ∧ (P_12_beginsAnew_80 (F_12_laysa_0 (rd M 4 ((1 : Int32).toNatClampNeg)) M)))) ∧ (¬ (10 : Int32) ≤ x1 → (vp_in x1 10) ∧ ((P_12_beginsAnew_27 n) (x1 + 1) (wr (wr M 6 x1.toNatClampNeg (rd M 5 x1.toNatClampNeg)) 8 x1.toNatClampNeg (rd (wr M 6 x1.toNatClampNeg (rd M 5 x1.toNatClampNeg)) 7 x1.toNatClampNeg)))))
theorem T_12_beginsAnew_27 {g : Gl} : ∀ (n : Nat) (x1 : Int32) (M : Mem) (hp : P_12_beginsAnew_27 n x1 M), Rn g 1 m12_beginsAnew 27 [some (.ref 0), some (.int x1)] [] M (none) ((F_12_beginsAnew_27 n x1 M)) := by
  intro n
  induction n with
  | zero => intro x1 M hp; exact hp.elim
  | succ n ih =>
    intro x1 M hp
    rw [F_12_beginsAnew_27]
    rw [P_12_beginsAnew_27] at hp
    refine b12_beginsAnew_27  (fun h => ?_) (fun h => ?_)
    · rw [if_pos h]
      have hp := hp.1 h
      obtain ⟨hc, hp⟩ := hp
      refine b12_beginsAnew_63 (vpl (by decide)) (C_12_laysa (rd M 4 ((1 : Int32).toNatClampNeg)) M hc) (Nat.le_of_ble_eq_true rfl) ?_
      exact T_12_beginsAnew_80 (F_12_laysa_0 (rd M 4 ((1 : Int32).toNatClampNeg)) M) hp
    · rw [if_neg h]
      have hp := hp.2 h
      obtain ⟨p0, hp⟩ := hp
      refine b12_beginsAnew_33 p0 ?_
      exact ih (x1 + 1) (wr (wr M 6 x1.toNatClampNeg (rd M 5 x1.toNatClampNeg)) 8 x1.toNatClampNeg (rd (wr M 6 x1.toNatClampNeg (rd M 5 x1.toNatClampNeg)) 7 x1.toNatClampNeg)) hp
def F_12_beginsAnew_2  : Nat → Int32 → Mem → Mem
  | 0, _, M => M
  | n + 1, x1, M => if (4 : Int32) ≤ x1 then (F_12_beginsAnew_27 FU 0 M) else ((F_12_beginsAnew_2 n) (x1 + 1) (wr M 4 x1.toNatClampNeg (rd M 3 x1.toNatClampNeg)))
def P_12_beginsAnew_2  : Nat → Int32 → Mem → Prop
  | 0, _, _ => False
  | n + 1, x1, M => (((4 : Int32) ≤ x1 → (P_12_beginsAnew_27 FU 0 M)) ∧ (¬ (4 : Int32) ≤ x1 → (vp_in x1 4) ∧ ((P_12_beginsAnew_2 n) (x1 + 1) (wr M 4 x1.toNatClampNeg (rd M 3 x1.toNatClampNeg)))))
theorem T_12_beginsAnew_2 {g : Gl} : ∀ (n : Nat) (x1 : Int32) (M : Mem) (hp : P_12_beginsAnew_2 n x1 M), Rn g 1 m12_beginsAnew 2 [some (.ref 0), some (.int x1)] [] M (none) ((F_12_beginsAnew_2 n x1 M)) := by
  intro n
  induction n with
  | zero => intro x1 M hp; exact hp.elim
  | succ n ih =>
    intro x1 M hp
    rw [F_12_beginsAnew_2]
    rw [P_12_beginsAnew_2] at hp
    refine b12_beginsAnew_2  (fun h => ?_) (fun h => ?_)
    · rw [if_pos h]
      have hp := hp.1 h
      refine b12_beginsAnew_25  ?_
      exact T_12_beginsAnew_27 FU 0 M hp
    · rw [if_neg h]
      have hp := hp.2 h
      obtain ⟨p0, hp⟩ := hp
      refine b12_beginsAnew_7 p0 ?_
      exact ih (x1 + 1) (wr M 4 x1.toNatClampNeg (rd M 3 x1.toNatClampNeg)) hp
def F_12_beginsAnew_0 (M : Mem) : Mem := F_12_beginsAnew_2 FU 0 M
def P_12_beginsAnew_0 (M : Mem) : Prop := (P_12_beginsAnew_2 FU 0 M)
theorem T_12_beginsAnew_0 {g : Gl} (M : Mem) (hp : P_12_beginsAnew_0 M) : Rn g 1 m12_beginsAnew 0 [some (.ref 0), none] [] M (none) ((F_12_beginsAnew_0 M)) := by
  rw [F_12_beginsAnew_0]
  rw [P_12_beginsAnew_0] at hp
  refine b12_beginsAnew_0  ?_
  exact T_12_beginsAnew_2 FU 0 M hp
theorem C_12_beginsAnew {g : Gl}   (M : Mem) (hp : P_12_beginsAnew_0 M) : Ms g 1 m12_beginsAnew [.ref 0] M (none) ((F_12_beginsAnew_0 M)) := Ms.of okM_m12_beginsAnew (Nat.le_of_ble_eq_true rfl) (R_wk (lc rfl (ln l0)) (T_12_beginsAnew_0 M hp))
def F_12_museum_68 (k42 : Mem → Int32 × Mem) (M : Mem) : Int32 × Mem := k42 M
def P_12_museum_68 (pk42 : Mem → Prop) (M : Mem) : Prop := (pk42 M)
theorem T_12_museum_68 {g : Gl} (k42 : Mem → Int32 × Mem) (pk42 : Mem → Prop) (ih42 : ∀  (M : Mem), pk42 M → Rn g 6 m12_museum 42 [some (.ref 0), none] [] M (some (.int (k42 M).1)) ((k42 M).2)) (M : Mem) (hp : P_12_museum_68 pk42 M) : Rn g 6 m12_museum 68 [some (.ref 0), none] [] M (some (.int (F_12_museum_68 k42 M).1)) ((F_12_museum_68 k42 M).2) := by
  rw [F_12_museum_68]
  rw [P_12_museum_68] at hp
  refine b12_museum_68  ?_
  exact ih42 M hp
def F_12_museum_64 (k42 : Mem → Int32 × Mem) (M : Mem) : Int32 × Mem := F_12_museum_68 k42 (F_12_blanks_0 FU M)
def P_12_museum_64 (pk42 : Mem → Prop) (M : Mem) : Prop := ((P_12_blanks_0 FU M) ∧ (P_12_museum_68 pk42 (F_12_blanks_0 FU M)))
theorem T_12_museum_64 {g : Gl} (k42 : Mem → Int32 × Mem) (pk42 : Mem → Prop) (ih42 : ∀  (M : Mem), pk42 M → Rn g 6 m12_museum 42 [some (.ref 0), none] [] M (some (.int (k42 M).1)) ((k42 M).2)) (M : Mem) (hp : P_12_museum_64 pk42 M) : Rn g 6 m12_museum 64 [some (.ref 0), none] [] M (some (.int (F_12_museum_64 k42 M).1)) ((F_12_museum_64 k42 M).2) := by
  rw [F_12_museum_64]
  rw [P_12_museum_64] at hp
  obtain ⟨hc, hp⟩ := hp
  refine b12_museum_64  (C_12_blanks  M hc) (Nat.le_of_ble_eq_true rfl) ?_
  exact T_12_museum_68 k42 pk42 ih42 (F_12_blanks_0 FU M) hp
def F_12_museum_82 (xs0 : Int32) (M : Mem) : Int32 × Mem := (xs0, M)
theorem T_12_museum_82 {g : Gl} (xs0 : Int32) (M : Mem)  : Rn g 6 m12_museum 82 [none, none] [.int xs0] M (some (.int (F_12_museum_82 xs0 M).1)) ((F_12_museum_82 xs0 M).2) := by
  rw [F_12_museum_82]
  exact b12_museum_82  rfl rfl
def F_12_museum_92 (M : Mem) : Int32 × Mem := (rd M 4 ((0 : Int32).toNatClampNeg), M)
theorem T_12_museum_92 {g : Gl} (M : Mem)  : Rn g 6 m12_museum 92 [some (.ref 0), none] [] M (some (.int (F_12_museum_92 M).1)) ((F_12_museum_92 M).2) := by
  rw [F_12_museum_92]
  exact b12_museum_92 (vpl (by decide)) rfl rfl
def F_12_museum_71 (M : Mem) : Int32 × Mem := if (rd M 0 5) = 0 then (F_12_museum_92 (F_12_beginsAnew_0 (wr M 0 3 (-1)))) else (F_12_museum_82 ((F_12_ends2_0 M).1) ((F_12_ends2_0 M).2))
def P_12_museum_71 (M : Mem) : Prop := (((rd M 0 5) = 0 → ((P_12_beginsAnew_0 (wr M 0 3 (-1))))) ∧ (¬ (rd M 0 5) = 0 → True))
theorem T_12_museum_71 {g : Gl} (M : Mem) (hp : P_12_museum_71 M) : Rn g 6 m12_museum 71 [some (.ref 0), none] [] M (some (.int (F_12_museum_71 M).1)) ((F_12_museum_71 M).2) := by
  rw [F_12_museum_71]
  rw [P_12_museum_71] at hp
  refine b12_museum_71  (fun h => ?_) (fun h => ?_)
  · rw [if_pos h]
    have hp := hp.1 h
    have hc := hp
    refine b12_museum_83  (C_12_beginsAnew  (wr M 0 3 (-1)) hc) (Nat.le_of_ble_eq_true rfl) ?_
    exact T_12_museum_92 (F_12_beginsAnew_0 (wr M 0 3 (-1)))
  · rw [if_neg h]
    refine b12_museum_78  (C_12_ends2  M) (Nat.le_of_ble_eq_true rfl) ?_
    exact T_12_museum_82 ((F_12_ends2_0 M).1) ((F_12_ends2_0 M).2)
def F_12_museum_42  : Nat → Mem → Int32 × Mem
  | 0, M => (0, M)
  | n + 1, M => if (rd M 0 5) = 0 then (if (rd M 0 2) ≤ (rd M 0 4) then (F_12_museum_71 M) else (F_12_museum_64 (F_12_museum_42 n) (F_12_clause_0 M))) else (F_12_museum_71 M)
def P_12_museum_42  : Nat → Mem → Prop
  | 0, _ => False
  | n + 1, M => ((¬ (rd M 0 5) = 0 → P_12_museum_71 M) ∧ ((rd M 0 5) = 0 → (((rd M 0 2) ≤ (rd M 0 4) → P_12_museum_71 M) ∧ (¬ (rd M 0 2) ≤ (rd M 0 4) → ((P_12_clause_0 M) ∧ (P_12_museum_64 (P_12_museum_42 n) (F_12_clause_0 M)))))))
theorem T_12_museum_42 {g : Gl} : ∀ (n : Nat)  (M : Mem) (hp : P_12_museum_42 n M), Rn g 6 m12_museum 42 [some (.ref 0), none] [] M (some (.int (F_12_museum_42 n M).1)) ((F_12_museum_42 n M).2) := by
  intro n
  induction n with
  | zero => intro M hp; exact hp.elim
  | succ n ih =>
    intro M hp
    rw [F_12_museum_42]
    rw [P_12_museum_42] at hp
    refine b12_museum_42  (fun h => ?_) (fun h => ?_)
    · rw [if_neg h]
      have hp := hp.1 h
      exact T_12_museum_71 M hp
    · rw [if_pos h]
      have hp := hp.2 h
      refine b12_museum_49  (fun h => ?_) (fun h => ?_)
      · rw [if_pos h]
        have hp := hp.1 h
        exact T_12_museum_71 M hp
      · rw [if_neg h]
        have hp := hp.2 h
        obtain ⟨hc, hp⟩ := hp
        refine b12_museum_60  (C_12_clause  M hc) (Nat.le_of_ble_eq_true rfl) ?_
        exact T_12_museum_64 (F_12_museum_42 n) (P_12_museum_42 n) ih (F_12_clause_0 M) hp
def F_12_museum_38 (M : Mem) : Int32 × Mem := F_12_museum_42 FU (F_12_tellsNothing_0 M)
def P_12_museum_38 (M : Mem) : Prop := ((P_12_tellsNothing_0 M) ∧ (P_12_museum_42 FU (F_12_tellsNothing_0 M)))
theorem T_12_museum_38 {g : Gl} (M : Mem) (hp : P_12_museum_38 M) : Rn g 6 m12_museum 38 [some (.ref 0), none] [] M (some (.int (F_12_museum_38 M).1)) ((F_12_museum_38 M).2) := by
  rw [F_12_museum_38]
  rw [P_12_museum_38] at hp
  obtain ⟨hc, hp⟩ := hp
  refine b12_museum_38  (C_12_tellsNothing  M hc) (Nat.le_of_ble_eq_true rfl) ?_
  exact T_12_museum_42 FU (F_12_tellsNothing_0 M) hp
def F_12_museum_28 (x1 : Int32) (xs0 : Int32) (M : Mem) : Int32 × Mem := if xs0 = 0 then (F_12_museum_38 (F_12_starts_0 x1 M)) else ((0, M))
def P_12_museum_28 (x1 : Int32) (xs0 : Int32) (M : Mem) : Prop := ((xs0 = 0 → ((P_12_starts_0 x1 M) ∧ (P_12_museum_38 (F_12_starts_0 x1 M)))) ∧ (¬ xs0 = 0 → True))
theorem T_12_museum_28 {g : Gl} (x1 : Int32) (xs0 : Int32) (M : Mem) (hp : P_12_museum_28 x1 xs0 M) : Rn g 6 m12_museum 28 [some (.ref 0), some (.int x1)] [.int xs0] M (some (.int (F_12_museum_28 x1 xs0 M).1)) ((F_12_museum_28 x1 xs0 M).2) := by
  rw [F_12_museum_28]
  rw [P_12_museum_28] at hp
  refine b12_museum_28  (fun h => ?_) (fun h => ?_)
  · rw [if_pos h]
    have hp := hp.1 h
    obtain ⟨hc, hp⟩ := hp
    refine b12_museum_33  (C_12_starts x1 M hc) (Nat.le_of_ble_eq_true rfl) ?_
    exact T_12_museum_38 (F_12_starts_0 x1 M) hp
  · rw [if_neg h]
    exact b12_museum_31  rfl rfl
def F_12_museum_23 (x1 : Int32) (xs0 : Int32) (M : Mem) : Int32 × Mem := F_12_museum_28 x1 ((F_12_bad_0 xs0 1 1 M).1) ((F_12_bad_0 xs0 1 1 M).2)
def P_12_museum_23 (x1 : Int32) (xs0 : Int32) (M : Mem) : Prop := ((P_12_bad_0 xs0 1 1 M) ∧ (P_12_museum_28 x1 ((F_12_bad_0 xs0 1 1 M).1) ((F_12_bad_0 xs0 1 1 M).2)))
theorem T_12_museum_23 {g : Gl} (x1 : Int32) (xs0 : Int32) (M : Mem) (hp : P_12_museum_23 x1 xs0 M) : Rn g 6 m12_museum 23 [some (.ref 0), some (.int x1)] [.int xs0, .ref 0] M (some (.int (F_12_museum_23 x1 xs0 M).1)) ((F_12_museum_23 x1 xs0 M).2) := by
  rw [F_12_museum_23]
  rw [P_12_museum_23] at hp
  obtain ⟨hc, hp⟩ := hp
  refine b12_museum_23  (C_12_bad xs0 1 1 M hc) (Nat.le_of_ble_eq_true rfl) ?_
  exact T_12_museum_28 x1 ((F_12_bad_0 xs0 1 1 M).1) ((F_12_bad_0 xs0 1 1 M).2) hp
def F_12_museum_0 (x1 : Int32) (M : Mem) : Int32 × Mem := if (F_12_in_0 (wr M 0 0 0) x1 0 (rd (wr M 0 0 0) 0 1)) = 0 then (F_12_museum_23 x1 1 (wr M 0 0 0)) else (F_12_museum_23 x1 0 (wr M 0 0 0))
def P_12_museum_0 (x1 : Int32) (M : Mem) : Prop := ((((¬ (F_12_in_0 (wr M 0 0 0) x1 0 (rd (wr M 0 0 0) 0 1)) = 0 → (P_12_museum_23 x1 0 (wr M 0 0 0))) ∧ ((F_12_in_0 (wr M 0 0 0) x1 0 (rd (wr M 0 0 0) 0 1)) = 0 → (P_12_museum_23 x1 1 (wr M 0 0 0))))))
theorem T_12_museum_0 {g : Gl} (x1 : Int32) (M : Mem) (hp : P_12_museum_0 x1 M) : Rn g 6 m12_museum 0 [some (.ref 0), some (.int x1)] [] M (some (.int (F_12_museum_0 x1 M).1)) ((F_12_museum_0 x1 M).2) := by
  rw [F_12_museum_0]
  rw [P_12_museum_0] at hp
  refine b12_museum_0  (C_12_in x1 0 (rd (wr M 0 0 0) 0 1) (wr M 0 0 0)) (Nat.le_of_ble_eq_true rfl) ?_
  refine b12_museum_15  (fun h => ?_) (fun h => ?_)
  · rw [if_neg h]
    have hp := hp.1 h
    refine b12_museum_22  ?_
    exact T_12_museum_23 x1 0 (wr M 0 0 0) hp
  · rw [if_pos h]
    have hp := hp.2 h
    refine b12_museum_18  ?_
    exact T_12_museum_23 x1 1 (wr M 0 0 0) hp
theorem C_12_museum {g : Gl}  (x1 : Int32) (M : Mem) (hp : P_12_museum_0 x1 M) : Ms g 6 m12_museum [.ref 0, .int x1] M (some (.int (F_12_museum_0 x1 M).1)) ((F_12_museum_0 x1 M).2) := Ms.of okM_m12_museum (Nat.le_of_ble_eq_true rfl) (R_wk (lc rfl (lc rfl l0)) (T_12_museum_0 x1 M hp))
def F_12_copiesa_2  : Nat → Nat → Int32 → Mem → Mem
  | 0, _, _, M => M
  | n + 1, q1, x2, M => if (56 : Int32) ≤ x2 then (M) else ((F_12_copiesa_2 n) q1 (x2 + 1) (wr M (478 + q1) x2.toNatClampNeg (rd M 20 x2.toNatClampNeg)))
def P_12_copiesa_2  : Nat → Nat → Int32 → Mem → Prop
  | 0, _, _, _ => False
  | n + 1, q1, x2, M => (q1 < 16) ∧ ((((56 : Int32) ≤ x2 → True) ∧ (¬ (56 : Int32) ≤ x2 → (vp_in x2 56) ∧ ((P_12_copiesa_2 n) q1 (x2 + 1) (wr M (478 + q1) x2.toNatClampNeg (rd M 20 x2.toNatClampNeg))))))
theorem T_12_copiesa_2 {g : Gl} : ∀ (n : Nat) (q1 : Nat) (x2 : Int32) (M : Mem) (hp : P_12_copiesa_2 n q1 x2 M), Rn g 0 m12_copies 2 [some (.ref 20), some (.ref (478 + q1)), some (.int x2)] [] M (none) ((F_12_copiesa_2 n q1 x2 M)) := by
  intro n
  induction n with
  | zero => intro q1 x2 M hp; exact hp.elim
  | succ n ih =>
    intro q1 x2 M hp
    rw [F_12_copiesa_2]
    rw [P_12_copiesa_2] at hp
    obtain ⟨hq1, hp⟩ := hp
    refine b12_copiesa_2 hq1 (fun h => ?_) (fun h => ?_)
    · rw [if_pos h]
      exact b12_copiesa_20  rfl rfl
    · rw [if_neg h]
      have hp := hp.2 h
      obtain ⟨p0, hp⟩ := hp
      refine b12_copiesa_8 hq1 p0 ?_
      exact ih q1 (x2 + 1) (wr M (478 + q1) x2.toNatClampNeg (rd M 20 x2.toNatClampNeg)) hp
def F_12_copiesa_0 (q1 : Nat) (M : Mem) : Mem := F_12_copiesa_2 FU q1 0 M
def P_12_copiesa_0 (q1 : Nat) (M : Mem) : Prop := (q1 < 16) ∧ ((P_12_copiesa_2 FU q1 0 M))
theorem T_12_copiesa_0 {g : Gl} (q1 : Nat) (M : Mem) (hp : P_12_copiesa_0 q1 M) : Rn g 0 m12_copies 0 [some (.ref 20), some (.ref (478 + q1)), none] [] M (none) ((F_12_copiesa_0 q1 M)) := by
  rw [F_12_copiesa_0]
  rw [P_12_copiesa_0] at hp
  obtain ⟨hq1, hp⟩ := hp
  refine b12_copiesa_0 hq1 ?_
  exact T_12_copiesa_2 FU q1 0 M hp
theorem C_12_copiesa {g : Gl}  (q1 : Nat) (M : Mem) (hp : P_12_copiesa_0 q1 M) : Ms g 0 m12_copies [.ref 20, .ref (478 + q1)] M (none) ((F_12_copiesa_0 q1 M)) := Ms.of okM_m12_copies (Nat.le_of_ble_eq_true rfl) (R_wk (lc rfl (lc rfl (ln l0))) (T_12_copiesa_0 q1 M hp))
def F_12_copiesb_2  : Nat → Nat → Int32 → Mem → Mem
  | 0, _, _, M => M
  | n + 1, q0, x2, M => if (56 : Int32) ≤ x2 then (M) else ((F_12_copiesb_2 n) q0 (x2 + 1) (wr M 20 x2.toNatClampNeg (rd M (478 + q0) x2.toNatClampNeg)))
def P_12_copiesb_2  : Nat → Nat → Int32 → Mem → Prop
  | 0, _, _, _ => False
  | n + 1, q0, x2, M => (q0 < 16) ∧ ((((56 : Int32) ≤ x2 → True) ∧ (¬ (56 : Int32) ≤ x2 → (vp_in x2 56) ∧ ((P_12_copiesb_2 n) q0 (x2 + 1) (wr M 20 x2.toNatClampNeg (rd M (478 + q0) x2.toNatClampNeg))))))
theorem T_12_copiesb_2 {g : Gl} : ∀ (n : Nat) (q0 : Nat) (x2 : Int32) (M : Mem) (hp : P_12_copiesb_2 n q0 x2 M), Rn g 0 m12_copies 2 [some (.ref (478 + q0)), some (.ref 20), some (.int x2)] [] M (none) ((F_12_copiesb_2 n q0 x2 M)) := by
  intro n
  induction n with
  | zero => intro q0 x2 M hp; exact hp.elim
  | succ n ih =>
    intro q0 x2 M hp
    rw [F_12_copiesb_2]
    rw [P_12_copiesb_2] at hp
    obtain ⟨hq0, hp⟩ := hp
    refine b12_copiesb_2 hq0 (fun h => ?_) (fun h => ?_)
    · rw [if_pos h]
      exact b12_copiesb_20  rfl rfl
    · rw [if_neg h]
      have hp := hp.2 h
      obtain ⟨p0, hp⟩ := hp
      refine b12_copiesb_8 hq0 p0 ?_
      exact ih q0 (x2 + 1) (wr M 20 x2.toNatClampNeg (rd M (478 + q0) x2.toNatClampNeg)) hp
def F_12_copiesb_0 (q0 : Nat) (M : Mem) : Mem := F_12_copiesb_2 FU q0 0 M
def P_12_copiesb_0 (q0 : Nat) (M : Mem) : Prop := (q0 < 16) ∧ ((P_12_copiesb_2 FU q0 0 M))
theorem T_12_copiesb_0 {g : Gl} (q0 : Nat) (M : Mem) (hp : P_12_copiesb_0 q0 M) : Rn g 0 m12_copies 0 [some (.ref (478 + q0)), some (.ref 20), none] [] M (none) ((F_12_copiesb_0 q0 M)) := by
  rw [F_12_copiesb_0]
  rw [P_12_copiesb_0] at hp
  obtain ⟨hq0, hp⟩ := hp
  refine b12_copiesb_0 hq0 ?_
  exact T_12_copiesb_2 FU q0 0 M hp
theorem C_12_copiesb {g : Gl}  (q0 : Nat) (M : Mem) (hp : P_12_copiesb_0 q0 M) : Ms g 0 m12_copies [.ref (478 + q0), .ref 20] M (none) ((F_12_copiesb_0 q0 M)) := Ms.of okM_m12_copies (Nat.le_of_ble_eq_true rfl) (R_wk (lc rfl (lc rfl (ln l0))) (T_12_copiesb_0 q0 M hp))
def F_12_notes_0 (x1 : Int32) (x2 : Int32) (M : Mem) : Mem := if (rd M 0 5) = 0 then (wr (wr (wr M (238 + (rd M 0 22).toNatClampNeg) ((0 : Int32).toNatClampNeg) x1) (238 + (rd (wr M (238 + (rd M 0 22).toNatClampNeg) ((0 : Int32).toNatClampNeg) x1) 0 22).toNatClampNeg) ((1 : Int32).toNatClampNeg) x2) 0 22 ((rd (wr (wr M (238 + (rd M 0 22).toNatClampNeg) ((0 : Int32).toNatClampNeg) x1) (238 + (rd (wr M (238 + (rd M 0 22).toNatClampNeg) ((0 : Int32).toNatClampNeg) x1) 0 22).toNatClampNeg) ((1 : Int32).toNatClampNeg) x2) 0 22) + 1)) else (M)
def P_12_notes_0 (x1 : Int32) (x2 : Int32) (M : Mem) : Prop := (((rd M 0 5) = 0 → (vp_in (rd M 0 22) 160) ∧ (vp_in (rd (wr M (238 + (rd M 0 22).toNatClampNeg) ((0 : Int32).toNatClampNeg) x1) 0 22) 160)) ∧ (¬ (rd M 0 5) = 0 → True))
theorem T_12_notes_0 {g : Gl} (x1 : Int32) (x2 : Int32) (M : Mem) (hp : P_12_notes_0 x1 x2 M) : Rn g 0 m12_notes 0 [some (.ref 0), some (.int x1), some (.int x2)] [] M (none) ((F_12_notes_0 x1 x2 M)) := by
  rw [F_12_notes_0]
  rw [P_12_notes_0] at hp
  refine b12_notes_0  (fun h => ?_) (fun h => ?_)
  · rw [if_pos h]
    have hp := hp.1 h
    obtain ⟨p0, p1⟩ := hp
    exact b12_notes_8 p0 (vpl (by decide)) p1 (vpl (by decide)) rfl rfl
  · rw [if_neg h]
    exact b12_notes_7  rfl rfl
theorem C_12_notes {g : Gl}  (x1 : Int32) (x2 : Int32) (M : Mem) (hp : P_12_notes_0 x1 x2 M) : Ms g 0 m12_notes [.ref 0, .int x1, .int x2] M (none) ((F_12_notes_0 x1 x2 M)) := Ms.of okM_m12_notes (Nat.le_of_ble_eq_true rfl) (R_wk (lc rfl (lc rfl (lc rfl l0))) (T_12_notes_0 x1 x2 M hp))
def F_12_opensOne_45 (M : Mem) : Int32 × Mem := if (rd M 0 5) = 0 then ((1, M)) else ((0, M))
theorem T_12_opensOne_45 {g : Gl} (M : Mem)  : Rn g 1 m12_opensOne 45 [some (.ref 0)] [] M (some (.int (F_12_opensOne_45 M).1)) ((F_12_opensOne_45 M).2) := by
  rw [F_12_opensOne_45]
  refine b12_opensOne_45  (fun h => ?_) (fun h => ?_)
  · rw [if_neg h]
    refine b12_opensOne_56  ?_
    exact b12_opensOne_57  rfl rfl rfl
  · rw [if_pos h]
    refine b12_opensOne_52  ?_
    exact b12_opensOne_57  rfl rfl rfl
def F_12_opensOne_25 (M : Mem) : Int32 × Mem := F_12_opensOne_45 M
theorem T_12_opensOne_25 {g : Gl} (M : Mem)  : Rn g 1 m12_opensOne 25 [some (.ref 0)] [] M (some (.int (F_12_opensOne_25 M).1)) ((F_12_opensOne_25 M).2) := by
  rw [F_12_opensOne_25]
  refine b12_opensOne_25  ?_
  exact T_12_opensOne_45 M
def F_12_opensOne_28 (M : Mem) : Int32 × Mem := if (rd M 0 5) = 0 then (F_12_opensOne_45 (wr M 0 8 ((rd M 0 8) + 1))) else (F_12_opensOne_45 M)
theorem T_12_opensOne_28 {g : Gl} (M : Mem)  : Rn g 1 m12_opensOne 28 [some (.ref 0)] [] M (some (.int (F_12_opensOne_28 M).1)) ((F_12_opensOne_28 M).2) := by
  rw [F_12_opensOne_28]
  refine b12_opensOne_28  (fun h => ?_) (fun h => ?_)
  · rw [if_neg h]
    exact T_12_opensOne_45 M
  · rw [if_pos h]
    refine b12_opensOne_35  ?_
    exact T_12_opensOne_45 (wr M 0 8 ((rd M 0 8) + 1))
def F_12_opensOne_0 (M : Mem) : Int32 × Mem := if (rd M 0 5) = 0 then (if (rd M 0 8) = 6 then (F_12_opensOne_25 (F_12_wrong_0 3 (rd M 0 4) M)) else (F_12_opensOne_28 M)) else (F_12_opensOne_28 M)
theorem T_12_opensOne_0 {g : Gl} (M : Mem)  : Rn g 1 m12_opensOne 0 [some (.ref 0)] [] M (some (.int (F_12_opensOne_0 M).1)) ((F_12_opensOne_0 M).2) := by
  rw [F_12_opensOne_0]
  refine b12_opensOne_0  (fun h => ?_) (fun h => ?_)
  · rw [if_neg h]
    exact T_12_opensOne_28 M
  · rw [if_pos h]
    refine b12_opensOne_7  (fun h => ?_) (fun h => ?_)
    · rw [if_neg h]
      exact T_12_opensOne_28 M
    · rw [if_pos h]
      refine b12_opensOne_16  (C_12_wrong 3 (rd M 0 4) M) (Nat.le_of_ble_eq_true rfl) ?_
      exact T_12_opensOne_25 (F_12_wrong_0 3 (rd M 0 4) M)
theorem C_12_opensOne {g : Gl}   (M : Mem)  : Ms g 1 m12_opensOne [.ref 0] M (some (.int (F_12_opensOne_0 M).1)) ((F_12_opensOne_0 M).2) := Ms.of okM_m12_opensOne (Nat.le_of_ble_eq_true rfl) (R_wk (lc rfl l0) (T_12_opensOne_0 M))
def F_12_isTo_31 (x1 : Int32) (M : Mem) : Int32 × Mem := (x1, M)
def P_12_isTo_31 (x1 : Int32) (M : Mem) : Prop := (narrow .boolean (.int x1) = .int x1)
theorem T_12_isTo_31 {g : Gl} (x1 : Int32) (M : Mem) (hp : P_12_isTo_31 x1 M) : Rn g 3 m12_isTo 31 [none, some (.int x1)] [] M (some (.int (F_12_isTo_31 x1 M).1)) ((F_12_isTo_31 x1 M).2) := by
  rw [F_12_isTo_31]
  rw [P_12_isTo_31] at hp
  have p0 := hp
  exact b12_isTo_31  rfl rfl p0
def F_12_isTo_22 (xs0 : Int32) (M : Mem) : Int32 × Mem := if xs0 = 0 then (F_12_isTo_31 xs0 M) else (F_12_isTo_31 xs0 (F_12_skipWord_0 FU M))
def P_12_isTo_22 (xs0 : Int32) (M : Mem) : Prop := ((xs0 = 0 → P_12_isTo_31 xs0 M) ∧ (¬ xs0 = 0 → ((P_12_skipWord_0 FU M) ∧ (P_12_isTo_31 xs0 (F_12_skipWord_0 FU M)))))
theorem T_12_isTo_22 {g : Gl} (xs0 : Int32) (M : Mem) (hp : P_12_isTo_22 xs0 M) : Rn g 3 m12_isTo 22 [some (.ref 0), none] [.int xs0] M (some (.int (F_12_isTo_22 xs0 M).1)) ((F_12_isTo_22 xs0 M).2) := by
  rw [F_12_isTo_22]
  rw [P_12_isTo_22] at hp
  refine b12_isTo_22  (fun h => ?_) (fun h => ?_)
  · rw [if_pos h]
    have hp := hp.1 h
    exact T_12_isTo_31 xs0 M hp
  · rw [if_neg h]
    have hp := hp.2 h
    obtain ⟨hc, hp⟩ := hp
    refine b12_isTo_27  (C_12_skipWord  M hc) (Nat.le_of_ble_eq_true rfl) ?_
    exact T_12_isTo_31 xs0 (F_12_skipWord_0 FU M) hp
def F_12_isTo_21 (M : Mem) : Int32 × Mem := F_12_isTo_22 0 M
def P_12_isTo_21 (M : Mem) : Prop := (P_12_isTo_22 0 M)
theorem T_12_isTo_21 {g : Gl} (M : Mem) (hp : P_12_isTo_21 M) : Rn g 3 m12_isTo 21 [some (.ref 0), none] [] M (some (.int (F_12_isTo_21 M).1)) ((F_12_isTo_21 M).2) := by
  rw [F_12_isTo_21]
  rw [P_12_isTo_21] at hp
  refine b12_isTo_21  ?_
  exact T_12_isTo_22 0 M hp
def F_12_isTo_11 (xs0 : Int32) (M : Mem) : Int32 × Mem := if xs0 = 555 then (F_12_isTo_22 1 M) else (F_12_isTo_21 M)
def P_12_isTo_11 (xs0 : Int32) (M : Mem) : Prop := ((¬ xs0 = 555 → P_12_isTo_21 M) ∧ (xs0 = 555 → (P_12_isTo_22 1 M)))
theorem T_12_isTo_11 {g : Gl} (xs0 : Int32) (M : Mem) (hp : P_12_isTo_11 xs0 M) : Rn g 3 m12_isTo 11 [some (.ref 0), none] [.int xs0] M (some (.int (F_12_isTo_11 xs0 M).1)) ((F_12_isTo_11 xs0 M).2) := by
  rw [F_12_isTo_11]
  rw [P_12_isTo_11] at hp
  refine b12_isTo_11  (fun h => ?_) (fun h => ?_)
  · rw [if_neg h]
    have hp := hp.1 h
    exact T_12_isTo_21 M hp
  · rw [if_pos h]
    have hp := hp.2 h
    refine b12_isTo_17  ?_
    exact T_12_isTo_22 1 M hp
def F_12_isTo_0 (M : Mem) : Int32 × Mem := if (rd M 0 5) = 0 then (F_12_isTo_11 ((F_12_wordHere_0 M).1) ((F_12_wordHere_0 M).2)) else (F_12_isTo_21 M)
def P_12_isTo_0 (M : Mem) : Prop := ((¬ (rd M 0 5) = 0 → P_12_isTo_21 M) ∧ ((rd M 0 5) = 0 → ((P_12_wordHere_0 M) ∧ (P_12_isTo_11 ((F_12_wordHere_0 M).1) ((F_12_wordHere_0 M).2)))))
theorem T_12_isTo_0 {g : Gl} (M : Mem) (hp : P_12_isTo_0 M) : Rn g 3 m12_isTo 0 [some (.ref 0), none] [] M (some (.int (F_12_isTo_0 M).1)) ((F_12_isTo_0 M).2) := by
  rw [F_12_isTo_0]
  rw [P_12_isTo_0] at hp
  refine b12_isTo_0  (fun h => ?_) (fun h => ?_)
  · rw [if_neg h]
    have hp := hp.1 h
    exact T_12_isTo_21 M hp
  · rw [if_pos h]
    have hp := hp.2 h
    obtain ⟨hc, hp⟩ := hp
    refine b12_isTo_7  (C_12_wordHere  M hc) (Nat.le_of_ble_eq_true rfl) ?_
    exact T_12_isTo_11 ((F_12_wordHere_0 M).1) ((F_12_wordHere_0 M).2) hp
theorem C_12_isTo {g : Gl}   (M : Mem) (hp : P_12_isTo_0 M) : Ms g 3 m12_isTo [.ref 0] M (some (.int (F_12_isTo_0 M).1)) ((F_12_isTo_0 M).2) := Ms.of okM_m12_isTo (Nat.le_of_ble_eq_true rfl) (R_wk (lc rfl (ln l0)) (T_12_isTo_0 M hp))
def F_12_knownHere_129 (xs0 : Int32) (M : Mem) : Int32 × Mem := if xs0 = 0 then (((-1), M)) else ((7, M))
theorem T_12_knownHere_129 {g : Gl} (xs0 : Int32) (M : Mem)  : Rn g 5 m12_knownHere 129 [none] [.int xs0] M (some (.int (F_12_knownHere_129 xs0 M).1)) ((F_12_knownHere_129 xs0 M).2) := by
  rw [F_12_knownHere_129]
  refine b12_knownHere_129  (fun h => ?_) (fun h => ?_)
  · rw [if_pos h]
    refine b12_knownHere_137  ?_
    exact b12_knownHere_138  rfl rfl
  · rw [if_neg h]
    refine b12_knownHere_132  ?_
    exact b12_knownHere_138  rfl rfl
def F_12_knownHere_111 (xs0 : Int32) (M : Mem) : Int32 × Mem := if xs0 = 0 then (F_12_knownHere_129 ((F_12_takes_0 21 19 5 4 0 0 M).1) ((F_12_takes_0 21 19 5 4 0 0 M).2)) else ((6, M))
def P_12_knownHere_111 (xs0 : Int32) (M : Mem) : Prop := ((xs0 = 0 → ((P_12_takes_0 21 19 5 4 0 0 M))) ∧ (¬ xs0 = 0 → True))
theorem T_12_knownHere_111 {g : Gl} (xs0 : Int32) (M : Mem) (hp : P_12_knownHere_111 xs0 M) : Rn g 5 m12_knownHere 111 [some (.ref 0)] [.int xs0] M (some (.int (F_12_knownHere_111 xs0 M).1)) ((F_12_knownHere_111 xs0 M).2) := by
  rw [F_12_knownHere_111]
  rw [P_12_knownHere_111] at hp
  refine b12_knownHere_111  (fun h => ?_) (fun h => ?_)
  · rw [if_pos h]
    have hp := hp.1 h
    have hc := hp
    refine b12_knownHere_117  (C_12_takes 21 19 5 4 0 0 M hc) (Nat.le_of_ble_eq_true rfl) ?_
    exact T_12_knownHere_129 ((F_12_takes_0 21 19 5 4 0 0 M).1) ((F_12_takes_0 21 19 5 4 0 0 M).2)
  · rw [if_neg h]
    exact b12_knownHere_114  rfl rfl
def F_12_knownHere_94 (xs0 : Int32) (M : Mem) : Int32 × Mem := if xs0 = 0 then (F_12_knownHere_111 ((F_12_takes_0 19 5 5 19 0 0 M).1) ((F_12_takes_0 19 5 5 19 0 0 M).2)) else ((5, M))
def P_12_knownHere_94 (xs0 : Int32) (M : Mem) : Prop := ((xs0 = 0 → ((P_12_takes_0 19 5 5 19 0 0 M) ∧ (P_12_knownHere_111 ((F_12_takes_0 19 5 5 19 0 0 M).1) ((F_12_takes_0 19 5 5 19 0 0 M).2)))) ∧ (¬ xs0 = 0 → True))
theorem T_12_knownHere_94 {g : Gl} (xs0 : Int32) (M : Mem) (hp : P_12_knownHere_94 xs0 M) : Rn g 5 m12_knownHere 94 [some (.ref 0)] [.int xs0] M (some (.int (F_12_knownHere_94 xs0 M).1)) ((F_12_knownHere_94 xs0 M).2) := by
  rw [F_12_knownHere_94]
  rw [P_12_knownHere_94] at hp
  refine b12_knownHere_94  (fun h => ?_) (fun h => ?_)
  · rw [if_pos h]
    have hp := hp.1 h
    obtain ⟨hc, hp⟩ := hp
    refine b12_knownHere_99  (C_12_takes 19 5 5 19 0 0 M hc) (Nat.le_of_ble_eq_true rfl) ?_
    exact T_12_knownHere_111 ((F_12_takes_0 19 5 5 19 0 0 M).1) ((F_12_takes_0 19 5 5 19 0 0 M).2) hp
  · rw [if_neg h]
    exact b12_knownHere_97  rfl rfl
def F_12_knownHere_85 (xs0 : Int32) (M : Mem) : Int32 × Mem := if xs0 = 0 then (F_12_knownHere_94 ((F_12_isTo_0 M).1) ((F_12_isTo_0 M).2)) else ((4, M))
def P_12_knownHere_85 (xs0 : Int32) (M : Mem) : Prop := ((xs0 = 0 → ((P_12_isTo_0 M) ∧ (P_12_knownHere_94 ((F_12_isTo_0 M).1) ((F_12_isTo_0 M).2)))) ∧ (¬ xs0 = 0 → True))
theorem T_12_knownHere_85 {g : Gl} (xs0 : Int32) (M : Mem) (hp : P_12_knownHere_85 xs0 M) : Rn g 5 m12_knownHere 85 [some (.ref 0)] [.int xs0] M (some (.int (F_12_knownHere_85 xs0 M).1)) ((F_12_knownHere_85 xs0 M).2) := by
  rw [F_12_knownHere_85]
  rw [P_12_knownHere_85] at hp
  refine b12_knownHere_85  (fun h => ?_) (fun h => ?_)
  · rw [if_pos h]
    have hp := hp.1 h
    obtain ⟨hc, hp⟩ := hp
    refine b12_knownHere_90  (C_12_isTo  M hc) (Nat.le_of_ble_eq_true rfl) ?_
    exact T_12_knownHere_94 ((F_12_isTo_0 M).1) ((F_12_isTo_0 M).2) hp
  · rw [if_neg h]
    exact b12_knownHere_88  rfl rfl
def F_12_knownHere_66 (xs0 : Int32) (M : Mem) : Int32 × Mem := if xs0 = 0 then (F_12_knownHere_85 ((F_12_takes_0 6 18 15 13 0 0 M).1) ((F_12_takes_0 6 18 15 13 0 0 M).2)) else ((3, M))
def P_12_knownHere_66 (xs0 : Int32) (M : Mem) : Prop := ((xs0 = 0 → ((P_12_takes_0 6 18 15 13 0 0 M) ∧ (P_12_knownHere_85 ((F_12_takes_0 6 18 15 13 0 0 M).1) ((F_12_takes_0 6 18 15 13 0 0 M).2)))) ∧ (¬ xs0 = 0 → True))
theorem T_12_knownHere_66 {g : Gl} (xs0 : Int32) (M : Mem) (hp : P_12_knownHere_66 xs0 M) : Rn g 5 m12_knownHere 66 [some (.ref 0)] [.int xs0] M (some (.int (F_12_knownHere_66 xs0 M).1)) ((F_12_knownHere_66 xs0 M).2) := by
  rw [F_12_knownHere_66]
  rw [P_12_knownHere_66] at hp
  refine b12_knownHere_66  (fun h => ?_) (fun h => ?_)
  · rw [if_pos h]
    have hp := hp.1 h
    obtain ⟨hc, hp⟩ := hp
    refine b12_knownHere_71  (C_12_takes 6 18 15 13 0 0 M hc) (Nat.le_of_ble_eq_true rfl) ?_
    exact T_12_knownHere_85 ((F_12_takes_0 6 18 15 13 0 0 M).1) ((F_12_takes_0 6 18 15 13 0 0 M).2) hp
  · rw [if_neg h]
    exact b12_knownHere_69  rfl rfl
def F_12_knownHere_48 (xs0 : Int32) (M : Mem) : Int32 × Mem := if xs0 = 0 then (F_12_knownHere_66 ((F_12_takes_0 4 15 15 18 0 0 M).1) ((F_12_takes_0 4 15 15 18 0 0 M).2)) else ((2, M))
def P_12_knownHere_48 (xs0 : Int32) (M : Mem) : Prop := ((xs0 = 0 → ((P_12_takes_0 4 15 15 18 0 0 M) ∧ (P_12_knownHere_66 ((F_12_takes_0 4 15 15 18 0 0 M).1) ((F_12_takes_0 4 15 15 18 0 0 M).2)))) ∧ (¬ xs0 = 0 → True))
theorem T_12_knownHere_48 {g : Gl} (xs0 : Int32) (M : Mem) (hp : P_12_knownHere_48 xs0 M) : Rn g 5 m12_knownHere 48 [some (.ref 0)] [.int xs0] M (some (.int (F_12_knownHere_48 xs0 M).1)) ((F_12_knownHere_48 xs0 M).2) := by
  rw [F_12_knownHere_48]
  rw [P_12_knownHere_48] at hp
  refine b12_knownHere_48  (fun h => ?_) (fun h => ?_)
  · rw [if_pos h]
    have hp := hp.1 h
    obtain ⟨hc, hp⟩ := hp
    refine b12_knownHere_53  (C_12_takes 4 15 15 18 0 0 M hc) (Nat.le_of_ble_eq_true rfl) ?_
    exact T_12_knownHere_66 ((F_12_takes_0 4 15 15 18 0 0 M).1) ((F_12_takes_0 4 15 15 18 0 0 M).2) hp
  · rw [if_neg h]
    exact b12_knownHere_51  rfl rfl
def F_12_knownHere_32 (xs0 : Int32) (M : Mem) : Int32 × Mem := if xs0 = 0 then (F_12_knownHere_48 ((F_12_takes_0 4 1 25 0 0 0 M).1) ((F_12_takes_0 4 1 25 0 0 0 M).2)) else ((1, M))
def P_12_knownHere_32 (xs0 : Int32) (M : Mem) : Prop := ((xs0 = 0 → ((P_12_takes_0 4 1 25 0 0 0 M) ∧ (P_12_knownHere_48 ((F_12_takes_0 4 1 25 0 0 0 M).1) ((F_12_takes_0 4 1 25 0 0 0 M).2)))) ∧ (¬ xs0 = 0 → True))
theorem T_12_knownHere_32 {g : Gl} (xs0 : Int32) (M : Mem) (hp : P_12_knownHere_32 xs0 M) : Rn g 5 m12_knownHere 32 [some (.ref 0)] [.int xs0] M (some (.int (F_12_knownHere_32 xs0 M).1)) ((F_12_knownHere_32 xs0 M).2) := by
  rw [F_12_knownHere_32]
  rw [P_12_knownHere_32] at hp
  refine b12_knownHere_32  (fun h => ?_) (fun h => ?_)
  · rw [if_pos h]
    have hp := hp.1 h
    obtain ⟨hc, hp⟩ := hp
    refine b12_knownHere_37  (C_12_takes 4 1 25 0 0 0 M hc) (Nat.le_of_ble_eq_true rfl) ?_
    exact T_12_knownHere_48 ((F_12_takes_0 4 1 25 0 0 0 M).1) ((F_12_takes_0 4 1 25 0 0 0 M).2) hp
  · rw [if_neg h]
    exact b12_knownHere_35  rfl rfl
def F_12_knownHere_13 (xs0 : Int32) (M : Mem) : Int32 × Mem := if xs0 = 0 then (F_12_knownHere_32 ((F_12_takes_0 8 15 21 18 0 0 M).1) ((F_12_takes_0 8 15 21 18 0 0 M).2)) else ((0, M))
def P_12_knownHere_13 (xs0 : Int32) (M : Mem) : Prop := ((xs0 = 0 → ((P_12_takes_0 8 15 21 18 0 0 M) ∧ (P_12_knownHere_32 ((F_12_takes_0 8 15 21 18 0 0 M).1) ((F_12_takes_0 8 15 21 18 0 0 M).2)))) ∧ (¬ xs0 = 0 → True))
theorem T_12_knownHere_13 {g : Gl} (xs0 : Int32) (M : Mem) (hp : P_12_knownHere_13 xs0 M) : Rn g 5 m12_knownHere 13 [some (.ref 0)] [.int xs0] M (some (.int (F_12_knownHere_13 xs0 M).1)) ((F_12_knownHere_13 xs0 M).2) := by
  rw [F_12_knownHere_13]
  rw [P_12_knownHere_13] at hp
  refine b12_knownHere_13  (fun h => ?_) (fun h => ?_)
  · rw [if_pos h]
    have hp := hp.1 h
    obtain ⟨hc, hp⟩ := hp
    refine b12_knownHere_18  (C_12_takes 8 15 21 18 0 0 M hc) (Nat.le_of_ble_eq_true rfl) ?_
    exact T_12_knownHere_32 ((F_12_takes_0 8 15 21 18 0 0 M).1) ((F_12_takes_0 8 15 21 18 0 0 M).2) hp
  · rw [if_neg h]
    exact b12_knownHere_16  rfl rfl
def F_12_knownHere_0 (M : Mem) : Int32 × Mem := F_12_knownHere_13 ((F_12_takes_0 16 12 1 14 0 0 M).1) ((F_12_takes_0 16 12 1 14 0 0 M).2)
def P_12_knownHere_0 (M : Mem) : Prop := ((P_12_takes_0 16 12 1 14 0 0 M) ∧ (P_12_knownHere_13 ((F_12_takes_0 16 12 1 14 0 0 M).1) ((F_12_takes_0 16 12 1 14 0 0 M).2)))
theorem T_12_knownHere_0 {g : Gl} (M : Mem) (hp : P_12_knownHere_0 M) : Rn g 5 m12_knownHere 0 [some (.ref 0)] [] M (some (.int (F_12_knownHere_0 M).1)) ((F_12_knownHere_0 M).2) := by
  rw [F_12_knownHere_0]
  rw [P_12_knownHere_0] at hp
  obtain ⟨hc, hp⟩ := hp
  refine b12_knownHere_0  (C_12_takes 16 12 1 14 0 0 M hc) (Nat.le_of_ble_eq_true rfl) ?_
  exact T_12_knownHere_13 ((F_12_takes_0 16 12 1 14 0 0 M).1) ((F_12_takes_0 16 12 1 14 0 0 M).2) hp
theorem C_12_knownHere {g : Gl}   (M : Mem) (hp : P_12_knownHere_0 M) : Ms g 5 m12_knownHere [.ref 0] M (some (.int (F_12_knownHere_0 M).1)) ((F_12_knownHere_0 M).2) := Ms.of okM_m12_knownHere (Nat.le_of_ble_eq_true rfl) (R_wk (lc rfl l0) (T_12_knownHere_0 M hp))
def F_12_one_106 (rF : Mem → Mem) (M : Mem) : Mem := wr M 0 8 ((rd M 0 8) - 1)
theorem T_12_one_106 {g : Gl} (rF : Mem → Mem) (rP : Mem → Prop) {dr : Nat} (rT : ∀  (M : Mem), rP M → Ms g dr m12_sum [.ref 0] M (none) ((rF M))) (M : Mem)  : Rn g (dr + 6) m12_one 106 [some (.ref 0), none, none] [] M (none) ((F_12_one_106 rF M)) := by
  rw [F_12_one_106]
  exact b12_one_106  rfl rfl
def F_12_one_100 (rF : Mem → Mem) (x1 : Int32) (M : Mem) : Mem := F_12_one_106 rF (F_12_notes_0 x1 0 M)
def P_12_one_100 (rF : Mem → Mem) (rP : Mem → Prop) (x1 : Int32) (M : Mem) : Prop := ((P_12_notes_0 x1 0 M))
theorem T_12_one_100 {g : Gl} (rF : Mem → Mem) (rP : Mem → Prop) {dr : Nat} (rT : ∀  (M : Mem), rP M → Ms g dr m12_sum [.ref 0] M (none) ((rF M))) (x1 : Int32) (M : Mem) (hp : P_12_one_100 rF rP x1 M) : Rn g (dr + 6) m12_one 100 [some (.ref 0), some (.int x1), none] [] M (none) ((F_12_one_100 rF x1 M)) := by
  rw [F_12_one_100]
  rw [P_12_one_100] at hp
  have hc := hp
  refine b12_one_100  (C_12_notes x1 0 M hc) (by omega) ?_
  exact T_12_one_106 rF rP rT (F_12_notes_0 x1 0 M)
def F_12_one_94 (rF : Mem → Mem) (x1 : Int32) (M : Mem) : Mem := F_12_one_100 rF x1 (F_12_sign_0 93 M)
def P_12_one_94 (rF : Mem → Mem) (rP : Mem → Prop) (x1 : Int32) (M : Mem) : Prop := ((P_12_sign_0 93 M) ∧ (P_12_one_100 rF rP x1 (F_12_sign_0 93 M)))
theorem T_12_one_94 {g : Gl} (rF : Mem → Mem) (rP : Mem → Prop) {dr : Nat} (rT : ∀  (M : Mem), rP M → Ms g dr m12_sum [.ref 0] M (none) ((rF M))) (x1 : Int32) (M : Mem) (hp : P_12_one_94 rF rP x1 M) : Rn g (dr + 6) m12_one 94 [some (.ref 0), some (.int x1), none] [] M (none) ((F_12_one_94 rF x1 M)) := by
  rw [F_12_one_94]
  rw [P_12_one_94] at hp
  obtain ⟨hc, hp⟩ := hp
  refine b12_one_94  (C_12_sign 93 M hc) (by omega) ?_
  exact T_12_one_100 rF rP rT x1 (F_12_sign_0 93 M) hp
def F_12_one_90 (rF : Mem → Mem) (x1 : Int32) (M : Mem) : Mem := F_12_one_94 rF x1 (rF M)
def P_12_one_90 (rF : Mem → Mem) (rP : Mem → Prop) (x1 : Int32) (M : Mem) : Prop := ((rP M) ∧ (P_12_one_94 rF rP x1 (rF M)))
theorem T_12_one_90 {g : Gl} (rF : Mem → Mem) (rP : Mem → Prop) {dr : Nat} (rT : ∀  (M : Mem), rP M → Ms g dr m12_sum [.ref 0] M (none) ((rF M))) (x1 : Int32) (M : Mem) (hp : P_12_one_90 rF rP x1 M) : Rn g (dr + 6) m12_one 90 [some (.ref 0), some (.int x1), none] [] M (none) ((F_12_one_90 rF x1 M)) := by
  rw [F_12_one_90]
  rw [P_12_one_90] at hp
  obtain ⟨hc, hp⟩ := hp
  refine b12_one_90  (rT M hc) (by omega) ?_
  exact T_12_one_94 rF rP rT x1 (rF M) hp
def F_12_one_84 (rF : Mem → Mem) (x1 : Int32) (M : Mem) : Mem := F_12_one_90 rF x1 (F_12_sign_0 44 M)
def P_12_one_84 (rF : Mem → Mem) (rP : Mem → Prop) (x1 : Int32) (M : Mem) : Prop := ((P_12_sign_0 44 M) ∧ (P_12_one_90 rF rP x1 (F_12_sign_0 44 M)))
theorem T_12_one_84 {g : Gl} (rF : Mem → Mem) (rP : Mem → Prop) {dr : Nat} (rT : ∀  (M : Mem), rP M → Ms g dr m12_sum [.ref 0] M (none) ((rF M))) (x1 : Int32) (M : Mem) (hp : P_12_one_84 rF rP x1 M) : Rn g (dr + 6) m12_one 84 [some (.ref 0), some (.int x1), none] [] M (none) ((F_12_one_84 rF x1 M)) := by
  rw [F_12_one_84]
  rw [P_12_one_84] at hp
  obtain ⟨hc, hp⟩ := hp
  refine b12_one_84  (C_12_sign 44 M hc) (by omega) ?_
  exact T_12_one_90 rF rP rT x1 (F_12_sign_0 44 M) hp
def F_12_one_80 (rF : Mem → Mem) (x1 : Int32) (M : Mem) : Mem := F_12_one_84 rF x1 (rF M)
def P_12_one_80 (rF : Mem → Mem) (rP : Mem → Prop) (x1 : Int32) (M : Mem) : Prop := ((rP M) ∧ (P_12_one_84 rF rP x1 (rF M)))
theorem T_12_one_80 {g : Gl} (rF : Mem → Mem) (rP : Mem → Prop) {dr : Nat} (rT : ∀  (M : Mem), rP M → Ms g dr m12_sum [.ref 0] M (none) ((rF M))) (x1 : Int32) (M : Mem) (hp : P_12_one_80 rF rP x1 M) : Rn g (dr + 6) m12_one 80 [some (.ref 0), some (.int x1), none] [] M (none) ((F_12_one_80 rF x1 M)) := by
  rw [F_12_one_80]
  rw [P_12_one_80] at hp
  obtain ⟨hc, hp⟩ := hp
  refine b12_one_80  (rT M hc) (by omega) ?_
  exact T_12_one_84 rF rP rT x1 (rF M) hp
def F_12_one_74 (rF : Mem → Mem) (x1 : Int32) (M : Mem) : Mem := F_12_one_80 rF x1 (F_12_sign_0 91 M)
def P_12_one_74 (rF : Mem → Mem) (rP : Mem → Prop) (x1 : Int32) (M : Mem) : Prop := ((P_12_sign_0 91 M) ∧ (P_12_one_80 rF rP x1 (F_12_sign_0 91 M)))
theorem T_12_one_74 {g : Gl} (rF : Mem → Mem) (rP : Mem → Prop) {dr : Nat} (rT : ∀  (M : Mem), rP M → Ms g dr m12_sum [.ref 0] M (none) ((rF M))) (x1 : Int32) (M : Mem) (hp : P_12_one_74 rF rP x1 M) : Rn g (dr + 6) m12_one 74 [some (.ref 0), some (.int x1), none] [] M (none) ((F_12_one_74 rF x1 M)) := by
  rw [F_12_one_74]
  rw [P_12_one_74] at hp
  obtain ⟨hc, hp⟩ := hp
  refine b12_one_74  (C_12_sign 91 M hc) (by omega) ?_
  exact T_12_one_80 rF rP rT x1 (F_12_sign_0 91 M) hp
def F_12_one_66 (rF : Mem → Mem) (x1 : Int32) (xs0 : Int32) (M : Mem) : Mem := if xs0 = 0 then (M) else (F_12_one_74 rF x1 (F_12_skipWord_0 FU M))
def P_12_one_66 (rF : Mem → Mem) (rP : Mem → Prop) (x1 : Int32) (xs0 : Int32) (M : Mem) : Prop := ((¬ xs0 = 0 → ((P_12_skipWord_0 FU M) ∧ (P_12_one_74 rF rP x1 (F_12_skipWord_0 FU M)))) ∧ (xs0 = 0 → True))
theorem T_12_one_66 {g : Gl} (rF : Mem → Mem) (rP : Mem → Prop) {dr : Nat} (rT : ∀  (M : Mem), rP M → Ms g dr m12_sum [.ref 0] M (none) ((rF M))) (x1 : Int32) (xs0 : Int32) (M : Mem) (hp : P_12_one_66 rF rP x1 xs0 M) : Rn g (dr + 6) m12_one 66 [some (.ref 0), some (.int x1), none] [.int xs0] M (none) ((F_12_one_66 rF x1 xs0 M)) := by
  rw [F_12_one_66]
  rw [P_12_one_66] at hp
  refine b12_one_66  (fun h => ?_) (fun h => ?_)
  · rw [if_neg h]
    have hp := hp.1 h
    obtain ⟨hc, hp⟩ := hp
    refine b12_one_70  (C_12_skipWord  M hc) (by omega) ?_
    exact T_12_one_74 rF rP rT x1 (F_12_skipWord_0 FU M) hp
  · rw [if_pos h]
    exact b12_one_69  rfl rfl
def F_12_one_158 (rF : Mem → Mem) (M : Mem) : Mem := wr M 0 8 ((rd M 0 8) - 1)
theorem T_12_one_158 {g : Gl} (rF : Mem → Mem) (rP : Mem → Prop) {dr : Nat} (rT : ∀  (M : Mem), rP M → Ms g dr m12_sum [.ref 0] M (none) ((rF M))) (M : Mem)  : Rn g (dr + 6) m12_one 158 [some (.ref 0), none, none] [] M (none) ((F_12_one_158 rF M)) := by
  rw [F_12_one_158]
  exact b12_one_158  rfl rfl
def F_12_one_152 (rF : Mem → Mem) (M : Mem) : Mem := F_12_one_158 rF (F_12_sign_0 41 M)
def P_12_one_152 (rF : Mem → Mem) (rP : Mem → Prop) (M : Mem) : Prop := ((P_12_sign_0 41 M))
theorem T_12_one_152 {g : Gl} (rF : Mem → Mem) (rP : Mem → Prop) {dr : Nat} (rT : ∀  (M : Mem), rP M → Ms g dr m12_sum [.ref 0] M (none) ((rF M))) (M : Mem) (hp : P_12_one_152 rF rP M) : Rn g (dr + 6) m12_one 152 [some (.ref 0), none, none] [] M (none) ((F_12_one_152 rF M)) := by
  rw [F_12_one_152]
  rw [P_12_one_152] at hp
  have hc := hp
  refine b12_one_152  (C_12_sign 41 M hc) (by omega) ?_
  exact T_12_one_158 rF rP rT (F_12_sign_0 41 M)
def F_12_one_134 (rF : Mem → Mem) (xs0 : Int32) (M : Mem) : Mem := if xs0 = 0 then (M) else (F_12_one_152 rF (rF (wr M 0 4 ((rd M 0 4) + 1))))
def P_12_one_134 (rF : Mem → Mem) (rP : Mem → Prop) (xs0 : Int32) (M : Mem) : Prop := ((¬ xs0 = 0 → ((rP (wr M 0 4 ((rd M 0 4) + 1))) ∧ (P_12_one_152 rF rP (rF (wr M 0 4 ((rd M 0 4) + 1)))))) ∧ (xs0 = 0 → True))
theorem T_12_one_134 {g : Gl} (rF : Mem → Mem) (rP : Mem → Prop) {dr : Nat} (rT : ∀  (M : Mem), rP M → Ms g dr m12_sum [.ref 0] M (none) ((rF M))) (xs0 : Int32) (M : Mem) (hp : P_12_one_134 rF rP xs0 M) : Rn g (dr + 6) m12_one 134 [some (.ref 0), none, none] [.int xs0] M (none) ((F_12_one_134 rF xs0 M)) := by
  rw [F_12_one_134]
  rw [P_12_one_134] at hp
  refine b12_one_134  (fun h => ?_) (fun h => ?_)
  · rw [if_neg h]
    have hp := hp.1 h
    obtain ⟨hc, hp⟩ := hp
    refine b12_one_138  (rT (wr M 0 4 ((rd M 0 4) + 1)) hc) (by omega) ?_
    exact T_12_one_152 rF rP rT (rF (wr M 0 4 ((rd M 0 4) + 1))) hp
  · rw [if_pos h]
    exact b12_one_137  rfl rfl
def F_12_one_201 (rF : Mem → Mem) (M : Mem) : Mem := M
theorem T_12_one_201 {g : Gl} (rF : Mem → Mem) (rP : Mem → Prop) {dr : Nat} (rT : ∀  (M : Mem), rP M → Ms g dr m12_sum [.ref 0] M (none) ((rF M))) (M : Mem)  : Rn g (dr + 6) m12_one 201 [none, none, none] [] M (none) ((F_12_one_201 rF M)) := by
  rw [F_12_one_201]
  exact b12_one_201  rfl rfl
def F_12_one_185 (rF : Mem → Mem) (M : Mem) : Mem := F_12_one_201 rF M
theorem T_12_one_185 {g : Gl} (rF : Mem → Mem) (rP : Mem → Prop) {dr : Nat} (rT : ∀  (M : Mem), rP M → Ms g dr m12_sum [.ref 0] M (none) ((rF M))) (M : Mem)  : Rn g (dr + 6) m12_one 185 [none, none, none] [] M (none) ((F_12_one_185 rF M)) := by
  rw [F_12_one_185]
  refine b12_one_185  ?_
  exact T_12_one_201 rF rP rT M
def F_12_one_198 (rF : Mem → Mem) (xs0 : Int32) (xs1 : Int32) (M : Mem) : Mem := F_12_one_201 rF (F_12_notes_0 xs1 xs0 M)
def P_12_one_198 (rF : Mem → Mem) (rP : Mem → Prop) (xs0 : Int32) (xs1 : Int32) (M : Mem) : Prop := ((P_12_notes_0 xs1 xs0 M))
theorem T_12_one_198 {g : Gl} (rF : Mem → Mem) (rP : Mem → Prop) {dr : Nat} (rT : ∀  (M : Mem), rP M → Ms g dr m12_sum [.ref 0] M (none) ((rF M))) (xs0 : Int32) (xs1 : Int32) (M : Mem) (hp : P_12_one_198 rF rP xs0 xs1 M) : Rn g (dr + 6) m12_one 198 [none, none, none] [.int xs0, .int xs1, .ref 0] M (none) ((F_12_one_198 rF xs0 xs1 M)) := by
  rw [F_12_one_198]
  rw [P_12_one_198] at hp
  have hc := hp
  refine b12_one_198  (C_12_notes xs1 xs0 M hc) (by omega) ?_
  exact T_12_one_201 rF rP rT (F_12_notes_0 xs1 xs0 M)
def F_12_one_173 (rF : Mem → Mem) (xs0 : Int32) (M : Mem) : Mem := if xs0 = (-1) then (F_12_one_198 rF ((F_12_number_0 0 999 M).1) 0 ((F_12_number_0 0 999 M).2)) else (F_12_one_185 rF (F_12_notes_0 1 xs0 M))
def P_12_one_173 (rF : Mem → Mem) (rP : Mem → Prop) (xs0 : Int32) (M : Mem) : Prop := ((xs0 = (-1) → ((P_12_number_0 0 999 M) ∧ (P_12_one_198 rF rP ((F_12_number_0 0 999 M).1) 0 ((F_12_number_0 0 999 M).2)))) ∧ (¬ xs0 = (-1) → ((P_12_notes_0 1 xs0 M))))
theorem T_12_one_173 {g : Gl} (rF : Mem → Mem) (rP : Mem → Prop) {dr : Nat} (rT : ∀  (M : Mem), rP M → Ms g dr m12_sum [.ref 0] M (none) ((rF M))) (xs0 : Int32) (M : Mem) (hp : P_12_one_173 rF rP xs0 M) : Rn g (dr + 6) m12_one 173 [some (.ref 0), none, none] [.int xs0] M (none) ((F_12_one_173 rF xs0 M)) := by
  rw [F_12_one_173]
  rw [P_12_one_173] at hp
  refine b12_one_173  (fun h => ?_) (fun h => ?_)
  · rw [if_pos h]
    have hp := hp.1 h
    obtain ⟨hc, hp⟩ := hp
    refine b12_one_188  (C_12_number 0 999 M hc) (by omega) ?_
    exact T_12_one_198 rF rP rT ((F_12_number_0 0 999 M).1) 0 ((F_12_number_0 0 999 M).2) hp
  · rw [if_neg h]
    have hp := hp.2 h
    have hc := hp
    refine b12_one_179  (C_12_notes 1 xs0 M hc) (by omega) ?_
    exact T_12_one_185 rF rP rT (F_12_notes_0 1 xs0 M)
def F_12_one_56 (rF : Mem → Mem) (xs0 : Int32) (M : Mem) : Mem := if xs0 = (-1) then (if (F_12_byteAt_0 M (rd M 0 4)) = 40 then (F_12_one_134 rF ((F_12_opensOne_0 M).1) ((F_12_opensOne_0 M).2)) else (F_12_one_173 rF ((F_12_knownHere_0 M).1) ((F_12_knownHere_0 M).2))) else (F_12_one_66 rF xs0 ((F_12_opensOne_0 M).1) ((F_12_opensOne_0 M).2))
def P_12_one_56 (rF : Mem → Mem) (rP : Mem → Prop) (xs0 : Int32) (M : Mem) : Prop := ((xs0 = (-1) → ((P_12_byteAt_0 M (rd M 0 4)) ∧ (((¬ (F_12_byteAt_0 M (rd M 0 4)) = 40 → ((P_12_knownHere_0 M) ∧ (P_12_one_173 rF rP ((F_12_knownHere_0 M).1) ((F_12_knownHere_0 M).2)))) ∧ ((F_12_byteAt_0 M (rd M 0 4)) = 40 → ((P_12_one_134 rF rP ((F_12_opensOne_0 M).1) ((F_12_opensOne_0 M).2)))))))) ∧ (¬ xs0 = (-1) → ((P_12_one_66 rF rP xs0 ((F_12_opensOne_0 M).1) ((F_12_opensOne_0 M).2)))))
theorem T_12_one_56 {g : Gl} (rF : Mem → Mem) (rP : Mem → Prop) {dr : Nat} (rT : ∀  (M : Mem), rP M → Ms g dr m12_sum [.ref 0] M (none) ((rF M))) (xs0 : Int32) (M : Mem) (hp : P_12_one_56 rF rP xs0 M) : Rn g (dr + 6) m12_one 56 [some (.ref 0), none, none] [.int xs0] M (none) ((F_12_one_56 rF xs0 M)) := by
  rw [F_12_one_56]
  rw [P_12_one_56] at hp
  refine b12_one_56  (fun h => ?_) (fun h => ?_)
  · rw [if_pos h]
    have hp := hp.1 h
    obtain ⟨hc, hp⟩ := hp
    refine b12_one_117  (C_12_byteAt (rd M 0 4) M hc) (by omega) ?_
    refine b12_one_125  (fun h => ?_) (fun h => ?_)
    · rw [if_neg h]
      have hp := hp.1 h
      obtain ⟨hc, hp⟩ := hp
      refine b12_one_169  (C_12_knownHere  M hc) (by omega) ?_
      exact T_12_one_173 rF rP rT ((F_12_knownHere_0 M).1) ((F_12_knownHere_0 M).2) hp
    · rw [if_pos h]
      have hp := hp.2 h
      refine b12_one_130  (C_12_opensOne  M) (by omega) ?_
      exact T_12_one_134 rF rP rT ((F_12_opensOne_0 M).1) ((F_12_opensOne_0 M).2) hp
  · rw [if_neg h]
    have hp := hp.2 h
    refine b12_one_62  (C_12_opensOne  M) (by omega) ?_
    exact T_12_one_66 rF rP rT xs0 ((F_12_opensOne_0 M).1) ((F_12_opensOne_0 M).2) hp
def F_12_one_47 (rF : Mem → Mem) (xs0 : Int32) (M : Mem) : Mem := if xs0 = 0 then (F_12_one_56 rF (-1) M) else (F_12_one_56 rF 8 M)
def P_12_one_47 (rF : Mem → Mem) (rP : Mem → Prop) (xs0 : Int32) (M : Mem) : Prop := ((xs0 = 0 → (P_12_one_56 rF rP (-1) M)) ∧ (¬ xs0 = 0 → (P_12_one_56 rF rP 8 M)))
theorem T_12_one_47 {g : Gl} (rF : Mem → Mem) (rP : Mem → Prop) {dr : Nat} (rT : ∀  (M : Mem), rP M → Ms g dr m12_sum [.ref 0] M (none) ((rF M))) (xs0 : Int32) (M : Mem) (hp : P_12_one_47 rF rP xs0 M) : Rn g (dr + 6) m12_one 47 [some (.ref 0), none, none] [.int xs0] M (none) ((F_12_one_47 rF xs0 M)) := by
  rw [F_12_one_47]
  rw [P_12_one_47] at hp
  refine b12_one_47  (fun h => ?_) (fun h => ?_)
  · rw [if_pos h]
    have hp := hp.1 h
    refine b12_one_55  ?_
    exact T_12_one_56 rF rP rT (-1) M hp
  · rw [if_neg h]
    have hp := hp.2 h
    refine b12_one_50  ?_
    exact T_12_one_56 rF rP rT 8 M hp
def F_12_one_25 (rF : Mem → Mem) (xs0 : Int32) (M : Mem) : Mem := if xs0 = 0 then (F_12_one_47 rF ((F_12_isWord_0 13 15 19 20 0 0 M).1) ((F_12_isWord_0 13 15 19 20 0 0 M).2)) else (F_12_one_56 rF 7 M)
def P_12_one_25 (rF : Mem → Mem) (rP : Mem → Prop) (xs0 : Int32) (M : Mem) : Prop := ((xs0 = 0 → ((P_12_isWord_0 13 15 19 20 0 0 M) ∧ (P_12_one_47 rF rP ((F_12_isWord_0 13 15 19 20 0 0 M).1) ((F_12_isWord_0 13 15 19 20 0 0 M).2)))) ∧ (¬ xs0 = 0 → (P_12_one_56 rF rP 7 M)))
theorem T_12_one_25 {g : Gl} (rF : Mem → Mem) (rP : Mem → Prop) {dr : Nat} (rT : ∀  (M : Mem), rP M → Ms g dr m12_sum [.ref 0] M (none) ((rF M))) (xs0 : Int32) (M : Mem) (hp : P_12_one_25 rF rP xs0 M) : Rn g (dr + 6) m12_one 25 [some (.ref 0), none, none] [.int xs0] M (none) ((F_12_one_25 rF xs0 M)) := by
  rw [F_12_one_25]
  rw [P_12_one_25] at hp
  refine b12_one_25  (fun h => ?_) (fun h => ?_)
  · rw [if_pos h]
    have hp := hp.1 h
    obtain ⟨hc, hp⟩ := hp
    refine b12_one_33  (C_12_isWord 13 15 19 20 0 0 M hc) (by omega) ?_
    exact T_12_one_47 rF rP rT ((F_12_isWord_0 13 15 19 20 0 0 M).1) ((F_12_isWord_0 13 15 19 20 0 0 M).2) hp
  · rw [if_neg h]
    have hp := hp.2 h
    refine b12_one_28  ?_
    exact T_12_one_56 rF rP rT 7 M hp
def F_12_one_12 (rF : Mem → Mem) (M : Mem) : Mem := F_12_one_25 rF ((F_12_isWord_0 12 5 1 19 20 0 M).1) ((F_12_isWord_0 12 5 1 19 20 0 M).2)
def P_12_one_12 (rF : Mem → Mem) (rP : Mem → Prop) (M : Mem) : Prop := ((P_12_isWord_0 12 5 1 19 20 0 M) ∧ (P_12_one_25 rF rP ((F_12_isWord_0 12 5 1 19 20 0 M).1) ((F_12_isWord_0 12 5 1 19 20 0 M).2)))
theorem T_12_one_12 {g : Gl} (rF : Mem → Mem) (rP : Mem → Prop) {dr : Nat} (rT : ∀  (M : Mem), rP M → Ms g dr m12_sum [.ref 0] M (none) ((rF M))) (M : Mem) (hp : P_12_one_12 rF rP M) : Rn g (dr + 6) m12_one 12 [some (.ref 0), none, none] [] M (none) ((F_12_one_12 rF M)) := by
  rw [F_12_one_12]
  rw [P_12_one_12] at hp
  obtain ⟨hc, hp⟩ := hp
  refine b12_one_12  (C_12_isWord 12 5 1 19 20 0 M hc) (by omega) ?_
  exact T_12_one_25 rF rP rT ((F_12_isWord_0 12 5 1 19 20 0 M).1) ((F_12_isWord_0 12 5 1 19 20 0 M).2) hp
def F_12_one_0 (rF : Mem → Mem) (M : Mem) : Mem := if (rd M 0 5) = 0 then (F_12_one_12 rF (F_12_blanks_0 FU M)) else (M)
def P_12_one_0 (rF : Mem → Mem) (rP : Mem → Prop) (M : Mem) : Prop := (((rd M 0 5) = 0 → ((P_12_blanks_0 FU M) ∧ (P_12_one_12 rF rP (F_12_blanks_0 FU M)))) ∧ (¬ (rd M 0 5) = 0 → True))
theorem T_12_one_0 {g : Gl} (rF : Mem → Mem) (rP : Mem → Prop) {dr : Nat} (rT : ∀  (M : Mem), rP M → Ms g dr m12_sum [.ref 0] M (none) ((rF M))) (M : Mem) (hp : P_12_one_0 rF rP M) : Rn g (dr + 6) m12_one 0 [some (.ref 0), none, none] [] M (none) ((F_12_one_0 rF M)) := by
  rw [F_12_one_0]
  rw [P_12_one_0] at hp
  refine b12_one_0  (fun h => ?_) (fun h => ?_)
  · rw [if_pos h]
    have hp := hp.1 h
    obtain ⟨hc, hp⟩ := hp
    refine b12_one_8  (C_12_blanks  M hc) (by omega) ?_
    exact T_12_one_12 rF rP rT (F_12_blanks_0 FU M) hp
  · rw [if_neg h]
    exact b12_one_7  rfl rfl
theorem C_12_one {g : Gl} (rF : Mem → Mem) (rP : Mem → Prop) {dr : Nat} (rT : ∀  (M : Mem), rP M → Ms g dr m12_sum [.ref 0] M (none) ((rF M)))  (M : Mem) (hp : P_12_one_0 rF rP M) : Ms g (dr + 6) m12_one [.ref 0] M (none) ((F_12_one_0 rF M)) := Ms.of okM_m12_one (Nat.le_of_ble_eq_true rfl) (R_wk (lc rfl (ln (ln l0))) (T_12_one_0 rF rP rT M hp))
