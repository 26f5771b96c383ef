def F_12_behindDoor_72 (k6 : Int32 → Int32 → Int32 → Int32 → Mem → Int32 × Mem) (x1 : Int32) (x2 : Int32) (x5 : Int32) (xs0 : Int32) (xs1 : Int32) (M : Mem) : Int32 × Mem := k6 x1 x2 (xs1 - xs0) (x5 + 1) M
def P_12_behindDoor_72 (pk6 : Int32 → Int32 → Int32 → Int32 → Mem → Prop) (x1 : Int32) (x2 : Int32) (x5 : Int32) (xs0 : Int32) (xs1 : Int32) (M : Mem) : Prop := (pk6 x1 x2 (xs1 - xs0) (x5 + 1) M)
theorem T_12_behindDoor_72 {g : Gl} (k6 : Int32 → Int32 → Int32 → Int32 → Mem → Int32 × Mem) (pk6 : Int32 → Int32 → Int32 → Int32 → Mem → Prop) (ih6 : ∀ (x1 : Int32) (x2 : Int32) (x4 : Int32) (x5 : Int32) (M : Mem), pk6 x1 x2 x4 x5 M → Rn g 6 m12_behindDoor 6 [some (.ref 0), some (.int x1), some (.int x2), none, some (.int x4), some (.int x5)] [] M (some (.int (k6 x1 x2 x4 x5 M).1)) ((k6 x1 x2 x4 x5 M).2)) (x1 : Int32) (x2 : Int32) (x5 : Int32) (xs0 : Int32) (xs1 : Int32) (M : Mem) (hp : P_12_behindDoor_72 pk6 x1 x2 x5 xs0 xs1 M) : Rn g 6 m12_behindDoor 72 [some (.ref 0), some (.int x1), some (.int x2), none, none, some (.int x5)] [.int xs0, .int xs1] M (some (.int (F_12_behindDoor_72 k6 x1 x2 x5 xs0 xs1 M).1)) ((F_12_behindDoor_72 k6 x1 x2 x5 xs0 xs1 M).2) := by
  rw [F_12_behindDoor_72]
  rw [P_12_behindDoor_72] at hp
  refine b12_behindDoor_72  ?_
  exact ih6 x1 x2 (xs1 - xs0) (x5 + 1) M hp
def F_12_behindDoor_71 (k6 : Int32 → Int32 → Int32 → Int32 → Mem → Int32 × Mem) (x1 : Int32) (x2 : Int32) (x5 : Int32) (xs0 : Int32) (M : Mem) : Int32 × Mem := F_12_behindDoor_72 k6 x1 x2 x5 0 xs0 M
def P_12_behindDoor_71 (pk6 : Int32 → Int32 → Int32 → Int32 → Mem → Prop) (x1 : Int32) (x2 : Int32) (x5 : Int32) (xs0 : Int32) (M : Mem) : Prop := (P_12_behindDoor_72 pk6 x1 x2 x5 0 xs0 M)
theorem T_12_behindDoor_71 {g : Gl} (k6 : Int32 → Int32 → Int32 → Int32 → Mem → Int32 × Mem) (pk6 : Int32 → Int32 → Int32 → Int32 → Mem → Prop) (ih6 : ∀ (x1 : Int32) (x2 : Int32) (x4 : Int32) (x5 : Int32) (M : Mem), pk6 x1 x2 x4 x5 M → Rn g 6 m12_behindDoor 6 [some (.ref 0), some (.int x1), some (.int x2), none, some (.int x4), some (.int x5)] [] M (some (.int (k6 x1 x2 x4 x5 M).1)) ((k6 x1 x2 x4 x5 M).2)) (x1 : Int32) (x2 : Int32) (x5 : Int32) (xs0 : Int32) (M : Mem) (hp : P_12_behindDoor_71 pk6 x1 x2 x5 xs0 M) : Rn g 6 m12_behindDoor 71 [some (.ref 0), some (.int x1), some (.int x2), none, none, some (.int x5)] [.int xs0] M (some (.int (F_12_behindDoor_71 k6 x1 x2 x5 xs0 M).1)) ((F_12_behindDoor_71 k6 x1 x2 x5 xs0 M).2) := by
  rw [F_12_behindDoor_71]
  rw [P_12_behindDoor_71] at hp
  refine b12_behindDoor_71  ?_
  exact T_12_behindDoor_72 k6 pk6 ih6 x1 x2 x5 0 xs0 M hp
def F_12_behindDoor_64 (k6 : Int32 → Int32 → Int32 → Int32 → Mem → Int32 × Mem) (x1 : Int32) (x2 : Int32) (x5 : Int32) (xs0 : Int32) (xs1 : Int32) (M : Mem) : Int32 × Mem := if xs0 = 0 then (F_12_behindDoor_71 k6 x1 x2 x5 xs1 M) else (F_12_behindDoor_72 k6 x1 x2 x5 1 xs1 M)
def P_12_behindDoor_64 (pk6 : Int32 → Int32 → Int32 → Int32 → Mem → Prop) (x1 : Int32) (x2 : Int32) (x5 : Int32) (xs0 : Int32) (xs1 : Int32) (M : Mem) : Prop := ((xs0 = 0 → P_12_behindDoor_71 pk6 x1 x2 x5 xs1 M) ∧ (¬ xs0 = 0 → (P_12_behindDoor_72 pk6 x1 x2 x5 1 xs1 M)))
theorem T_12_behindDoor_64 {g : Gl} (k6 : Int32 → Int32 → Int32 → Int32 → Mem → Int32 × Mem) (pk6 : Int32 → Int32 → Int32 → Int32 → Mem → Prop) (ih6 : ∀ (x1 : Int32) (x2 : Int32) (x4 : Int32) (x5 : Int32) (M : Mem), pk6 x1 x2 x4 x5 M → Rn g 6 m12_behindDoor 6 [some (.ref 0), some (.int x1), some (.int x2), none, some (.int x4), some (.int x5)] [] M (some (.int (k6 x1 x2 x4 x5 M).1)) ((k6 x1 x2 x4 x5 M).2)) (x1 : Int32) (x2 : Int32) (x5 : Int32) (xs0 : Int32) (xs1 : Int32) (M : Mem) (hp : P_12_behindDoor_64 pk6 x1 x2 x5 xs0 xs1 M) : Rn g 6 m12_behindDoor 64 [some (.ref 0), some (.int x1), some (.int x2), none, none, some (.int x5)] [.int xs0, .int xs1] M (some (.int (F_12_behindDoor_64 k6 x1 x2 x5 xs0 xs1 M).1)) ((F_12_behindDoor_64 k6 x1 x2 x5 xs0 xs1 M).2) := by
  rw [F_12_behindDoor_64]
  rw [P_12_behindDoor_64] at hp
  refine b12_behindDoor_64  (fun h => ?_) (fun h => ?_)
  · rw [if_pos h]
    have hp := hp.1 h
    exact T_12_behindDoor_71 k6 pk6 ih6 x1 x2 x5 xs1 M hp
  · rw [if_neg h]
    have hp := hp.2 h
    refine b12_behindDoor_67  ?_
    exact T_12_behindDoor_72 k6 pk6 ih6 x1 x2 x5 1 xs1 M hp
def F_12_behindDoor_38 (k6 : Int32 → Int32 → Int32 → Int32 → Mem → Int32 × Mem) (x1 : Int32) (x2 : Int32) (x4 : Int32) (x5 : Int32) (M : Mem) : Int32 × Mem := if (rd M (54 + x5.toNatClampNeg) ((0 : Int32).toNatClampNeg)) = x1 then (F_12_behindDoor_64 k6 x1 x2 x5 ((F_12_isOpenIn_0 x5 x2 M).1) x4 ((F_12_isOpenIn_0 x5 x2 M).2)) else (F_12_behindDoor_71 k6 x1 x2 x5 x4 M)
def P_12_behindDoor_38 (pk6 : Int32 → Int32 → Int32 → Int32 → Mem → Prop) (x1 : Int32) (x2 : Int32) (x4 : Int32) (x5 : Int32) (M : Mem) : Prop := (vp_in x5 24) ∧ ((¬ (rd M (54 + x5.toNatClampNeg) ((0 : Int32).toNatClampNeg)) = x1 → P_12_behindDoor_71 pk6 x1 x2 x5 x4 M) ∧ ((rd M (54 + x5.toNatClampNeg) ((0 : Int32).toNatClampNeg)) = x1 → ((P_12_isOpenIn_0 x5 x2 M) ∧ (P_12_behindDoor_64 pk6 x1 x2 x5 ((F_12_isOpenIn_0 x5 x2 M).1) x4 ((F_12_isOpenIn_0 x5 x2 M).2)))))
theorem T_12_behindDoor_38 {g : Gl} (k6 : Int32 → Int32 → Int32 → Int32 → Mem → Int32 × Mem) (pk6 : Int32 → Int32 → Int32 → Int32 → Mem → Prop) (ih6 : ∀ (x1 : Int32) (x2 : Int32) (x4 : Int32) (x5 : Int32) (M : Mem), pk6 x1 x2 x4 x5 M → Rn g 6 m12_behindDoor 6 [some (.ref 0), some (.int x1), some (.int x2), none, some (.int x4), some (.int x5)] [] M (some (.int (k6 x1 x2 x4 x5 M).1)) ((k6 x1 x2 x4 x5 M).2)) (x1 : Int32) (x2 : Int32) (x4 : Int32) (x5 : Int32) (M : Mem) (hp : P_12_behindDoor_38 pk6 x1 x2 x4 x5 M) : Rn g 6 m12_behindDoor 38 [some (.ref 0), some (.int x1), some (.int x2), none, some (.int x4), some (.int x5)] [] M (some (.int (F_12_behindDoor_38 k6 x1 x2 x4 x5 M).1)) ((F_12_behindDoor_38 k6 x1 x2 x4 x5 M).2) := by
  rw [F_12_behindDoor_38]
  rw [P_12_behindDoor_38] at hp
  obtain ⟨p0, hp⟩ := hp
  refine b12_behindDoor_38 p0 (vpl (by decide)) (fun h => ?_) (fun h => ?_)
  · rw [if_neg h]
    have hp := hp.1 h
    exact T_12_behindDoor_71 k6 pk6 ih6 x1 x2 x5 x4 M hp
  · rw [if_pos h]
    have hp := hp.2 h
    obtain ⟨hc, hp⟩ := hp
    refine b12_behindDoor_53  (C_12_isOpenIn x5 x2 M hc) (Nat.le_of_ble_eq_true rfl) ?_
    exact T_12_behindDoor_64 k6 pk6 ih6 x1 x2 x5 ((F_12_isOpenIn_0 x5 x2 M).1) x4 ((F_12_isOpenIn_0 x5 x2 M).2) hp
def F_12_behindDoor_30 (k6 : Int32 → Int32 → Int32 → Int32 → Mem → Int32 × Mem) (x1 : Int32) (x2 : Int32) (x4 : Int32) (x5 : Int32) (xs0 : Int32) (M : Mem) : Int32 × Mem := if xs0 = 0 then (F_12_behindDoor_38 k6 x1 x2 x4 x5 M) else (if x4 ≤ 0 then ((rd M (54 + x5.toNatClampNeg) ((1 : Int32).toNatClampNeg), M)) else (F_12_behindDoor_38 k6 x1 x2 x4 x5 M))
def P_12_behindDoor_30 (pk6 : Int32 → Int32 → Int32 → Int32 → Mem → Prop) (x1 : Int32) (x2 : Int32) (x4 : Int32) (x5 : Int32) (xs0 : Int32) (M : Mem) : Prop := ((xs0 = 0 → P_12_behindDoor_38 pk6 x1 x2 x4 x5 M) ∧ (¬ xs0 = 0 → ((x4 ≤ 0 → (vp_in x5 24)) ∧ (¬ x4 ≤ 0 → P_12_behindDoor_38 pk6 x1 x2 x4 x5 M))))
theorem T_12_behindDoor_30 {g : Gl} (k6 : Int32 → Int32 → Int32 → Int32 → Mem → Int32 × Mem) (pk6 : Int32 → Int32 → Int32 → Int32 → Mem → Prop) (ih6 : ∀ (x1 : Int32) (x2 : Int32) (x4 : Int32) (x5 : Int32) (M : Mem), pk6 x1 x2 x4 x5 M → Rn g 6 m12_behindDoor 6 [some (.ref 0), some (.int x1), some (.int x2), none, some (.int x4), some (.int x5)] [] M (some (.int (k6 x1 x2 x4 x5 M).1)) ((k6 x1 x2 x4 x5 M).2)) (x1 : Int32) (x2 : Int32) (x4 : Int32) (x5 : Int32) (xs0 : Int32) (M : Mem) (hp : P_12_behindDoor_30 pk6 x1 x2 x4 x5 xs0 M) : Rn g 6 m12_behindDoor 30 [some (.ref 0), some (.int x1), some (.int x2), none, some (.int x4), some (.int x5)] [.int xs0] M (some (.int (F_12_behindDoor_30 k6 x1 x2 x4 x5 xs0 M).1)) ((F_12_behindDoor_30 k6 x1 x2 x4 x5 xs0 M).2) := by
  rw [F_12_behindDoor_30]
  rw [P_12_behindDoor_30] at hp
  refine b12_behindDoor_30  (fun h => ?_) (fun h => ?_)
  · rw [if_pos h]
    have hp := hp.1 h
    exact T_12_behindDoor_38 k6 pk6 ih6 x1 x2 x4 x5 M hp
  · rw [if_neg h]
    have hp := hp.2 h
    refine b12_behindDoor_33  (fun h => ?_) (fun h => ?_)
    · rw [if_pos h]
      have hp := hp.1 h
      have p0 := hp
      exact b12_behindDoor_81 p0 (vpl (by decide)) rfl rfl
    · rw [if_neg h]
      have hp := hp.2 h
      exact T_12_behindDoor_38 k6 pk6 ih6 x1 x2 x4 x5 M hp
def F_12_behindDoor_6  : Nat → Int32 → Int32 → Int32 → Int32 → Mem → Int32 × Mem
  | 0, _, _, _, _, M => (0, M)
  | n + 1, x1, x2, x4, x5, M => if (rd M (54 + x5.toNatClampNeg) ((0 : Int32).toNatClampNeg)) = x1 then (F_12_behindDoor_30 (F_12_behindDoor_6 n) x1 x2 x4 x5 ((F_12_isOpenIn_0 x5 x2 M).1) ((F_12_isOpenIn_0 x5 x2 M).2)) else (F_12_behindDoor_38 (F_12_behindDoor_6 n) x1 x2 x4 x5 M)
def P_12_behindDoor_6  : Nat → Int32 → Int32 → Int32 → Int32 → Mem → Prop
  | 0, _, _, _, _, _ => False
  | n + 1, x1, x2, x4, x5, M => (vp_in x5 24) ∧ ((¬ (rd M (54 + x5.toNatClampNeg) ((0 : Int32).toNatClampNeg)) = x1 → P_12_behindDoor_38 (P_12_behindDoor_6 n) x1 x2 x4 x5 M) ∧ ((rd M (54 + x5.toNatClampNeg) ((0 : Int32).toNatClampNeg)) = x1 → ((P_12_isOpenIn_0 x5 x2 M) ∧ (P_12_behindDoor_30 (P_12_behindDoor_6 n) x1 x2 x4 x5 ((F_12_isOpenIn_0 x5 x2 M).1) ((F_12_isOpenIn_0 x5 x2 M).2)))))
theorem T_12_behindDoor_6 {g : Gl} : ∀ (n : Nat) (x1 : Int32) (x2 : Int32) (x4 : Int32) (x5 : Int32) (M : Mem) (hp : P_12_behindDoor_6 n x1 x2 x4 x5 M), Rn g 6 m12_behindDoor 6 [some (.ref 0), some (.int x1), some (.int x2), none, some (.int x4), some (.int x5)] [] M (some (.int (F_12_behindDoor_6 n x1 x2 x4 x5 M).1)) ((F_12_behindDoor_6 n x1 x2 x4 x5 M).2) := by
  intro n
  induction n with
  | zero => intro x1 x2 x4 x5 M hp; exact hp.elim
  | succ n ih =>
    intro x1 x2 x4 x5 M hp
    rw [F_12_behindDoor_6]
    rw [P_12_behindDoor_6] at hp
    obtain ⟨p0, hp⟩ := hp
    refine b12_behindDoor_6 p0 (vpl (by decide)) (fun h => ?_) (fun h => ?_)
    · rw [if_neg h]
      have hp := hp.1 h
      exact T_12_behindDoor_38 (F_12_behindDoor_6 n) (P_12_behindDoor_6 n) ih x1 x2 x4 x5 M hp
    · rw [if_pos h]
      have hp := hp.2 h
      obtain ⟨hc, hp⟩ := hp
      refine b12_behindDoor_19  (C_12_isOpenIn x5 x2 M hc) (Nat.le_of_ble_eq_true rfl) ?_
      exact T_12_behindDoor_30 (F_12_behindDoor_6 n) (P_12_behindDoor_6 n) ih x1 x2 x4 x5 ((F_12_isOpenIn_0 x5 x2 M).1) ((F_12_isOpenIn_0 x5 x2 M).2) hp
def F_12_behindDoor_0 (x1 : Int32) (x2 : Int32) (x3 : Int32) (M : Mem) : Int32 × Mem := F_12_behindDoor_6 FU x1 x2 x3 0 M
def P_12_behindDoor_0 (x1 : Int32) (x2 : Int32) (x3 : Int32) (M : Mem) : Prop := (P_12_behindDoor_6 FU x1 x2 x3 0 M)
theorem T_12_behindDoor_0 {g : Gl} (x1 : Int32) (x2 : Int32) (x3 : Int32) (M : Mem) (hp : P_12_behindDoor_0 x1 x2 x3 M) : Rn g 6 m12_behindDoor 0 [some (.ref 0), some (.int x1), some (.int x2), some (.int x3), none, none] [] M (some (.int (F_12_behindDoor_0 x1 x2 x3 M).1)) ((F_12_behindDoor_0 x1 x2 x3 M).2) := by
  rw [F_12_behindDoor_0]
  rw [P_12_behindDoor_0] at hp
  refine b12_behindDoor_0  ?_
  exact T_12_behindDoor_6 FU x1 x2 x3 0 M hp
theorem C_12_behindDoor {g : Gl}  (x1 : Int32) (x2 : Int32) (x3 : Int32) (M : Mem) (hp : P_12_behindDoor_0 x1 x2 x3 M) : Ms g 6 m12_behindDoor [.ref 0, .int x1, .int x2, .int x3] M (some (.int (F_12_behindDoor_0 x1 x2 x3 M).1)) ((F_12_behindDoor_0 x1 x2 x3 M).2) := Ms.of okM_m12_behindDoor (Nat.le_of_ble_eq_true rfl) (R_wk (lc rfl (lc rfl (lc rfl (lc rfl (ln (ln l0)))))) (T_12_behindDoor_0 x1 x2 x3 M hp))
def F_12_walksBy_115 (k21 : Int32 → Int32 → Int32 → Int32 → Mem → Int32 × Mem) (x3 : Int32) (x4 : Int32) (x5 : Int32) (x6 : Int32) (M : Mem) : Int32 × Mem := k21 x3 x4 x5 (x6 + 1) M
def P_12_walksBy_115 (pk21 : Int32 → Int32 → Int32 → Int32 → Mem → Prop) (x3 : Int32) (x4 : Int32) (x5 : Int32) (x6 : Int32) (M : Mem) : Prop := (pk21 x3 x4 x5 (x6 + 1) M)
theorem T_12_walksBy_115 {g : Gl} (k21 : Int32 → Int32 → Int32 → Int32 → Mem → Int32 × Mem) (pk21 : Int32 → Int32 → Int32 → Int32 → Mem → Prop) (ih21 : ∀ (x3 : Int32) (x4 : Int32) (x5 : Int32) (x6 : Int32) (M : Mem), pk21 x3 x4 x5 x6 M → Rn g 7 m12_walksBy 21 [some (.ref 0), none, none, some (.int x3), some (.int x4), some (.int x5), some (.int x6), none, none] [] M (some (.int (k21 x3 x4 x5 x6 M).1)) ((k21 x3 x4 x5 x6 M).2)) (x3 : Int32) (x4 : Int32) (x5 : Int32) (x6 : Int32) (M : Mem) (hp : P_12_walksBy_115 pk21 x3 x4 x5 x6 M) : Rn g 7 m12_walksBy 115 [some (.ref 0), none, none, some (.int x3), some (.int x4), some (.int x5), some (.int x6), none, none] [] M (some (.int (F_12_walksBy_115 k21 x3 x4 x5 x6 M).1)) ((F_12_walksBy_115 k21 x3 x4 x5 x6 M).2) := by
  rw [F_12_walksBy_115]
  rw [P_12_walksBy_115] at hp
  refine b12_walksBy_115  ?_
  exact ih21 x3 x4 x5 (x6 + 1) M hp
def F_12_walksBy_90 (k21 : Int32 → Int32 → Int32 → Int32 → Mem → Int32 × Mem) (x3 : Int32) (x4 : Int32) (x6 : Int32) (xs0 : Int32) (M : Mem) : Int32 × Mem := F_12_walksBy_115 k21 x3 x4 xs0 x6 (wr (wr M 0 49 ((rd M 0 49) ||| ((1 : Int32) <<< (xs0 &&& 31)))) 0 50 ((rd (wr M 0 49 ((rd M 0 49) ||| ((1 : Int32) <<< (xs0 &&& 31)))) 0 50) + 1))
def P_12_walksBy_90 (pk21 : Int32 → Int32 → Int32 → Int32 → Mem → Prop) (x3 : Int32) (x4 : Int32) (x6 : Int32) (xs0 : Int32) (M : Mem) : Prop := (P_12_walksBy_115 pk21 x3 x4 xs0 x6 (wr (wr M 0 49 ((rd M 0 49) ||| ((1 : Int32) <<< (xs0 &&& 31)))) 0 50 ((rd (wr M 0 49 ((rd M 0 49) ||| ((1 : Int32) <<< (xs0 &&& 31)))) 0 50) + 1)))
theorem T_12_walksBy_90 {g : Gl} (k21 : Int32 → Int32 → Int32 → Int32 → Mem → Int32 × Mem) (pk21 : Int32 → Int32 → Int32 → Int32 → Mem → Prop) (ih21 : ∀ (x3 : Int32) (x4 : Int32) (x5 : Int32) (x6 : Int32) (M : Mem), pk21 x3 x4 x5 x6 M → Rn g 7 m12_walksBy 21 [some (.ref 0), none, none, some (.int x3), some (.int x4), some (.int x5), some (.int x6), none, none] [] M (some (.int (k21 x3 x4 x5 x6 M).1)) ((k21 x3 x4 x5 x6 M).2)) (x3 : Int32) (x4 : Int32) (x6 : Int32) (xs0 : Int32) (M : Mem) (hp : P_12_walksBy_90 pk21 x3 x4 x6 xs0 M) : Rn g 7 m12_walksBy 90 [some (.ref 0), none, none, some (.int x3), some (.int x4), none, some (.int x6), none, none] [.int xs0] M (some (.int (F_12_walksBy_90 k21 x3 x4 x6 xs0 M).1)) ((F_12_walksBy_90 k21 x3 x4 x6 xs0 M).2) := by
  rw [F_12_walksBy_90]
  rw [P_12_walksBy_90] at hp
  refine b12_walksBy_90  ?_
  exact T_12_walksBy_115 k21 pk21 ih21 x3 x4 xs0 x6 (wr (wr M 0 49 ((rd M 0 49) ||| ((1 : Int32) <<< (xs0 &&& 31)))) 0 50 ((rd (wr M 0 49 ((rd M 0 49) ||| ((1 : Int32) <<< (xs0 &&& 31)))) 0 50) + 1)) hp
def F_12_walksBy_48 (k21 : Int32 → Int32 → Int32 → Int32 → Mem → Int32 × Mem) (x3 : Int32) (x4 : Int32) (x5 : Int32) (x6 : Int32) (x7 : Int32) (xs0 : Int32) (M : Mem) : Int32 × Mem := if xs0 = 0 then (F_12_walksBy_115 k21 x3 x4 x5 x6 M) else (F_12_walksBy_90 k21 x3 ((x4 * 1103515245) + 12345) x6 ((F_12_behindDoor_0 x5 x7 (((((x4 * 1103515245) + 12345) >>> ((16 : Int32) &&& 31)) &&& 32767) - ((((x4 * 1103515245) + 12345) >>> ((16 : Int32) &&& 31)) &&& 32767) / xs0 * xs0) M).1) ((F_12_behindDoor_0 x5 x7 (((((x4 * 1103515245) + 12345) >>> ((16 : Int32) &&& 31)) &&& 32767) - ((((x4 * 1103515245) + 12345) >>> ((16 : Int32) &&& 31)) &&& 32767) / xs0 * xs0) M).2))
def P_12_walksBy_48 (pk21 : Int32 → Int32 → Int32 → Int32 → Mem → Prop) (x3 : Int32) (x4 : Int32) (x5 : Int32) (x6 : Int32) (x7 : Int32) (xs0 : Int32) (M : Mem) : Prop := ((¬ xs0 = 0 → (¬ xs0 = 0) ∧ ((P_12_behindDoor_0 x5 x7 (((((x4 * 1103515245) + 12345) >>> ((16 : Int32) &&& 31)) &&& 32767) - ((((x4 * 1103515245) + 12345) >>> ((16 : Int32) &&& 31)) &&& 32767) / xs0 * xs0) M) ∧ (P_12_walksBy_90 pk21 x3 ((x4 * 1103515245) + 12345) x6 ((F_12_behindDoor_0 x5 x7 (((((x4 * 1103515245) + 12345) >>> ((16 : Int32) &&& 31)) &&& 32767) - ((((x4 * 1103515245) + 12345) >>> ((16 : Int32) &&& 31)) &&& 32767) / xs0 * xs0) M).1) ((F_12_behindDoor_0 x5 x7 (((((x4 * 1103515245) + 12345) >>> ((16 : Int32) &&& 31)) &&& 32767) - ((((x4 * 1103515245) + 12345) >>> ((16 : Int32) &&& 31)) &&& 32767) / xs0 * xs0) M).2)))) ∧ (xs0 = 0 → (P_12_walksBy_115 pk21 x3 x4 x5 x6 M)))
theorem T_12_walksBy_48 {g : Gl} (k21 : Int32 → Int32 → Int32 → Int32 → Mem → Int32 × Mem) (pk21 : Int32 → Int32 → Int32 → Int32 → Mem → Prop) (ih21 : ∀ (x3 : Int32) (x4 : Int32) (x5 : Int32) (x6 : Int32) (M : Mem), pk21 x3 x4 x5 x6 M → Rn g 7 m12_walksBy 21 [some (.ref 0), none, none, some (.int x3), some (.int x4), some (.int x5), some (.int x6), none, none] [] M (some (.int (k21 x3 x4 x5 x6 M).1)) ((k21 x3 x4 x5 x6 M).2)) (x3 : Int32) (x4 : Int32) (x5 : Int32) (x6 : Int32) (x7 : Int32) (xs0 : Int32) (M : Mem) (hp : P_12_walksBy_48 pk21 x3 x4 x5 x6 x7 xs0 M) : Rn g 7 m12_walksBy 48 [some (.ref 0), none, none, some (.int x3), some (.int x4), some (.int x5), some (.int x6), some (.int x7), none] [.int xs0] M (some (.int (F_12_walksBy_48 k21 x3 x4 x5 x6 x7 xs0 M).1)) ((F_12_walksBy_48 k21 x3 x4 x5 x6 x7 xs0 M).2) := by
  rw [F_12_walksBy_48]
  rw [P_12_walksBy_48] at hp
  refine b12_walksBy_48  (fun h => ?_) (fun h => ?_)
  · rw [if_neg h]
    have hp := hp.1 h
    obtain ⟨p0, hp⟩ := hp
    obtain ⟨hc, hp⟩ := hp
    refine b12_walksBy_58 p0 (C_12_behindDoor x5 x7 (((((x4 * 1103515245) + 12345) >>> ((16 : Int32) &&& 31)) &&& 32767) - ((((x4 * 1103515245) + 12345) >>> ((16 : Int32) &&& 31)) &&& 32767) / xs0 * xs0) M hc) (Nat.le_of_ble_eq_true rfl) ?_
    exact T_12_walksBy_90 k21 pk21 ih21 x3 ((x4 * 1103515245) + 12345) x6 ((F_12_behindDoor_0 x5 x7 (((((x4 * 1103515245) + 12345) >>> ((16 : Int32) &&& 31)) &&& 32767) - ((((x4 * 1103515245) + 12345) >>> ((16 : Int32) &&& 31)) &&& 32767) / xs0 * xs0) M).1) ((F_12_behindDoor_0 x5 x7 (((((x4 * 1103515245) + 12345) >>> ((16 : Int32) &&& 31)) &&& 32767) - ((((x4 * 1103515245) + 12345) >>> ((16 : Int32) &&& 31)) &&& 32767) / xs0 * xs0) M).2) hp
  · rw [if_pos h]
    have hp := hp.2 h
    refine b12_walksBy_55  ?_
    exact T_12_walksBy_115 k21 pk21 ih21 x3 x4 x5 x6 M hp
def F_12_walksBy_21  : Nat → Int32 → Int32 → Int32 → Int32 → Mem → Int32 × Mem
  | 0, _, _, _, _, M => (0, M)
  | n + 1, x3, x4, x5, x6, M => if x3 ≤ x6 then ((x5, M)) else (F_12_walksBy_48 (F_12_walksBy_21 n) x3 x4 x5 x6 ((rd M 20 ((55 : Int32).toNatClampNeg)) + x6) ((F_12_doorsOf_0 x5 0 ((rd M 20 ((55 : Int32).toNatClampNeg)) + x6) M).1) ((F_12_doorsOf_0 x5 0 ((rd M 20 ((55 : Int32).toNatClampNeg)) + x6) M).2))
def P_12_walksBy_21  : Nat → Int32 → Int32 → Int32 → Int32 → Mem → Prop
  | 0, _, _, _, _, _ => False
  | n + 1, x3, x4, x5, x6, M => ((x3 ≤ x6 → True) ∧ (¬ x3 ≤ x6 → ((P_12_doorsOf_0 x5 0 ((rd M 20 ((55 : Int32).toNatClampNeg)) + x6) M) ∧ (P_12_walksBy_48 (P_12_walksBy_21 n) x3 x4 x5 x6 ((rd M 20 ((55 : Int32).toNatClampNeg)) + x6) ((F_12_doorsOf_0 x5 0 ((rd M 20 ((55 : Int32).toNatClampNeg)) + x6) M).1) ((F_12_doorsOf_0 x5 0 ((rd M 20 ((55 : Int32).toNatClampNeg)) + x6) M).2)))))
theorem T_12_walksBy_21 {g : Gl} : ∀ (n : Nat) (x3 : Int32) (x4 : Int32) (x5 : Int32) (x6 : Int32) (M : Mem) (hp : P_12_walksBy_21 n x3 x4 x5 x6 M), Rn g 7 m12_walksBy 21 [some (.ref 0), none, none, some (.int x3), some (.int x4), some (.int x5), some (.int x6), none, none] [] M (some (.int (F_12_walksBy_21 n x3 x4 x5 x6 M).1)) ((F_12_walksBy_21 n x3 x4 x5 x6 M).2) := by
  intro n
  induction n with
  | zero => intro x3 x4 x5 x6 M hp; exact hp.elim
  | succ n ih =>
    intro x3 x4 x5 x6 M hp
    rw [F_12_walksBy_21]
    rw [P_12_walksBy_21] at hp
    refine b12_walksBy_21  (fun h => ?_) (fun h => ?_)
    · rw [if_pos h]
      exact b12_walksBy_121  rfl rfl
    · rw [if_neg h]
      have hp := hp.2 h
      obtain ⟨hc, hp⟩ := hp
      refine b12_walksBy_27 (vpl (by decide)) (C_12_doorsOf x5 0 ((rd M 20 ((55 : Int32).toNatClampNeg)) + x6) M hc) (Nat.le_of_ble_eq_true rfl) ?_
      exact T_12_walksBy_48 (F_12_walksBy_21 n) (P_12_walksBy_21 n) ih x3 x4 x5 x6 ((rd M 20 ((55 : Int32).toNatClampNeg)) + x6) ((F_12_doorsOf_0 x5 0 ((rd M 20 ((55 : Int32).toNatClampNeg)) + x6) M).1) ((F_12_doorsOf_0 x5 0 ((rd M 20 ((55 : Int32).toNatClampNeg)) + x6) M).2) hp
def F_12_walksBy_0 (x1 : Int32) (x2 : Int32) (x3 : Int32) (M : Mem) : Int32 × Mem := F_12_walksBy_21 FU x3 x1 x2 0 (wr (wr M 0 49 ((1 : Int32) <<< (x2 &&& 31))) 0 50 0)
def P_12_walksBy_0 (x1 : Int32) (x2 : Int32) (x3 : Int32) (M : Mem) : Prop := (P_12_walksBy_21 FU x3 x1 x2 0 (wr (wr M 0 49 ((1 : Int32) <<< (x2 &&& 31))) 0 50 0))
theorem T_12_walksBy_0 {g : Gl} (x1 : Int32) (x2 : Int32) (x3 : Int32) (M : Mem) (hp : P_12_walksBy_0 x1 x2 x3 M) : Rn g 7 m12_walksBy 0 [some (.ref 0), some (.int x1), some (.int x2), some (.int x3), none, none, none, none, none] [] M (some (.int (F_12_walksBy_0 x1 x2 x3 M).1)) ((F_12_walksBy_0 x1 x2 x3 M).2) := by
  rw [F_12_walksBy_0]
  rw [P_12_walksBy_0] at hp
  refine b12_walksBy_0  ?_
  exact T_12_walksBy_21 FU x3 x1 x2 0 (wr (wr M 0 49 ((1 : Int32) <<< (x2 &&& 31))) 0 50 0) hp
theorem C_12_walksBy {g : Gl}  (x1 : Int32) (x2 : Int32) (x3 : Int32) (M : Mem) (hp : P_12_walksBy_0 x1 x2 x3 M) : Ms g 7 m12_walksBy [.ref 0, .int x1, .int x2, .int x3] M (some (.int (F_12_walksBy_0 x1 x2 x3 M).1)) ((F_12_walksBy_0 x1 x2 x3 M).2) := Ms.of okM_m12_walksBy (Nat.le_of_ble_eq_true rfl) (R_wk (lc rfl (lc rfl (lc rfl (lc rfl (ln (ln (ln (ln (ln l0))))))))) (T_12_walksBy_0 x1 x2 x3 M hp))
def F_12_ones_4 (M : Mem) : Nat → Int32 → Int32 → Int32 → Int32
  | 0, _, _, _ => 0
  | n + 1, x0, x1, x2 => if (10 : Int32) ≤ x2 then (x1) else ((F_12_ones_4 M n) x0 (x1 + ((x0 >>> (x2 &&& 31)) &&& 1)) (x2 + 1))
def P_12_ones_4 (M : Mem) : Nat → Int32 → Int32 → Int32 → Prop
  | 0, _, _, _ => False
  | n + 1, x0, x1, x2 => (((10 : Int32) ≤ x2 → True) ∧ (¬ (10 : Int32) ≤ x2 → ((P_12_ones_4 M n) x0 (x1 + ((x0 >>> (x2 &&& 31)) &&& 1)) (x2 + 1))))
theorem T_12_ones_4 {g : Gl} (M : Mem) : ∀ (n : Nat) (x0 : Int32) (x1 : Int32) (x2 : Int32) (hp : P_12_ones_4 M n x0 x1 x2), Rn g 0 m12_ones 4 [some (.int x0), some (.int x1), some (.int x2)] [] M (some (.int (F_12_ones_4 M n x0 x1 x2))) (M) := by
  intro n
  induction n with
  | zero => intro x0 x1 x2 hp; exact hp.elim
  | succ n ih =>
    intro x0 x1 x2 hp
    rw [F_12_ones_4]
    rw [P_12_ones_4] at hp
    refine b12_ones_4  (fun h => ?_) (fun h => ?_)
    · rw [if_pos h]
      exact b12_ones_24  rfl rfl
    · rw [if_neg h]
      have hp := hp.2 h
      refine b12_ones_10  ?_
      exact ih x0 (x1 + ((x0 >>> (x2 &&& 31)) &&& 1)) (x2 + 1) hp
def F_12_ones_0 (M : Mem) (x0 : Int32) : Int32 := F_12_ones_4 M FU x0 0 0
def P_12_ones_0 (M : Mem) (x0 : Int32) : Prop := (P_12_ones_4 M FU x0 0 0)
theorem T_12_ones_0 {g : Gl} (M : Mem) (x0 : Int32) (hp : P_12_ones_0 M x0) : Rn g 0 m12_ones 0 [some (.int x0), none, none] [] M (some (.int (F_12_ones_0 M x0))) (M) := by
  rw [F_12_ones_0]
  rw [P_12_ones_0] at hp
  refine b12_ones_0  ?_
  exact T_12_ones_4 _ FU x0 0 0 hp
theorem C_12_ones {g : Gl}  (x0 : Int32) (M : Mem) (hp : P_12_ones_0 M x0) : Ms g 0 m12_ones [.int x0] M (some (.int (F_12_ones_0 M x0))) (M) := Ms.of okM_m12_ones (Nat.le_of_ble_eq_true rfl) (R_wk (lc rfl (ln (ln l0))) (T_12_ones_0 M x0 hp))
def F_12_sleepwalk_70 (x4 : Int32) (xs0 : Int32) (M : Mem) : Int32 × Mem := if x4 = 0 then ((xs0, M)) else (if x4 = 1 then (((F_12_ones_0 M (rd M 0 49)), M)) else (((rd M 0 50), M)))
def P_12_sleepwalk_70 (x4 : Int32) (xs0 : Int32) (M : Mem) : Prop := ((¬ x4 = 0 → ((¬ x4 = 1 → True) ∧ (x4 = 1 → ((P_12_ones_0 M (rd M 0 49)))))) ∧ (x4 = 0 → True))
theorem T_12_sleepwalk_70 {g : Gl} (x4 : Int32) (xs0 : Int32) (M : Mem) (hp : P_12_sleepwalk_70 x4 xs0 M) : Rn g 8 m12_sleepwalk 70 [some (.ref 0), none, none, none, some (.int x4), none] [.int xs0] M (some (.int (F_12_sleepwalk_70 x4 xs0 M).1)) ((F_12_sleepwalk_70 x4 xs0 M).2) := by
  rw [F_12_sleepwalk_70]
  rw [P_12_sleepwalk_70] at hp
  refine b12_sleepwalk_70  (fun h => ?_) (fun h => ?_)
  · rw [if_neg h]
    have hp := hp.1 h
    refine b12_sleepwalk_82  (fun h => ?_) (fun h => ?_)
    · rw [if_neg h]
      refine b12_sleepwalk_98  ?_
      exact b12_sleepwalk_102  rfl rfl
    · rw [if_pos h]
      have hp := hp.2 h
      have hc := hp
      refine b12_sleepwalk_88  (C_12_ones (rd M 0 49) M hc) (Nat.le_of_ble_eq_true rfl) ?_
      refine b12_sleepwalk_95  ?_
      exact b12_sleepwalk_102  rfl rfl
  · rw [if_pos h]
    refine b12_sleepwalk_77  ?_
    exact b12_sleepwalk_102  rfl rfl
def F_12_sleepwalk_58 (x1 : Int32) (x2 : Int32) (x3 : Int32) (x4 : Int32) (xs0 : Int32) (M : Mem) : Int32 × Mem := if xs0 = 0 then (F_12_sleepwalk_70 x4 ((F_12_walksBy_0 x1 x2 x3 M).1) ((F_12_walksBy_0 x1 x2 x3 M).2)) else ((0, M))
def P_12_sleepwalk_58 (x1 : Int32) (x2 : Int32) (x3 : Int32) (x4 : Int32) (xs0 : Int32) (M : Mem) : Prop := ((xs0 = 0 → ((P_12_walksBy_0 x1 x2 x3 M) ∧ (P_12_sleepwalk_70 x4 ((F_12_walksBy_0 x1 x2 x3 M).1) ((F_12_walksBy_0 x1 x2 x3 M).2)))) ∧ (¬ xs0 = 0 → True))
theorem T_12_sleepwalk_58 {g : Gl} (x1 : Int32) (x2 : Int32) (x3 : Int32) (x4 : Int32) (xs0 : Int32) (M : Mem) (hp : P_12_sleepwalk_58 x1 x2 x3 x4 xs0 M) : Rn g 8 m12_sleepwalk 58 [some (.ref 0), some (.int x1), some (.int x2), some (.int x3), some (.int x4), none] [.int xs0] M (some (.int (F_12_sleepwalk_58 x1 x2 x3 x4 xs0 M).1)) ((F_12_sleepwalk_58 x1 x2 x3 x4 xs0 M).2) := by
  rw [F_12_sleepwalk_58]
  rw [P_12_sleepwalk_58] at hp
  refine b12_sleepwalk_58  (fun h => ?_) (fun h => ?_)
  · rw [if_pos h]
    have hp := hp.1 h
    obtain ⟨hc, hp⟩ := hp
    refine b12_sleepwalk_63  (C_12_walksBy x1 x2 x3 M hc) (Nat.le_of_ble_eq_true rfl) ?_
    exact T_12_sleepwalk_70 x4 ((F_12_walksBy_0 x1 x2 x3 M).1) ((F_12_walksBy_0 x1 x2 x3 M).2) hp
  · rw [if_neg h]
    exact b12_sleepwalk_61  rfl rfl
def F_12_sleepwalk_53 (x1 : Int32) (x2 : Int32) (x3 : Int32) (x4 : Int32) (xs0 : Int32) (M : Mem) : Int32 × Mem := F_12_sleepwalk_58 x1 x2 x3 x4 ((F_12_bad_0 xs0 2 1 M).1) ((F_12_bad_0 xs0 2 1 M).2)
def P_12_sleepwalk_53 (x1 : Int32) (x2 : Int32) (x3 : Int32) (x4 : Int32) (xs0 : Int32) (M : Mem) : Prop := ((P_12_bad_0 xs0 2 1 M) ∧ (P_12_sleepwalk_58 x1 x2 x3 x4 ((F_12_bad_0 xs0 2 1 M).1) ((F_12_bad_0 xs0 2 1 M).2)))
theorem T_12_sleepwalk_53 {g : Gl} (x1 : Int32) (x2 : Int32) (x3 : Int32) (x4 : Int32) (xs0 : Int32) (M : Mem) (hp : P_12_sleepwalk_53 x1 x2 x3 x4 xs0 M) : Rn g 8 m12_sleepwalk 53 [some (.ref 0), some (.int x1), some (.int x2), some (.int x3), some (.int x4), none] [.int xs0, .ref 0] M (some (.int (F_12_sleepwalk_53 x1 x2 x3 x4 xs0 M).1)) ((F_12_sleepwalk_53 x1 x2 x3 x4 xs0 M).2) := by
  rw [F_12_sleepwalk_53]
  rw [P_12_sleepwalk_53] at hp
  obtain ⟨hc, hp⟩ := hp
  refine b12_sleepwalk_53  (C_12_bad xs0 2 1 M hc) (Nat.le_of_ble_eq_true rfl) ?_
  exact T_12_sleepwalk_58 x1 x2 x3 x4 ((F_12_bad_0 xs0 2 1 M).1) ((F_12_bad_0 xs0 2 1 M).2) hp
def F_12_sleepwalk_48 (x1 : Int32) (x2 : Int32) (x3 : Int32) (x4 : Int32) (M : Mem) : Int32 × Mem := F_12_sleepwalk_53 x1 x2 x3 x4 1 M
def P_12_sleepwalk_48 (x1 : Int32) (x2 : Int32) (x3 : Int32) (x4 : Int32) (M : Mem) : Prop := (P_12_sleepwalk_53 x1 x2 x3 x4 1 M)
theorem T_12_sleepwalk_48 {g : Gl} (x1 : Int32) (x2 : Int32) (x3 : Int32) (x4 : Int32) (M : Mem) (hp : P_12_sleepwalk_48 x1 x2 x3 x4 M) : Rn g 8 m12_sleepwalk 48 [some (.ref 0), some (.int x1), some (.int x2), some (.int x3), some (.int x4), none] [.ref 0] M (some (.int (F_12_sleepwalk_48 x1 x2 x3 x4 M).1)) ((F_12_sleepwalk_48 x1 x2 x3 x4 M).2) := by
  rw [F_12_sleepwalk_48]
  rw [P_12_sleepwalk_48] at hp
  refine b12_sleepwalk_48  ?_
  exact T_12_sleepwalk_53 x1 x2 x3 x4 1 M hp
def F_12_sleepwalk_24 (x1 : Int32) (x2 : Int32) (x3 : Int32) (x4 : Int32) (xs0 : Int32) (M : Mem) : Int32 × Mem := if xs0 = 0 then (if (F_12_in_0 M x3 0 96) = 0 then (F_12_sleepwalk_48 x1 x2 x3 x4 M) else (if (F_12_in_0 M x4 0 2) = 0 then (F_12_sleepwalk_48 x1 x2 x3 x4 M) else (F_12_sleepwalk_53 x1 x2 x3 x4 0 M))) else ((0, M))
def P_12_sleepwalk_24 (x1 : Int32) (x2 : Int32) (x3 : Int32) (x4 : Int32) (xs0 : Int32) (M : Mem) : Prop := ((¬ xs0 = 0 → True) ∧ (xs0 = 0 → (((((F_12_in_0 M x3 0 96) = 0 → P_12_sleepwalk_48 x1 x2 x3 x4 M) ∧ (¬ (F_12_in_0 M x3 0 96) = 0 → ((((¬ (F_12_in_0 M x4 0 2) = 0 → (P_12_sleepwalk_53 x1 x2 x3 x4 0 M)) ∧ ((F_12_in_0 M x4 0 2) = 0 → P_12_sleepwalk_48 x1 x2 x3 x4 M))))))))))
theorem T_12_sleepwalk_24 {g : Gl} (x1 : Int32) (x2 : Int32) (x3 : Int32) (x4 : Int32) (xs0 : Int32) (M : Mem) (hp : P_12_sleepwalk_24 x1 x2 x3 x4 xs0 M) : Rn g 8 m12_sleepwalk 24 [some (.ref 0), some (.int x1), some (.int x2), some (.int x3), some (.int x4), none] [.int xs0] M (some (.int (F_12_sleepwalk_24 x1 x2 x3 x4 xs0 M).1)) ((F_12_sleepwalk_24 x1 x2 x3 x4 xs0 M).2) := by
  rw [F_12_sleepwalk_24]
  rw [P_12_sleepwalk_24] at hp
  refine b12_sleepwalk_24  (fun h => ?_) (fun h => ?_)
  · rw [if_neg h]
    exact b12_sleepwalk_61  rfl rfl
  · rw [if_pos h]
    have hp := hp.2 h
    refine b12_sleepwalk_27  (C_12_in x3 0 96 M) (Nat.le_of_ble_eq_true rfl) ?_
    refine b12_sleepwalk_35  (fun h => ?_) (fun h => ?_)
    · rw [if_pos h]
      have hp := hp.1 h
      exact T_12_sleepwalk_48 x1 x2 x3 x4 M hp
    · rw [if_neg h]
      have hp := hp.2 h
      refine b12_sleepwalk_38  (C_12_in x4 0 2 M) (Nat.le_of_ble_eq_true rfl) ?_
      refine b12_sleepwalk_45  (fun h => ?_) (fun h => ?_)
      · rw [if_neg h]
        have hp := hp.1 h
        refine b12_sleepwalk_52  ?_
        exact T_12_sleepwalk_53 x1 x2 x3 x4 0 M hp
      · rw [if_pos h]
        have hp := hp.2 h
        exact T_12_sleepwalk_48 x1 x2 x3 x4 M hp
def F_12_sleepwalk_19 (x1 : Int32) (x2 : Int32) (x3 : Int32) (x4 : Int32) (xs0 : Int32) (M : Mem) : Int32 × Mem := F_12_sleepwalk_24 x1 x2 x3 x4 ((F_12_bad_0 xs0 1 0 M).1) ((F_12_bad_0 xs0 1 0 M).2)
def P_12_sleepwalk_19 (x1 : Int32) (x2 : Int32) (x3 : Int32) (x4 : Int32) (xs0 : Int32) (M : Mem) : Prop := ((P_12_bad_0 xs0 1 0 M) ∧ (P_12_sleepwalk_24 x1 x2 x3 x4 ((F_12_bad_0 xs0 1 0 M).1) ((F_12_bad_0 xs0 1 0 M).2)))
theorem T_12_sleepwalk_19 {g : Gl} (x1 : Int32) (x2 : Int32) (x3 : Int32) (x4 : Int32) (xs0 : Int32) (M : Mem) (hp : P_12_sleepwalk_19 x1 x2 x3 x4 xs0 M) : Rn g 8 m12_sleepwalk 19 [some (.ref 0), some (.int x1), some (.int x2), some (.int x3), some (.int x4), none] [.int xs0, .ref 0] M (some (.int (F_12_sleepwalk_19 x1 x2 x3 x4 xs0 M).1)) ((F_12_sleepwalk_19 x1 x2 x3 x4 xs0 M).2) := by
  rw [F_12_sleepwalk_19]
  rw [P_12_sleepwalk_19] at hp
  obtain ⟨hc, hp⟩ := hp
  refine b12_sleepwalk_19  (C_12_bad xs0 1 0 M hc) (Nat.le_of_ble_eq_true rfl) ?_
  exact T_12_sleepwalk_24 x1 x2 x3 x4 ((F_12_bad_0 xs0 1 0 M).1) ((F_12_bad_0 xs0 1 0 M).2) hp
def F_12_sleepwalk_0 (x1 : Int32) (x2 : Int32) (x3 : Int32) (x4 : Int32) (M : Mem) : Int32 × Mem := if (F_12_isRoom_0 (wr M 0 0 0) x2) = 0 then (F_12_sleepwalk_19 x1 x2 x3 x4 1 (wr M 0 0 0)) else (F_12_sleepwalk_19 x1 x2 x3 x4 0 (wr M 0 0 0))
def P_12_sleepwalk_0 (x1 : Int32) (x2 : Int32) (x3 : Int32) (x4 : Int32) (M : Mem) : Prop := ((P_12_isRoom_0 (wr M 0 0 0) x2) ∧ (((¬ (F_12_isRoom_0 (wr M 0 0 0) x2) = 0 → (P_12_sleepwalk_19 x1 x2 x3 x4 0 (wr M 0 0 0))) ∧ ((F_12_isRoom_0 (wr M 0 0 0) x2) = 0 → (P_12_sleepwalk_19 x1 x2 x3 x4 1 (wr M 0 0 0))))))
theorem T_12_sleepwalk_0 {g : Gl} (x1 : Int32) (x2 : Int32) (x3 : Int32) (x4 : Int32) (M : Mem) (hp : P_12_sleepwalk_0 x1 x2 x3 x4 M) : Rn g 8 m12_sleepwalk 0 [some (.ref 0), some (.int x1), some (.int x2), some (.int x3), some (.int x4), none] [] M (some (.int (F_12_sleepwalk_0 x1 x2 x3 x4 M).1)) ((F_12_sleepwalk_0 x1 x2 x3 x4 M).2) := by
  rw [F_12_sleepwalk_0]
  rw [P_12_sleepwalk_0] at hp
  obtain ⟨hc, hp⟩ := hp
  refine b12_sleepwalk_0  (C_12_isRoom x2 (wr M 0 0 0) hc) (Nat.le_of_ble_eq_true rfl) ?_
  refine b12_sleepwalk_11  (fun h => ?_) (fun h => ?_)
  · rw [if_neg h]
    have hp := hp.1 h
    refine b12_sleepwalk_18  ?_
    exact T_12_sleepwalk_19 x1 x2 x3 x4 0 (wr M 0 0 0) hp
  · rw [if_pos h]
    have hp := hp.2 h
    refine b12_sleepwalk_14  ?_
    exact T_12_sleepwalk_19 x1 x2 x3 x4 1 (wr M 0 0 0) hp
theorem C_12_sleepwalk {g : Gl}  (x1 : Int32) (x2 : Int32) (x3 : Int32) (x4 : Int32) (M : Mem) (hp : P_12_sleepwalk_0 x1 x2 x3 x4 M) : Ms g 8 m12_sleepwalk [.ref 0, .int x1, .int x2, .int x3, .int x4] M (some (.int (F_12_sleepwalk_0 x1 x2 x3 x4 M).1)) ((F_12_sleepwalk_0 x1 x2 x3 x4 M).2) := Ms.of okM_m12_sleepwalk (Nat.le_of_ble_eq_true rfl) (R_wk (lc rfl (lc rfl (lc rfl (lc rfl (lc rfl (ln l0)))))) (T_12_sleepwalk_0 x1 x2 x3 x4 M hp))
def F_12_span_139 (k89 : Int32 → Int32 → Int32 → Int32 → Int32 → Int32 → Int32 → Int32 → Mem → Int32 × Mem) (x1 : Int32) (x2 : Int32) (x3 : Int32) (x4 : Int32) (x5 : Int32) (x6 : Int32) (x8 : Int32) (xs0 : Int32) (xs1 : Int32) (M : Mem) : Int32 × Mem := k89 x1 x2 x3 x4 x5 x6 (xs1 + xs0) (x8 + 1) M
def P_12_span_139 (pk89 : Int32 → Int32 → Int32 → Int32 → Int32 → Int32 → Int32 → Int32 → Mem → Prop) (x1 : Int32) (x2 : Int32) (x3 : Int32) (x4 : Int32) (x5 : Int32) (x6 : Int32) (x8 : Int32) (xs0 : Int32) (xs1 : Int32) (M : Mem) : Prop := (pk89 x1 x2 x3 x4 x5 x6 (xs1 + xs0) (x8 + 1) M)
theorem T_12_span_139 {g : Gl} (k89 : Int32 → Int32 → Int32 → Int32 → Int32 → Int32 → Int32 → Int32 → Mem → Int32 × Mem) (pk89 : Int32 → Int32 → Int32 → Int32 → Int32 → Int32 → Int32 → Int32 → Mem → Prop) (ih89 : ∀ (x1 : Int32) (x2 : Int32) (x3 : Int32) (x4 : Int32) (x5 : Int32) (x6 : Int32) (x7 : Int32) (x8 : Int32) (M : Mem), pk89 x1 x2 x3 x4 x5 x6 x7 x8 M → Rn g 8 m12_span 89 [some (.ref 0), some (.int x1), some (.int x2), some (.int x3), some (.int x4), some (.int x5), some (.int x6), some (.int x7), some (.int x8), none] [] M (some (.int (k89 x1 x2 x3 x4 x5 x6 x7 x8 M).1)) ((k89 x1 x2 x3 x4 x5 x6 x7 x8 M).2)) (x1 : Int32) (x2 : Int32) (x3 : Int32) (x4 : Int32) (x5 : Int32) (x6 : Int32) (x8 : Int32) (xs0 : Int32) (xs1 : Int32) (M : Mem) (hp : P_12_span_139 pk89 x1 x2 x3 x4 x5 x6 x8 xs0 xs1 M) : Rn g 8 m12_span 139 [some (.ref 0), some (.int x1), some (.int x2), some (.int x3), some (.int x4), some (.int x5), some (.int x6), none, some (.int x8), none] [.int xs0, .int xs1] M (some (.int (F_12_span_139 k89 x1 x2 x3 x4 x5 x6 x8 xs0 xs1 M).1)) ((F_12_span_139 k89 x1 x2 x3 x4 x5 x6 x8 xs0 xs1 M).2) := by
  rw [F_12_span_139]
  rw [P_12_span_139] at hp
  refine b12_span_139  ?_
  exact ih89 x1 x2 x3 x4 x5 x6 (xs1 + xs0) (x8 + 1) M hp
def F_12_span_106 (k89 : Int32 → Int32 → Int32 → Int32 → Int32 → Int32 → Int32 → Int32 → Mem → Int32 × Mem) (x1 : Int32) (x2 : Int32) (x3 : Int32) (x4 : Int32) (x5 : Int32) (x6 : Int32) (x7 : Int32) (x8 : Int32) (xs0 : Int32) (M : Mem) : Int32 × Mem := if x6 = 0 then (if xs0 = x5 then (F_12_span_139 k89 x1 x2 x3 x4 x5 x6 x8 1 x7 M) else (F_12_span_139 k89 x1 x2 x3 x4 x5 x6 x8 0 x7 M)) else (F_12_span_139 k89 x1 x2 x3 x4 x5 x6 x8 (((rd M 0 49) >>> (x5 &&& 31)) &&& 1) x7 M)
def P_12_span_106 (pk89 : Int32 → Int32 → Int32 → Int32 → Int32 → Int32 → Int32 → Int32 → Mem → Prop) (x1 : Int32) (x2 : Int32) (x3 : Int32) (x4 : Int32) (x5 : Int32) (x6 : Int32) (x7 : Int32) (x8 : Int32) (xs0 : Int32) (M : Mem) : Prop := ((¬ x6 = 0 → (P_12_span_139 pk89 x1 x2 x3 x4 x5 x6 x8 (((rd M 0 49) >>> (x5 &&& 31)) &&& 1) x7 M)) ∧ (x6 = 0 → ((¬ xs0 = x5 → (P_12_span_139 pk89 x1 x2 x3 x4 x5 x6 x8 0 x7 M)) ∧ (xs0 = x5 → (P_12_span_139 pk89 x1 x2 x3 x4 x5 x6 x8 1 x7 M)))))
theorem T_12_span_106 {g : Gl} (k89 : Int32 → Int32 → Int32 → Int32 → Int32 → Int32 → Int32 → Int32 → Mem → Int32 × Mem) (pk89 : Int32 → Int32 → Int32 → Int32 → Int32 → Int32 → Int32 → Int32 → Mem → Prop) (ih89 : ∀ (x1 : Int32) (x2 : Int32) (x3 : Int32) (x4 : Int32) (x5 : Int32) (x6 : Int32) (x7 : Int32) (x8 : Int32) (M : Mem), pk89 x1 x2 x3 x4 x5 x6 x7 x8 M → Rn g 8 m12_span 89 [some (.ref 0), some (.int x1), some (.int x2), some (.int x3), some (.int x4), some (.int x5), some (.int x6), some (.int x7), some (.int x8), none] [] M (some (.int (k89 x1 x2 x3 x4 x5 x6 x7 x8 M).1)) ((k89 x1 x2 x3 x4 x5 x6 x7 x8 M).2)) (x1 : Int32) (x2 : Int32) (x3 : Int32) (x4 : Int32) (x5 : Int32) (x6 : Int32) (x7 : Int32) (x8 : Int32) (xs0 : Int32) (M : Mem) (hp : P_12_span_106 pk89 x1 x2 x3 x4 x5 x6 x7 x8 xs0 M) : Rn g 8 m12_span 106 [some (.ref 0), some (.int x1), some (.int x2), some (.int x3), some (.int x4), some (.int x5), some (.int x6), some (.int x7), some (.int x8), none] [.int xs0] M (some (.int (F_12_span_106 k89 x1 x2 x3 x4 x5 x6 x7 x8 xs0 M).1)) ((F_12_span_106 k89 x1 x2 x3 x4 x5 x6 x7 x8 xs0 M).2) := by
  rw [F_12_span_106]
  rw [P_12_span_106] at hp
  refine b12_span_106  (fun h => ?_) (fun h => ?_)
  · rw [if_neg h]
    have hp := hp.1 h
    refine b12_span_130  ?_
    exact T_12_span_139 k89 pk89 ih89 x1 x2 x3 x4 x5 x6 x8 (((rd M 0 49) >>> (x5 &&& 31)) &&& 1) x7 M hp
  · rw [if_pos h]
    have hp := hp.2 h
    refine b12_span_115  (fun h => ?_) (fun h => ?_)
    · rw [if_neg h]
      have hp := hp.1 h
      refine b12_span_126  ?_
      exact T_12_span_139 k89 pk89 ih89 x1 x2 x3 x4 x5 x6 x8 0 x7 M hp
    · rw [if_pos h]
      have hp := hp.2 h
      refine b12_span_122  ?_
      exact T_12_span_139 k89 pk89 ih89 x1 x2 x3 x4 x5 x6 x8 1 x7 M hp
def F_12_span_89  : Nat → Int32 → Int32 → Int32 → Int32 → Int32 → Int32 → Int32 → Int32 → Mem → Int32 × Mem
  | 0, _, _, _, _, _, _, _, _, M => (0, M)
  | n + 1, x1, x2, x3, x4, x5, x6, x7, x8, M => if x2 ≤ x8 then ((x7, M)) else (F_12_span_106 (F_12_span_89 n) x1 x2 x3 x4 x5 x6 x7 x8 ((F_12_walksBy_0 (x1 + x8) x3 x4 M).1) ((F_12_walksBy_0 (x1 + x8) x3 x4 M).2))
def P_12_span_89  : Nat → Int32 → Int32 → Int32 → Int32 → Int32 → Int32 → Int32 → Int32 → Mem → Prop
  | 0, _, _, _, _, _, _, _, _, _ => False
  | n + 1, x1, x2, x3, x4, x5, x6, x7, x8, M => ((x2 ≤ x8 → True) ∧ (¬ x2 ≤ x8 → ((P_12_walksBy_0 (x1 + x8) x3 x4 M) ∧ (P_12_span_106 (P_12_span_89 n) x1 x2 x3 x4 x5 x6 x7 x8 ((F_12_walksBy_0 (x1 + x8) x3 x4 M).1) ((F_12_walksBy_0 (x1 + x8) x3 x4 M).2)))))
theorem T_12_span_89 {g : Gl} : ∀ (n : Nat) (x1 : Int32) (x2 : Int32) (x3 : Int32) (x4 : Int32) (x5 : Int32) (x6 : Int32) (x7 : Int32) (x8 : Int32) (M : Mem) (hp : P_12_span_89 n x1 x2 x3 x4 x5 x6 x7 x8 M), Rn g 8 m12_span 89 [some (.ref 0), some (.int x1), some (.int x2), some (.int x3), some (.int x4), some (.int x5), some (.int x6), some (.int x7), some (.int x8), none] [] M (some (.int (F_12_span_89 n x1 x2 x3 x4 x5 x6 x7 x8 M).1)) ((F_12_span_89 n x1 x2 x3 x4 x5 x6 x7 x8 M).2) := by
  intro n
  induction n with
  | zero => intro x1 x2 x3 x4 x5 x6 x7 x8 M hp; exact hp.elim
  | succ n ih =>
    intro x1 x2 x3 x4 x5 x6 x7 x8 M hp
    rw [F_12_span_89]
    rw [P_12_span_89] at hp
    refine b12_span_89  (fun h => ?_) (fun h => ?_)
    · rw [if_pos h]
      exact b12_span_148  rfl rfl
    · rw [if_neg h]
      have hp := hp.2 h
      obtain ⟨hc, hp⟩ := hp
      refine b12_span_95  (C_12_walksBy (x1 + x8) x3 x4 M hc) (Nat.le_of_ble_eq_true rfl) ?_
      exact T_12_span_106 (F_12_span_89 n) (P_12_span_89 n) ih x1 x2 x3 x4 x5 x6 x7 x8 ((F_12_walksBy_0 (x1 + x8) x3 x4 M).1) ((F_12_walksBy_0 (x1 + x8) x3 x4 M).2) hp
def F_12_span_78 (x1 : Int32) (x2 : Int32) (x3 : Int32) (x4 : Int32) (x5 : Int32) (x6 : Int32) (xs0 : Int32) (M : Mem) : Int32 × Mem := if xs0 = 0 then (F_12_span_89 FU x1 x2 x3 x4 x5 x6 0 0 M) else ((0, M))
def P_12_span_78 (x1 : Int32) (x2 : Int32) (x3 : Int32) (x4 : Int32) (x5 : Int32) (x6 : Int32) (xs0 : Int32) (M : Mem) : Prop := ((xs0 = 0 → (P_12_span_89 FU x1 x2 x3 x4 x5 x6 0 0 M)) ∧ (¬ xs0 = 0 → True))
theorem T_12_span_78 {g : Gl} (x1 : Int32) (x2 : Int32) (x3 : Int32) (x4 : Int32) (x5 : Int32) (x6 : Int32) (xs0 : Int32) (M : Mem) (hp : P_12_span_78 x1 x2 x3 x4 x5 x6 xs0 M) : Rn g 8 m12_span 78 [some (.ref 0), some (.int x1), some (.int x2), some (.int x3), some (.int x4), some (.int x5), some (.int x6), none, none, none] [.int xs0] M (some (.int (F_12_span_78 x1 x2 x3 x4 x5 x6 xs0 M).1)) ((F_12_span_78 x1 x2 x3 x4 x5 x6 xs0 M).2) := by
  rw [F_12_span_78]
  rw [P_12_span_78] at hp
  refine b12_span_78  (fun h => ?_) (fun h => ?_)
  · rw [if_pos h]
    have hp := hp.1 h
    refine b12_span_83  ?_
    exact T_12_span_89 FU x1 x2 x3 x4 x5 x6 0 0 M hp
  · rw [if_neg h]
    exact b12_span_81  rfl rfl
def F_12_span_73 (x1 : Int32) (x2 : Int32) (x3 : Int32) (x4 : Int32) (x5 : Int32) (x6 : Int32) (xs0 : Int32) (M : Mem) : Int32 × Mem := F_12_span_78 x1 x2 x3 x4 x5 x6 ((F_12_bad_0 xs0 2 1 M).1) ((F_12_bad_0 xs0 2 1 M).2)
def P_12_span_73 (x1 : Int32) (x2 : Int32) (x3 : Int32) (x4 : Int32) (x5 : Int32) (x6 : Int32) (xs0 : Int32) (M : Mem) : Prop := ((P_12_bad_0 xs0 2 1 M) ∧ (P_12_span_78 x1 x2 x3 x4 x5 x6 ((F_12_bad_0 xs0 2 1 M).1) ((F_12_bad_0 xs0 2 1 M).2)))
theorem T_12_span_73 {g : Gl} (x1 : Int32) (x2 : Int32) (x3 : Int32) (x4 : Int32) (x5 : Int32) (x6 : Int32) (xs0 : Int32) (M : Mem) (hp : P_12_span_73 x1 x2 x3 x4 x5 x6 xs0 M) : Rn g 8 m12_span 73 [some (.ref 0), some (.int x1), some (.int x2), some (.int x3), some (.int x4), some (.int x5), some (.int x6), none, none, none] [.int xs0, .ref 0] M (some (.int (F_12_span_73 x1 x2 x3 x4 x5 x6 xs0 M).1)) ((F_12_span_73 x1 x2 x3 x4 x5 x6 xs0 M).2) := by
  rw [F_12_span_73]
  rw [P_12_span_73] at hp
  obtain ⟨hc, hp⟩ := hp
  refine b12_span_73  (C_12_bad xs0 2 1 M hc) (Nat.le_of_ble_eq_true rfl) ?_
  exact T_12_span_78 x1 x2 x3 x4 x5 x6 ((F_12_bad_0 xs0 2 1 M).1) ((F_12_bad_0 xs0 2 1 M).2) hp
def F_12_span_68 (x1 : Int32) (x2 : Int32) (x3 : Int32) (x4 : Int32) (x5 : Int32) (x6 : Int32) (M : Mem) : Int32 × Mem := F_12_span_73 x1 x2 x3 x4 x5 x6 1 M
def P_12_span_68 (x1 : Int32) (x2 : Int32) (x3 : Int32) (x4 : Int32) (x5 : Int32) (x6 : Int32) (M : Mem) : Prop := (P_12_span_73 x1 x2 x3 x4 x5 x6 1 M)
theorem T_12_span_68 {g : Gl} (x1 : Int32) (x2 : Int32) (x3 : Int32) (x4 : Int32) (x5 : Int32) (x6 : Int32) (M : Mem) (hp : P_12_span_68 x1 x2 x3 x4 x5 x6 M) : Rn g 8 m12_span 68 [some (.ref 0), some (.int x1), some (.int x2), some (.int x3), some (.int x4), some (.int x5), some (.int x6), none, none, none] [.ref 0] M (some (.int (F_12_span_68 x1 x2 x3 x4 x5 x6 M).1)) ((F_12_span_68 x1 x2 x3 x4 x5 x6 M).2) := by
  rw [F_12_span_68]
  rw [P_12_span_68] at hp
  refine b12_span_68  ?_
  exact T_12_span_73 x1 x2 x3 x4 x5 x6 1 M hp
def F_12_span_33 (x1 : Int32) (x2 : Int32) (x3 : Int32) (x4 : Int32) (x5 : Int32) (x6 : Int32) (xs0 : Int32) (M : Mem) : Int32 × Mem := if xs0 = 0 then (if (F_12_in_0 M x2 1 40) = 0 then (F_12_span_68 x1 x2 x3 x4 x5 x6 M) else (if (F_12_in_0 M x4 0 96) = 0 then (F_12_span_68 x1 x2 x3 x4 x5 x6 M) else (if (F_12_in_0 M x6 0 1) = 0 then (F_12_span_68 x1 x2 x3 x4 x5 x6 M) else (F_12_span_73 x1 x2 x3 x4 x5 x6 0 M)))) else ((0, M))
def P_12_span_33 (x1 : Int32) (x2 : Int32) (x3 : Int32) (x4 : Int32) (x5 : Int32) (x6 : Int32) (xs0 : Int32) (M : Mem) : Prop := ((¬ xs0 = 0 → True) ∧ (xs0 = 0 → (((((F_12_in_0 M x2 1 40) = 0 → P_12_span_68 x1 x2 x3 x4 x5 x6 M) ∧ (¬ (F_12_in_0 M x2 1 40) = 0 → (((((F_12_in_0 M x4 0 96) = 0 → P_12_span_68 x1 x2 x3 x4 x5 x6 M) ∧ (¬ (F_12_in_0 M x4 0 96) = 0 → ((((¬ (F_12_in_0 M x6 0 1) = 0 → (P_12_span_73 x1 x2 x3 x4 x5 x6 0 M)) ∧ ((F_12_in_0 M x6 0 1) = 0 → P_12_span_68 x1 x2 x3 x4 x5 x6 M))))))))))))))
theorem T_12_span_33 {g : Gl} (x1 : Int32) (x2 : Int32) (x3 : Int32) (x4 : Int32) (x5 : Int32) (x6 : Int32) (xs0 : Int32) (M : Mem) (hp : P_12_span_33 x1 x2 x3 x4 x5 x6 xs0 M) : Rn g 8 m12_span 33 [some (.ref 0), some (.int x1), some (.int x2), some (.int x3), some (.int x4), some (.int x5), some (.int x6), none, none, none] [.int xs0] M (some (.int (F_12_span_33 x1 x2 x3 x4 x5 x6 xs0 M).1)) ((F_12_span_33 x1 x2 x3 x4 x5 x6 xs0 M).2) := by
  rw [F_12_span_33]
  rw [P_12_span_33] at hp
  refine b12_span_33  (fun h => ?_) (fun h => ?_)
  · rw [if_neg h]
    exact b12_span_81  rfl rfl
  · rw [if_pos h]
    have hp := hp.2 h
    refine b12_span_36  (C_12_in x2 1 40 M) (Nat.le_of_ble_eq_true rfl) ?_
    refine b12_span_44  (fun h => ?_) (fun h => ?_)
    · rw [if_pos h]
      have hp := hp.1 h
      exact T_12_span_68 x1 x2 x3 x4 x5 x6 M hp
    · rw [if_neg h]
      have hp := hp.2 h
      refine b12_span_47  (C_12_in x4 0 96 M) (Nat.le_of_ble_eq_true rfl) ?_
      refine b12_span_55  (fun h => ?_) (fun h => ?_)
      · rw [if_pos h]
        have hp := hp.1 h
        exact T_12_span_68 x1 x2 x3 x4 x5 x6 M hp
      · rw [if_neg h]
        have hp := hp.2 h
        refine b12_span_58  (C_12_in x6 0 1 M) (Nat.le_of_ble_eq_true rfl) ?_
        refine b12_span_65  (fun h => ?_) (fun h => ?_)
        · rw [if_neg h]
          have hp := hp.1 h
          refine b12_span_72  ?_
          exact T_12_span_73 x1 x2 x3 x4 x5 x6 0 M hp
        · rw [if_pos h]
          have hp := hp.2 h
          exact T_12_span_68 x1 x2 x3 x4 x5 x6 M hp
def F_12_span_28 (x1 : Int32) (x2 : Int32) (x3 : Int32) (x4 : Int32) (x5 : Int32) (x6 : Int32) (xs0 : Int32) (M : Mem) : Int32 × Mem := F_12_span_33 x1 x2 x3 x4 x5 x6 ((F_12_bad_0 xs0 1 0 M).1) ((F_12_bad_0 xs0 1 0 M).2)
def P_12_span_28 (x1 : Int32) (x2 : Int32) (x3 : Int32) (x4 : Int32) (x5 : Int32) (x6 : Int32) (xs0 : Int32) (M : Mem) : Prop := ((P_12_bad_0 xs0 1 0 M) ∧ (P_12_span_33 x1 x2 x3 x4 x5 x6 ((F_12_bad_0 xs0 1 0 M).1) ((F_12_bad_0 xs0 1 0 M).2)))
theorem T_12_span_28 {g : Gl} (x1 : Int32) (x2 : Int32) (x3 : Int32) (x4 : Int32) (x5 : Int32) (x6 : Int32) (xs0 : Int32) (M : Mem) (hp : P_12_span_28 x1 x2 x3 x4 x5 x6 xs0 M) : Rn g 8 m12_span 28 [some (.ref 0), some (.int x1), some (.int x2), some (.int x3), some (.int x4), some (.int x5), some (.int x6), none, none, none] [.int xs0, .ref 0] M (some (.int (F_12_span_28 x1 x2 x3 x4 x5 x6 xs0 M).1)) ((F_12_span_28 x1 x2 x3 x4 x5 x6 xs0 M).2) := by
  rw [F_12_span_28]
  rw [P_12_span_28] at hp
  obtain ⟨hc, hp⟩ := hp
  refine b12_span_28  (C_12_bad xs0 1 0 M hc) (Nat.le_of_ble_eq_true rfl) ?_
  exact T_12_span_33 x1 x2 x3 x4 x5 x6 ((F_12_bad_0 xs0 1 0 M).1) ((F_12_bad_0 xs0 1 0 M).2) hp
def F_12_span_23 (x1 : Int32) (x2 : Int32) (x3 : Int32) (x4 : Int32) (x5 : Int32) (x6 : Int32) (M : Mem) : Int32 × Mem := F_12_span_28 x1 x2 x3 x4 x5 x6 1 M
def P_12_span_23 (x1 : Int32) (x2 : Int32) (x3 : Int32) (x4 : Int32) (x5 : Int32) (x6 : Int32) (M : Mem) : Prop := (P_12_span_28 x1 x2 x3 x4 x5 x6 1 M)
theorem T_12_span_23 {g : Gl} (x1 : Int32) (x2 : Int32) (x3 : Int32) (x4 : Int32) (x5 : Int32) (x6 : Int32) (M : Mem) (hp : P_12_span_23 x1 x2 x3 x4 x5 x6 M) : Rn g 8 m12_span 23 [some (.ref 0), some (.int x1), some (.int x2), some (.int x3), some (.int x4), some (.int x5), some (.int x6), none, none, none] [.ref 0] M (some (.int (F_12_span_23 x1 x2 x3 x4 x5 x6 M).1)) ((F_12_span_23 x1 x2 x3 x4 x5 x6 M).2) := by
  rw [F_12_span_23]
  rw [P_12_span_23] at hp
  refine b12_span_23  ?_
  exact T_12_span_28 x1 x2 x3 x4 x5 x6 1 M hp
def F_12_span_0 (x1 : Int32) (x2 : Int32) (x3 : Int32) (x4 : Int32) (x5 : Int32) (x6 : Int32) (M : Mem) : Int32 × Mem := if (F_12_isRoom_0 (wr M 0 0 0) x3) = 0 then (F_12_span_23 x1 x2 x3 x4 x5 x6 (wr M 0 0 0)) else (if (F_12_isRoom_0 (wr M 0 0 0) x5) = 0 then (F_12_span_23 x1 x2 x3 x4 x5 x6 (wr M 0 0 0)) else (F_12_span_28 x1 x2 x3 x4 x5 x6 0 (wr M 0 0 0)))
def P_12_span_0 (x1 : Int32) (x2 : Int32) (x3 : Int32) (x4 : Int32) (x5 : Int32) (x6 : Int32) (M : Mem) : Prop := ((P_12_isRoom_0 (wr M 0 0 0) x3) ∧ ((((F_12_isRoom_0 (wr M 0 0 0) x3) = 0 → P_12_span_23 x1 x2 x3 x4 x5 x6 (wr M 0 0 0)) ∧ (¬ (F_12_isRoom_0 (wr M 0 0 0) x3) = 0 → ((P_12_isRoom_0 (wr M 0 0 0) x5) ∧ (((¬ (F_12_isRoom_0 (wr M 0 0 0) x5) = 0 → (P_12_span_28 x1 x2 x3 x4 x5 x6 0 (wr M 0 0 0))) ∧ ((F_12_isRoom_0 (wr M 0 0 0) x5) = 0 → P_12_span_23 x1 x2 x3 x4 x5 x6 (wr M 0 0 0)))))))))
theorem T_12_span_0 {g : Gl} (x1 : Int32) (x2 : Int32) (x3 : Int32) (x4 : Int32) (x5 : Int32) (x6 : Int32) (M : Mem) (hp : P_12_span_0 x1 x2 x3 x4 x5 x6 M) : Rn g 8 m12_span 0 [some (.ref 0), some (.int x1), some (.int x2), some (.int x3), some (.int x4), some (.int x5), some (.int x6), none, none, none] [] M (some (.int (F_12_span_0 x1 x2 x3 x4 x5 x6 M).1)) ((F_12_span_0 x1 x2 x3 x4 x5 x6 M).2) := by
  rw [F_12_span_0]
  rw [P_12_span_0] at hp
  obtain ⟨hc, hp⟩ := hp
  refine b12_span_0  (C_12_isRoom x3 (wr M 0 0 0) hc) (Nat.le_of_ble_eq_true rfl) ?_
  refine b12_span_11  (fun h => ?_) (fun h => ?_)
  · rw [if_pos h]
    have hp := hp.1 h
    exact T_12_span_23 x1 x2 x3 x4 x5 x6 (wr M 0 0 0) hp
  · rw [if_neg h]
    have hp := hp.2 h
    obtain ⟨hc, hp⟩ := hp
    refine b12_span_14  (C_12_isRoom x5 (wr M 0 0 0) hc) (Nat.le_of_ble_eq_true rfl) ?_
    refine b12_span_20  (fun h => ?_) (fun h => ?_)
    · rw [if_neg h]
      have hp := hp.1 h
      refine b12_span_27  ?_
      exact T_12_span_28 x1 x2 x3 x4 x5 x6 0 (wr M 0 0 0) hp
    · rw [if_pos h]
      have hp := hp.2 h
      exact T_12_span_23 x1 x2 x3 x4 x5 x6 (wr M 0 0 0) hp
theorem C_12_span {g : Gl}  (x1 : Int32) (x2 : Int32) (x3 : Int32) (x4 : Int32) (x5 : Int32) (x6 : Int32) (M : Mem) (hp : P_12_span_0 x1 x2 x3 x4 x5 x6 M) : Ms g 8 m12_span [.ref 0, .int x1, .int x2, .int x3, .int x4, .int x5, .int x6] M (some (.int (F_12_span_0 x1 x2 x3 x4 x5 x6 M).1)) ((F_12_span_0 x1 x2 x3 x4 x5 x6 M).2) := Ms.of okM_m12_span (Nat.le_of_ble_eq_true rfl) (R_wk (lc rfl (lc rfl (lc rfl (lc rfl (lc rfl (lc rfl (lc rfl (ln (ln (ln l0)))))))))) (T_12_span_0 x1 x2 x3 x4 x5 x6 M hp))
def F_12_puts_0 (q1 : Nat) (x2 : Int32) (x3 : Int32) (M : Mem) : Int32 × Mem := if x3 = 0 then ((rd (wr (wr M (494 + q1) ((rd M 0 39).toNatClampNeg) x2) 0 39 ((rd (wr M (494 + q1) ((rd M 0 39).toNatClampNeg) x2) 0 39) + 1)) (494 + q1) ((((rd (wr M (494 + q1) ((rd M 0 39).toNatClampNeg) x2) 0 39) + 1) - 1).toNatClampNeg), wr (wr M (494 + q1) ((rd M 0 39).toNatClampNeg) x2) 0 39 ((rd (wr M (494 + q1) ((rd M 0 39).toNatClampNeg) x2) 0 39) + 1))) else ((rd (wr M 0 39 ((rd M 0 39) + 1)) (494 + q1) ((((rd M 0 39) + 1) - 1).toNatClampNeg), wr M 0 39 ((rd M 0 39) + 1)))
def P_12_puts_0 (q1 : Nat) (x2 : Int32) (x3 : Int32) (M : Mem) : Prop := (q1 < 3) ∧ (((¬ x3 = 0 → (vp_in (((rd M 0 39) + 1) - 1) 953)) ∧ (x3 = 0 → (vp_in (rd M 0 39) 953) ∧ ((vp_in (((rd (wr M (494 + q1) ((rd M 0 39).toNatClampNeg) x2) 0 39) + 1) - 1) 953)))))
theorem T_12_puts_0 {g : Gl} (q1 : Nat) (x2 : Int32) (x3 : Int32) (M : Mem) (hp : P_12_puts_0 q1 x2 x3 M) : Rn g 0 m12_puts 0 [some (.ref 0), some (.ref (494 + q1)), some (.int x2), some (.int x3)] [] M (some (.int (F_12_puts_0 q1 x2 x3 M).1)) ((F_12_puts_0 q1 x2 x3 M).2) := by
  rw [F_12_puts_0]
  rw [P_12_puts_0] at hp
  obtain ⟨hq1, hp⟩ := hp
  refine b12_puts_0 hq1 (fun h => ?_) (fun h => ?_)
  · rw [if_neg h]
    have hp := hp.1 h
    have p0 := hp
    exact b12_puts_11 hq1 p0 rfl rfl
  · rw [if_pos h]
    have hp := hp.2 h
    obtain ⟨p1, hp⟩ := hp
    refine b12_puts_4 hq1 p1 ?_
    have p2 := hp
    exact b12_puts_11 hq1 p2 rfl rfl
theorem C_12_puts {g : Gl}  (q1 : Nat) (x2 : Int32) (x3 : Int32) (M : Mem) (hp : P_12_puts_0 q1 x2 x3 M) : Ms g 0 m12_puts [.ref 0, .ref (494 + q1), .int x2, .int x3] M (some (.int (F_12_puts_0 q1 x2 x3 M).1)) ((F_12_puts_0 q1 x2 x3 M).2) := Ms.of okM_m12_puts (Nat.le_of_ble_eq_true rfl) (R_wk (lc rfl (lc rfl (lc rfl (lc rfl l0)))) (T_12_puts_0 q1 x2 x3 M hp))
def F_12_putsAll_44 (k21 : Nat → Int32 → Int32 → Mem → Mem) (q1 : Nat) (x2 : Int32) (x3 : Int32) (xs0 : Int32) (xs1 : Int32) (M : Mem) : Mem := k21 q1 x2 (x3 + 1) (wr M 20 xs1.toNatClampNeg xs0)
def P_12_putsAll_44 (pk21 : Nat → Int32 → Int32 → Mem → Prop) (q1 : Nat) (x2 : Int32) (x3 : Int32) (xs0 : Int32) (xs1 : Int32) (M : Mem) : Prop := (q1 < 3) ∧ ((vp_in xs1 56) ∧ (pk21 q1 x2 (x3 + 1) (wr M 20 xs1.toNatClampNeg xs0)))
theorem T_12_putsAll_44 {g : Gl} (k21 : Nat → Int32 → Int32 → Mem → Mem) (pk21 : Nat → Int32 → Int32 → Mem → Prop) (ih21 : ∀ (q1 : Nat) (x2 : Int32) (x3 : Int32) (M : Mem), pk21 q1 x2 x3 M → Rn g 1 m12_putsAll 21 [some (.ref 0), some (.ref (494 + q1)), some (.int x2), some (.int x3), none] [] M (none) ((k21 q1 x2 x3 M))) (q1 : Nat) (x2 : Int32) (x3 : Int32) (xs0 : Int32) (xs1 : Int32) (M : Mem) (hp : P_12_putsAll_44 pk21 q1 x2 x3 xs0 xs1 M) : Rn g 1 m12_putsAll 44 [some (.ref 0), some (.ref (494 + q1)), some (.int x2), some (.int x3), none] [.int xs0, .int xs1, .ref 20] M (none) ((F_12_putsAll_44 k21 q1 x2 x3 xs0 xs1 M)) := by
  rw [F_12_putsAll_44]
  rw [P_12_putsAll_44] at hp
  obtain ⟨hq1, hp⟩ := hp
  obtain ⟨p0, hp⟩ := hp
  refine b12_putsAll_44 hq1 p0 ?_
  exact ih21 q1 x2 (x3 + 1) (wr M 20 xs1.toNatClampNeg xs0) hp
def F_12_putsAll_92 (k53 : Nat → Int32 → Int32 → Mem → Mem) (k62 : Nat → Int32 → Int32 → Int32 → Mem → Mem) (q1 : Nat) (x2 : Int32) (x3 : Int32) (x4 : Int32) (xs0 : Int32) (xs1 : Int32) (qs2 : Nat) (M : Mem) : Mem := k62 q1 x2 x3 (x4 + 1) (wr M (478 + qs2) xs1.toNatClampNeg xs0)
def P_12_putsAll_92 (pk53 : Nat → Int32 → Int32 → Mem → Prop) (pk62 : Nat → Int32 → Int32 → Int32 → Mem → Prop) (q1 : Nat) (x2 : Int32) (x3 : Int32) (x4 : Int32) (xs0 : Int32) (xs1 : Int32) (qs2 : Nat) (M : Mem) : Prop := (q1 < 3) ∧ ((qs2 < 16) ∧ ((vp_in xs1 56) ∧ (pk62 q1 x2 x3 (x4 + 1) (wr M (478 + qs2) xs1.toNatClampNeg xs0))))
theorem T_12_putsAll_92 {g : Gl} (k53 : Nat → Int32 → Int32 → Mem → Mem) (k62 : Nat → Int32 → Int32 → Int32 → Mem → Mem) (pk53 : Nat → Int32 → Int32 → Mem → Prop) (pk62 : Nat → Int32 → Int32 → Int32 → Mem → Prop) (ih53 : ∀ (q1 : Nat) (x2 : Int32) (x3 : Int32) (M : Mem), pk53 q1 x2 x3 M → Rn g 1 m12_putsAll 53 [some (.ref 0), some (.ref (494 + q1)), some (.int x2), some (.int x3), none] [] M (none) ((k53 q1 x2 x3 M))) (ih62 : ∀ (q1 : Nat) (x2 : Int32) (x3 : Int32) (x4 : Int32) (M : Mem), pk62 q1 x2 x3 x4 M → Rn g 1 m12_putsAll 62 [some (.ref 0), some (.ref (494 + q1)), some (.int x2), some (.int x3), some (.int x4)] [] M (none) ((k62 q1 x2 x3 x4 M))) (q1 : Nat) (x2 : Int32) (x3 : Int32) (x4 : Int32) (xs0 : Int32) (xs1 : Int32) (qs2 : Nat) (M : Mem) (hp : P_12_putsAll_92 pk53 pk62 q1 x2 x3 x4 xs0 xs1 qs2 M) : Rn g 1 m12_putsAll 92 [some (.ref 0), some (.ref (494 + q1)), some (.int x2), some (.int x3), some (.int x4)] [.int xs0, .int xs1, .ref (478 + qs2)] M (none) ((F_12_putsAll_92 k53 k62 q1 x2 x3 x4 xs0 xs1 qs2 M)) := by
  rw [F_12_putsAll_92]
  rw [P_12_putsAll_92] at hp
  obtain ⟨hq1, hqs2, hp⟩ := hp
  obtain ⟨p0, hp⟩ := hp
  refine b12_putsAll_92 hq1 hqs2 p0 ?_
  exact ih62 q1 x2 x3 (x4 + 1) (wr M (478 + qs2) xs1.toNatClampNeg xs0) hp
def F_12_putsAll_62 (k53 : Nat → Int32 → Int32 → Mem → Mem) : Nat → Nat → Int32 → Int32 → Int32 → Mem → Mem
  | 0, _, _, _, _, M => M
  | n + 1, q1, x2, x3, x4, M => if (56 : Int32) ≤ x4 then (k53 q1 x2 (x3 + 1) M) else (F_12_putsAll_92 k53 (F_12_putsAll_62 k53 n) q1 x2 x3 x4 ((F_12_puts_0 q1 (rd M (478 + x3.toNatClampNeg) x4.toNatClampNeg) x2 M).1) x4 (x3.toNatClampNeg) ((F_12_puts_0 q1 (rd M (478 + x3.toNatClampNeg) x4.toNatClampNeg) x2 M).2))
def P_12_putsAll_62 (pk53 : Nat → Int32 → Int32 → Mem → Prop) : Nat → Nat → Int32 → Int32 → Int32 → Mem → Prop
  | 0, _, _, _, _, _ => False
  | n + 1, q1, x2, x3, x4, M => (q1 < 3) ∧ ((((56 : Int32) ≤ x4 → (pk53 q1 x2 (x3 + 1) M)) ∧ (¬ (56 : Int32) ≤ x4 → (vp_in x3 16) ∧ (vp_in x4 56) ∧ ((P_12_puts_0 q1 (rd M (478 + x3.toNatClampNeg) x4.toNatClampNeg) x2 M) ∧ (P_12_putsAll_92 pk53 (P_12_putsAll_62 pk53 n) q1 x2 x3 x4 ((F_12_puts_0 q1 (rd M (478 + x3.toNatClampNeg) x4.toNatClampNeg) x2 M).1) x4 (x3.toNatClampNeg) ((F_12_puts_0 q1 (rd M (478 + x3.toNatClampNeg) x4.toNatClampNeg) x2 M).2))))))
theorem T_12_putsAll_62 {g : Gl} (k53 : Nat → Int32 → Int32 → Mem → Mem) (pk53 : Nat → Int32 → Int32 → Mem → Prop) (ih53 : ∀ (q1 : Nat) (x2 : Int32) (x3 : Int32) (M : Mem), pk53 q1 x2 x3 M → Rn g 1 m12_putsAll 53 [some (.ref 0), some (.ref (494 + q1)), some (.int x2), some (.int x3), none] [] M (none) ((k53 q1 x2 x3 M))) : ∀ (n : Nat) (q1 : Nat) (x2 : Int32) (x3 : Int32) (x4 : Int32) (M : Mem) (hp : P_12_putsAll_62 pk53 n q1 x2 x3 x4 M), Rn g 1 m12_putsAll 62 [some (.ref 0), some (.ref (494 + q1)), some (.int x2), some (.int x3), some (.int x4)] [] M (none) ((F_12_putsAll_62 k53 n q1 x2 x3 x4 M)) := by
  intro n
  induction n with
  | zero => intro q1 x2 x3 x4 M hp; exact hp.elim
  | succ n ih =>
    intro q1 x2 x3 x4 M hp
    rw [F_12_putsAll_62]
    rw [P_12_putsAll_62] at hp
    obtain ⟨hq1, hp⟩ := hp
    refine b12_putsAll_62 hq1 (fun h => ?_) (fun h => ?_)
    · rw [if_pos h]
      have hp := hp.1 h
      refine b12_putsAll_99 hq1 ?_
      exact ih53 q1 x2 (x3 + 1) M hp
    · rw [if_neg h]
      have hp := hp.2 h
      obtain ⟨p0, p1, hp⟩ := hp
      obtain ⟨hc, hp⟩ := hp
      refine b12_putsAll_69 hq1 p0 p1 (C_12_puts q1 (rd M (478 + x3.toNatClampNeg) x4.toNatClampNeg) x2 M hc) (Nat.le_of_ble_eq_true rfl) ?_
      exact T_12_putsAll_92 k53 (F_12_putsAll_62 k53 n) pk53 (P_12_putsAll_62 pk53 n) ih53 ih q1 x2 x3 x4 ((F_12_puts_0 q1 (rd M (478 + x3.toNatClampNeg) x4.toNatClampNeg) x2 M).1) x4 (x3.toNatClampNeg) ((F_12_puts_0 q1 (rd M (478 + x3.toNatClampNeg) x4.toNatClampNeg) x2 M).2) hp
def F_12_putsAll_53  : Nat → Nat → Int32 → Int32 → Mem → Mem
  | 0, _, _, _, M => M
  | n + 1, q1, x2, x3, M => if (16 : Int32) ≤ x3 then (M) else (F_12_putsAll_62 (F_12_putsAll_53 n) FU q1 x2 x3 0 M)
def P_12_putsAll_53  : Nat → Nat → Int32 → Int32 → Mem → Prop
  | 0, _, _, _, _ => False
  | n + 1, q1, x2, x3, M => (q1 < 3) ∧ ((((16 : Int32) ≤ x3 → True) ∧ (¬ (16 : Int32) ≤ x3 → (P_12_putsAll_62 (P_12_putsAll_53 n) FU q1 x2 x3 0 M))))
theorem T_12_putsAll_53 {g : Gl} : ∀ (n : Nat) (q1 : Nat) (x2 : Int32) (x3 : Int32) (M : Mem) (hp : P_12_putsAll_53 n q1 x2 x3 M), Rn g 1 m12_putsAll 53 [some (.ref 0), some (.ref (494 + q1)), some (.int x2), some (.int x3), none] [] M (none) ((F_12_putsAll_53 n q1 x2 x3 M)) := by
  intro n
  induction n with
  | zero => intro q1 x2 x3 M hp; exact hp.elim
  | succ n ih =>
    intro q1 x2 x3 M hp
    rw [F_12_putsAll_53]
    rw [P_12_putsAll_53] at hp
    obtain ⟨hq1, hp⟩ := hp
    refine b12_putsAll_53 hq1 (fun h => ?_) (fun h => ?_)
    · rw [if_pos h]
      exact b12_putsAll_105  rfl rfl
    · rw [if_neg h]
      have hp := hp.2 h
      refine b12_putsAll_59 hq1 ?_
      exact T_12_putsAll_62 (F_12_putsAll_53 n) (P_12_putsAll_53 n) ih FU q1 x2 x3 0 M hp
def F_12_putsAll_21  : Nat → Nat → Int32 → Int32 → Mem → Mem
  | 0, _, _, _, M => M
  | n + 1, q1, x2, x3, M => if (56 : Int32) ≤ x3 then (F_12_putsAll_53 FU q1 x2 0 M) else (F_12_putsAll_44 (F_12_putsAll_21 n) q1 x2 x3 ((F_12_puts_0 q1 (rd M 20 x3.toNatClampNeg) x2 M).1) x3 ((F_12_puts_0 q1 (rd M 20 x3.toNatClampNeg) x2 M).2))
def P_12_putsAll_21  : Nat → Nat → Int32 → Int32 → Mem → Prop
  | 0, _, _, _, _ => False
  | n + 1, q1, x2, x3, M => (q1 < 3) ∧ ((((56 : Int32) ≤ x3 → (P_12_putsAll_53 FU q1 x2 0 M)) ∧ (¬ (56 : Int32) ≤ x3 → (vp_in x3 56) ∧ ((P_12_puts_0 q1 (rd M 20 x3.toNatClampNeg) x2 M) ∧ (P_12_putsAll_44 (P_12_putsAll_21 n) q1 x2 x3 ((F_12_puts_0 q1 (rd M 20 x3.toNatClampNeg) x2 M).1) x3 ((F_12_puts_0 q1 (rd M 20 x3.toNatClampNeg) x2 M).2))))))
theorem T_12_putsAll_21 {g : Gl} : ∀ (n : Nat) (q1 : Nat) (x2 : Int32) (x3 : Int32) (M : Mem) (hp : P_12_putsAll_21 n q1 x2 x3 M), Rn g 1 m12_putsAll 21 [some (.ref 0), some (.ref (494 + q1)), some (.int x2), some (.int x3), none] [] M (none) ((F_12_putsAll_21 n q1 x2 x3 M)) := by
  intro n
  induction n with
  | zero => intro q1 x2 x3 M hp; exact hp.elim
  | succ n ih =>
    intro q1 x2 x3 M hp
    rw [F_12_putsAll_21]
    rw [P_12_putsAll_21] at hp
    obtain ⟨hq1, hp⟩ := hp
    refine b12_putsAll_21 hq1 (fun h => ?_) (fun h => ?_)
    · rw [if_pos h]
      have hp := hp.1 h
      refine b12_putsAll_51 hq1 ?_
      exact T_12_putsAll_53 FU q1 x2 0 M hp
    · rw [if_neg h]
      have hp := hp.2 h
      obtain ⟨p0, hp⟩ := hp
      obtain ⟨hc, hp⟩ := hp
      refine b12_putsAll_27 hq1 p0 (C_12_puts q1 (rd M 20 x3.toNatClampNeg) x2 M hc) (Nat.le_of_ble_eq_true rfl) ?_
      exact T_12_putsAll_44 (F_12_putsAll_21 n) (P_12_putsAll_21 n) ih q1 x2 x3 ((F_12_puts_0 q1 (rd M 20 x3.toNatClampNeg) x2 M).1) x3 ((F_12_puts_0 q1 (rd M 20 x3.toNatClampNeg) x2 M).2) hp
def F_12_putsAll_16 (q1 : Nat) (x2 : Int32) (xs0 : Int32) (M : Mem) : Mem := F_12_putsAll_21 FU q1 x2 0 (wr M 0 36 xs0)
def P_12_putsAll_16 (q1 : Nat) (x2 : Int32) (xs0 : Int32) (M : Mem) : Prop := (q1 < 3) ∧ ((P_12_putsAll_21 FU q1 x2 0 (wr M 0 36 xs0)))
theorem T_12_putsAll_16 {g : Gl} (q1 : Nat) (x2 : Int32) (xs0 : Int32) (M : Mem) (hp : P_12_putsAll_16 q1 x2 xs0 M) : Rn g 1 m12_putsAll 16 [some (.ref 0), some (.ref (494 + q1)), some (.int x2), none, none] [.int xs0, .ref 0] M (none) ((F_12_putsAll_16 q1 x2 xs0 M)) := by
  rw [F_12_putsAll_16]
  rw [P_12_putsAll_16] at hp
  obtain ⟨hq1, hp⟩ := hp
  refine b12_putsAll_16 hq1 ?_
  exact T_12_putsAll_21 FU q1 x2 0 (wr M 0 36 xs0) hp
def F_12_putsAll_0 (q1 : Nat) (x2 : Int32) (M : Mem) : Mem := F_12_putsAll_16 q1 x2 ((F_12_puts_0 q1 (rd (wr M 0 39 0) 0 36) x2 (wr M 0 39 0)).1) ((F_12_puts_0 q1 (rd (wr M 0 39 0) 0 36) x2 (wr M 0 39 0)).2)
def P_12_putsAll_0 (q1 : Nat) (x2 : Int32) (M : Mem) : Prop := (q1 < 3) ∧ (((P_12_puts_0 q1 (rd (wr M 0 39 0) 0 36) x2 (wr M 0 39 0)) ∧ (P_12_putsAll_16 q1 x2 ((F_12_puts_0 q1 (rd (wr M 0 39 0) 0 36) x2 (wr M 0 39 0)).1) ((F_12_puts_0 q1 (rd (wr M 0 39 0) 0 36) x2 (wr M 0 39 0)).2))))
theorem T_12_putsAll_0 {g : Gl} (q1 : Nat) (x2 : Int32) (M : Mem) (hp : P_12_putsAll_0 q1 x2 M) : Rn g 1 m12_putsAll 0 [some (.ref 0), some (.ref (494 + q1)), some (.int x2), none, none] [] M (none) ((F_12_putsAll_0 q1 x2 M)) := by
  rw [F_12_putsAll_0]
  rw [P_12_putsAll_0] at hp
  obtain ⟨hq1, hp⟩ := hp
  obtain ⟨hc, hp⟩ := hp
  refine b12_putsAll_0 hq1 (C_12_puts q1 (rd (wr M 0 39 0) 0 36) x2 (wr M 0 39 0) hc) (Nat.le_of_ble_eq_true rfl) ?_
  exact T_12_putsAll_16 q1 x2 ((F_12_puts_0 q1 (rd (wr M 0 39 0) 0 36) x2 (wr M 0 39 0)).1) ((F_12_puts_0 q1 (rd (wr M 0 39 0) 0 36) x2 (wr M 0 39 0)).2) hp
theorem C_12_putsAll {g : Gl}  (q1 : Nat) (x2 : Int32) (M : Mem) (hp : P_12_putsAll_0 q1 x2 M) : Ms g 1 m12_putsAll [.ref 0, .ref (494 + q1), .int x2] M (none) ((F_12_putsAll_0 q1 x2 M)) := Ms.of okM_m12_putsAll (Nat.le_of_ble_eq_true rfl) (R_wk (lc rfl (lc rfl (lc rfl (ln (ln l0))))) (T_12_putsAll_0 q1 x2 M hp))
def F_12_image_29 (M : Mem) : Int32 × Mem := ((rd M 0 38) + 1, wr M 0 38 ((rd M 0 38) + 1))
theorem T_12_image_29 {g : Gl} (M : Mem)  : Rn g 2 m12_image 29 [some (.ref 0)] [] M (some (.int (F_12_image_29 M).1)) ((F_12_image_29 M).2) := by
  rw [F_12_image_29]
  exact b12_image_29  rfl rfl
def F_12_image_0 (M : Mem) : Int32 × Mem := if (rd (wr M 0 0 0) 0 38) = 3 then (((-1), (wr M 0 0 0))) else (F_12_image_29 (F_12_putsAll_0 ((rd (wr M 0 0 0) 0 38).toNatClampNeg) 0 (wr M 0 0 0)))
def P_12_image_0 (M : Mem) : Prop := ((¬ (rd (wr M 0 0 0) 0 38) = 3 → (vp_in (rd (wr M 0 0 0) 0 38) 3) ∧ ((P_12_putsAll_0 ((rd (wr M 0 0 0) 0 38).toNatClampNeg) 0 (wr M 0 0 0)))) ∧ ((rd (wr M 0 0 0) 0 38) = 3 → True))
theorem T_12_image_0 {g : Gl} (M : Mem) (hp : P_12_image_0 M) : Rn g 2 m12_image 0 [some (.ref 0)] [] M (some (.int (F_12_image_0 M).1)) ((F_12_image_0 M).2) := by
  rw [F_12_image_0]
  rw [P_12_image_0] at hp
  refine b12_image_0  (fun h => ?_) (fun h => ?_)
  · rw [if_neg h]
    have hp := hp.1 h
    obtain ⟨p0, hp⟩ := hp
    have hc := hp
    refine b12_image_15 p0 (C_12_putsAll ((rd (wr M 0 0 0) 0 38).toNatClampNeg) 0 (wr M 0 0 0) hc) (Nat.le_of_ble_eq_true rfl) ?_
    exact T_12_image_29 (F_12_putsAll_0 ((rd (wr M 0 0 0) 0 38).toNatClampNeg) 0 (wr M 0 0 0))
  · rw [if_pos h]
    exact b12_image_13  rfl rfl
theorem C_12_image {g : Gl}   (M : Mem) (hp : P_12_image_0 M) : Ms g 2 m12_image [.ref 0] M (some (.int (F_12_image_0 M).1)) ((F_12_image_0 M).2) := Ms.of okM_m12_image (Nat.le_of_ble_eq_true rfl) (R_wk (lc rfl l0) (T_12_image_0 M hp))
def F_12_restore_38 (M : Mem) : Int32 × Mem := (rd (wr M 0 37 0) 0 38, wr M 0 37 0)
theorem T_12_restore_38 {g : Gl} (M : Mem)  : Rn g 2 m12_restore 38 [some (.ref 0)] [] M (some (.int (F_12_restore_38 M).1)) ((F_12_restore_38 M).2) := by
  rw [F_12_restore_38]
  exact b12_restore_38  rfl rfl
def F_12_restore_0 (M : Mem) : Int32 × Mem := if (rd (wr M 0 0 0) 0 38) = 0 then (((-1), (wr M 0 0 0))) else (F_12_restore_38 (F_12_putsAll_0 (((rd (wr M 0 0 0) 0 38) - 1).toNatClampNeg) 1 (wr (wr M 0 0 0) 0 38 ((rd (wr M 0 0 0) 0 38) - 1))))
def P_12_restore_0 (M : Mem) : Prop := ((¬ (rd (wr M 0 0 0) 0 38) = 0 → (vp_in ((rd (wr M 0 0 0) 0 38) - 1) 3) ∧ ((P_12_putsAll_0 (((rd (wr M 0 0 0) 0 38) - 1).toNatClampNeg) 1 (wr (wr M 0 0 0) 0 38 ((rd (wr M 0 0 0) 0 38) - 1))))) ∧ ((rd (wr M 0 0 0) 0 38) = 0 → True))
theorem T_12_restore_0 {g : Gl} (M : Mem) (hp : P_12_restore_0 M) : Rn g 2 m12_restore 0 [some (.ref 0)] [] M (some (.int (F_12_restore_0 M).1)) ((F_12_restore_0 M).2) := by
  rw [F_12_restore_0]
  rw [P_12_restore_0] at hp
  refine b12_restore_0  (fun h => ?_) (fun h => ?_)
  · rw [if_neg h]
    have hp := hp.1 h
    obtain ⟨p0, hp⟩ := hp
    have hc := hp
    refine b12_restore_14 p0 (C_12_putsAll (((rd (wr M 0 0 0) 0 38) - 1).toNatClampNeg) 1 (wr (wr M 0 0 0) 0 38 ((rd (wr M 0 0 0) 0 38) - 1)) hc) (Nat.le_of_ble_eq_true rfl) ?_
    exact T_12_restore_38 (F_12_putsAll_0 (((rd (wr M 0 0 0) 0 38) - 1).toNatClampNeg) 1 (wr (wr M 0 0 0) 0 38 ((rd (wr M 0 0 0) 0 38) - 1)))
  · rw [if_pos h]
    exact b12_restore_12  rfl rfl
theorem C_12_restore {g : Gl}   (M : Mem) (hp : P_12_restore_0 M) : Ms g 2 m12_restore [.ref 0] M (some (.int (F_12_restore_0 M).1)) ((F_12_restore_0 M).2) := Ms.of okM_m12_restore (Nat.le_of_ble_eq_true rfl) (R_wk (lc rfl l0) (T_12_restore_0 M hp))
def F_12_status_0 (x1 : Int32) (M : Mem) : Int32 × Mem := if (F_12_in_0 (wr M 0 0 0) x1 0 1) = 0 then (((-1), (wr M 0 0 0))) else (((rd (wr M 0 0 0) 2 x1.toNatClampNeg), (wr M 0 0 0)))
def P_12_status_0 (x1 : Int32) (M : Mem) : Prop := (((((F_12_in_0 (wr M 0 0 0) x1 0 1) = 0 → True) ∧ (¬ (F_12_in_0 (wr M 0 0 0) x1 0 1) = 0 → (vp_in x1 2)))))
theorem T_12_status_0 {g : Gl} (x1 : Int32) (M : Mem) (hp : P_12_status_0 x1 M) : Rn g 1 m12_status 0 [some (.ref 0), some (.int x1)] [] M (some (.int (F_12_status_0 x1 M).1)) ((F_12_status_0 x1 M).2) := by
  rw [F_12_status_0]
  rw [P_12_status_0] at hp
  refine b12_status_0  (C_12_in x1 0 1 (wr M 0 0 0)) (Nat.le_of_ble_eq_true rfl) ?_
  refine b12_status_11  (fun h => ?_) (fun h => ?_)
  · rw [if_pos h]
    refine b12_status_23  ?_
    exact b12_status_24  rfl rfl
  · rw [if_neg h]
    have hp := hp.2 h
    have p0 := hp
    refine b12_status_14 p0 ?_
    exact b12_status_24  rfl rfl
theorem C_12_status {g : Gl}  (x1 : Int32) (M : Mem) (hp : P_12_status_0 x1 M) : Ms g 1 m12_status [.ref 0, .int x1] M (some (.int (F_12_status_0 x1 M).1)) ((F_12_status_0 x1 M).2) := Ms.of okM_m12_status (Nat.le_of_ble_eq_true rfl) (R_wk (lc rfl (lc rfl l0)) (T_12_status_0 x1 M hp))
def F_12_count_0 (x1 : Int32) (M : Mem) : Int32 × Mem := if x1 = 0 then (((rd (wr M 0 0 0) 0 38), (wr M 0 0 0))) else (if x1 = 1 then (((rd (wr M 0 0 0) 0 1), (wr M 0 0 0))) else (if x1 = 2 then (((rd (wr M 0 0 0) 0 36), (wr M 0 0 0))) else (((-1), (wr M 0 0 0)))))
theorem T_12_count_0 {g : Gl} (x1 : Int32) (M : Mem)  : Rn g 0 m12_count 0 [some (.ref 0), some (.int x1)] [] M (some (.int (F_12_count_0 x1 M).1)) ((F_12_count_0 x1 M).2) := by
  rw [F_12_count_0]
  refine b12_count_0  (fun h => ?_) (fun h => ?_)
  · rw [if_neg h]
    refine b12_count_16  (fun h => ?_) (fun h => ?_)
    · rw [if_neg h]
      refine b12_count_28  (fun h => ?_) (fun h => ?_)
      · rw [if_neg h]
        refine b12_count_40  ?_
        exact b12_count_41  rfl rfl
      · rw [if_pos h]
        refine b12_count_33  ?_
        exact b12_count_41  rfl rfl
    · rw [if_pos h]
      refine b12_count_21  ?_
      exact b12_count_41  rfl rfl
  · rw [if_pos h]
    refine b12_count_9  ?_
    exact b12_count_41  rfl rfl
theorem C_12_count {g : Gl}  (x1 : Int32) (M : Mem)  : Ms g 0 m12_count [.ref 0, .int x1] M (some (.int (F_12_count_0 x1 M).1)) ((F_12_count_0 x1 M).2) := Ms.of okM_m12_count (Nat.le_of_ble_eq_true rfl) (R_wk (lc rfl (lc rfl l0)) (T_12_count_0 x1 M))
