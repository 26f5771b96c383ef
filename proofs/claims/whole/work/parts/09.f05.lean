def F_12_behindIn_62 (k5 : Int32 → Int32 → Int32 → Int32 → Mem → Int32 × Mem) (x1 : Int32) (x2 : Int32) (x4 : Int32) (xs0 : Int32) (xs1 : Int32) (M : Mem) : Int32 × Mem := k5 x1 x2 (xs1 ||| xs0) (x4 + 1) M
def P_12_behindIn_62 (pk5 : Int32 → Int32 → Int32 → Int32 → Mem → Prop) (x1 : Int32) (x2 : Int32) (x4 : Int32) (xs0 : Int32) (xs1 : Int32) (M : Mem) : Prop := (pk5 x1 x2 (xs1 ||| xs0) (x4 + 1) M)
theorem T_12_behindIn_62 {g : Gl} (k5 : Int32 → Int32 → Int32 → Int32 → Mem → Int32 × Mem) (pk5 : Int32 → Int32 → Int32 → Int32 → Mem → Prop) (ih5 : ∀ (x1 : Int32) (x2 : Int32) (x3 : Int32) (x4 : Int32) (M : Mem), pk5 x1 x2 x3 x4 M → Rn g 6 m12_behindIn 5 [some (.ref 0), some (.int x1), some (.int x2), some (.int x3), some (.int x4)] [] M (some (.int (k5 x1 x2 x3 x4 M).1)) ((k5 x1 x2 x3 x4 M).2)) (x1 : Int32) (x2 : Int32) (x4 : Int32) (xs0 : Int32) (xs1 : Int32) (M : Mem) (hp : P_12_behindIn_62 pk5 x1 x2 x4 xs0 xs1 M) : Rn g 6 m12_behindIn 62 [some (.ref 0), some (.int x1), some (.int x2), none, some (.int x4)] [.int xs0, .int xs1] M (some (.int (F_12_behindIn_62 k5 x1 x2 x4 xs0 xs1 M).1)) ((F_12_behindIn_62 k5 x1 x2 x4 xs0 xs1 M).2) := by
  rw [F_12_behindIn_62]
  rw [P_12_behindIn_62] at hp
  refine b12_behindIn_62  ?_
  exact ih5 x1 x2 (xs1 ||| xs0) (x4 + 1) M hp
def F_12_behindIn_61 (k5 : Int32 → Int32 → Int32 → Int32 → Mem → Int32 × Mem) (x1 : Int32) (x2 : Int32) (x4 : Int32) (xs0 : Int32) (M : Mem) : Int32 × Mem := F_12_behindIn_62 k5 x1 x2 x4 0 xs0 M
def P_12_behindIn_61 (pk5 : Int32 → Int32 → Int32 → Int32 → Mem → Prop) (x1 : Int32) (x2 : Int32) (x4 : Int32) (xs0 : Int32) (M : Mem) : Prop := (P_12_behindIn_62 pk5 x1 x2 x4 0 xs0 M)
theorem T_12_behindIn_61 {g : Gl} (k5 : Int32 → Int32 → Int32 → Int32 → Mem → Int32 × Mem) (pk5 : Int32 → Int32 → Int32 → Int32 → Mem → Prop) (ih5 : ∀ (x1 : Int32) (x2 : Int32) (x3 : Int32) (x4 : Int32) (M : Mem), pk5 x1 x2 x3 x4 M → Rn g 6 m12_behindIn 5 [some (.ref 0), some (.int x1), some (.int x2), some (.int x3), some (.int x4)] [] M (some (.int (k5 x1 x2 x3 x4 M).1)) ((k5 x1 x2 x3 x4 M).2)) (x1 : Int32) (x2 : Int32) (x4 : Int32) (xs0 : Int32) (M : Mem) (hp : P_12_behindIn_61 pk5 x1 x2 x4 xs0 M) : Rn g 6 m12_behindIn 61 [some (.ref 0), some (.int x1), some (.int x2), none, some (.int x4)] [.int xs0] M (some (.int (F_12_behindIn_61 k5 x1 x2 x4 xs0 M).1)) ((F_12_behindIn_61 k5 x1 x2 x4 xs0 M).2) := by
  rw [F_12_behindIn_61]
  rw [P_12_behindIn_61] at hp
  refine b12_behindIn_61  ?_
  exact T_12_behindIn_62 k5 pk5 ih5 x1 x2 x4 0 xs0 M hp
def F_12_behindIn_44 (k5 : Int32 → Int32 → Int32 → Int32 → Mem → Int32 × Mem) (x1 : Int32) (x2 : Int32) (x4 : Int32) (xs0 : Int32) (xs1 : Int32) (M : Mem) : Int32 × Mem := if xs0 = 0 then (F_12_behindIn_61 k5 x1 x2 x4 xs1 M) else (F_12_behindIn_62 k5 x1 x2 x4 ((1 : Int32) <<< ((rd M (54 + x4.toNatClampNeg) ((1 : Int32).toNatClampNeg)) &&& 31)) xs1 M)
def P_12_behindIn_44 (pk5 : Int32 → Int32 → Int32 → Int32 → Mem → Prop) (x1 : Int32) (x2 : Int32) (x4 : Int32) (xs0 : Int32) (xs1 : Int32) (M : Mem) : Prop := ((xs0 = 0 → P_12_behindIn_61 pk5 x1 x2 x4 xs1 M) ∧ (¬ xs0 = 0 → (vp_in x4 24) ∧ (P_12_behindIn_62 pk5 x1 x2 x4 ((1 : Int32) <<< ((rd M (54 + x4.toNatClampNeg) ((1 : Int32).toNatClampNeg)) &&& 31)) xs1 M)))
theorem T_12_behindIn_44 {g : Gl} (k5 : Int32 → Int32 → Int32 → Int32 → Mem → Int32 × Mem) (pk5 : Int32 → Int32 → Int32 → Int32 → Mem → Prop) (ih5 : ∀ (x1 : Int32) (x2 : Int32) (x3 : Int32) (x4 : Int32) (M : Mem), pk5 x1 x2 x3 x4 M → Rn g 6 m12_behindIn 5 [some (.ref 0), some (.int x1), some (.int x2), some (.int x3), some (.int x4)] [] M (some (.int (k5 x1 x2 x3 x4 M).1)) ((k5 x1 x2 x3 x4 M).2)) (x1 : Int32) (x2 : Int32) (x4 : Int32) (xs0 : Int32) (xs1 : Int32) (M : Mem) (hp : P_12_behindIn_44 pk5 x1 x2 x4 xs0 xs1 M) : Rn g 6 m12_behindIn 44 [some (.ref 0), some (.int x1), some (.int x2), none, some (.int x4)] [.int xs0, .int xs1] M (some (.int (F_12_behindIn_44 k5 x1 x2 x4 xs0 xs1 M).1)) ((F_12_behindIn_44 k5 x1 x2 x4 xs0 xs1 M).2) := by
  rw [F_12_behindIn_44]
  rw [P_12_behindIn_44] at hp
  refine b12_behindIn_44  (fun h => ?_) (fun h => ?_)
  · rw [if_pos h]
    have hp := hp.1 h
    exact T_12_behindIn_61 k5 pk5 ih5 x1 x2 x4 xs1 M hp
  · rw [if_neg h]
    have hp := hp.2 h
    obtain ⟨p0, hp⟩ := hp
    refine b12_behindIn_47 p0 (vpl (by decide)) ?_
    exact T_12_behindIn_62 k5 pk5 ih5 x1 x2 x4 ((1 : Int32) <<< ((rd M (54 + x4.toNatClampNeg) ((1 : Int32).toNatClampNeg)) &&& 31)) xs1 M hp
def F_12_behindIn_5  : Nat → Int32 → Int32 → Int32 → Int32 → Mem → Int32 × Mem
  | 0, _, _, _, _, M => (0, M)
  | n + 1, x1, x2, x3, x4, M => if (rd M 4 ((1 : Int32).toNatClampNeg)) ≤ x4 then ((x3, M)) else (if (F_12_has_0 M x1 (rd M (54 + x4.toNatClampNeg) ((0 : Int32).toNatClampNeg))) = 0 then (F_12_behindIn_61 (F_12_behindIn_5 n) x1 x2 x4 x3 M) else (F_12_behindIn_44 (F_12_behindIn_5 n) x1 x2 x4 ((F_12_isOpenIn_0 x4 x2 M).1) x3 ((F_12_isOpenIn_0 x4 x2 M).2)))
def P_12_behindIn_5  : Nat → Int32 → Int32 → Int32 → Int32 → Mem → Prop
  | 0, _, _, _, _, _ => False
  | n + 1, x1, x2, x3, x4, M => (((rd M 4 ((1 : Int32).toNatClampNeg)) ≤ x4 → True) ∧ (¬ (rd M 4 ((1 : Int32).toNatClampNeg)) ≤ x4 → (vp_in x4 24) ∧ (((((F_12_has_0 M x1 (rd M (54 + x4.toNatClampNeg) ((0 : Int32).toNatClampNeg))) = 0 → P_12_behindIn_61 (P_12_behindIn_5 n) x1 x2 x4 x3 M) ∧ (¬ (F_12_has_0 M x1 (rd M (54 + x4.toNatClampNeg) ((0 : Int32).toNatClampNeg))) = 0 → ((P_12_isOpenIn_0 x4 x2 M) ∧ (P_12_behindIn_44 (P_12_behindIn_5 n) x1 x2 x4 ((F_12_isOpenIn_0 x4 x2 M).1) x3 ((F_12_isOpenIn_0 x4 x2 M).2)))))))))
theorem T_12_behindIn_5 {g : Gl} : ∀ (n : Nat) (x1 : Int32) (x2 : Int32) (x3 : Int32) (x4 : Int32) (M : Mem) (hp : P_12_behindIn_5 n x1 x2 x3 x4 M), Rn g 6 m12_behindIn 5 [some (.ref 0), some (.int x1), some (.int x2), some (.int x3), some (.int x4)] [] M (some (.int (F_12_behindIn_5 n x1 x2 x3 x4 M).1)) ((F_12_behindIn_5 n x1 x2 x3 x4 M).2) := by
  intro n
  induction n with
  | zero => intro x1 x2 x3 x4 M hp; exact hp.elim
  | succ n ih =>
    intro x1 x2 x3 x4 M hp
    rw [F_12_behindIn_5]
    rw [P_12_behindIn_5] at hp
    refine b12_behindIn_5 (vpl (by decide)) (fun h => ?_) (fun h => ?_)
    · rw [if_pos h]
      exact b12_behindIn_70  rfl rfl
    · rw [if_neg h]
      have hp := hp.2 h
      obtain ⟨p0, hp⟩ := hp
      refine b12_behindIn_16 p0 (vpl (by decide)) (C_12_has x1 (rd M (54 + x4.toNatClampNeg) ((0 : Int32).toNatClampNeg)) M) (Nat.le_of_ble_eq_true rfl) ?_
      refine b12_behindIn_30  (fun h => ?_) (fun h => ?_)
      · rw [if_pos h]
        have hp := hp.1 h
        exact T_12_behindIn_61 (F_12_behindIn_5 n) (P_12_behindIn_5 n) ih x1 x2 x4 x3 M hp
      · rw [if_neg h]
        have hp := hp.2 h
        obtain ⟨hc, hp⟩ := hp
        refine b12_behindIn_33  (C_12_isOpenIn x4 x2 M hc) (Nat.le_of_ble_eq_true rfl) ?_
        exact T_12_behindIn_44 (F_12_behindIn_5 n) (P_12_behindIn_5 n) ih x1 x2 x4 ((F_12_isOpenIn_0 x4 x2 M).1) x3 ((F_12_isOpenIn_0 x4 x2 M).2) hp
def F_12_behindIn_0 (x1 : Int32) (x2 : Int32) (M : Mem) : Int32 × Mem := F_12_behindIn_5 FU x1 x2 x1 0 M
def P_12_behindIn_0 (x1 : Int32) (x2 : Int32) (M : Mem) : Prop := (P_12_behindIn_5 FU x1 x2 x1 0 M)
theorem T_12_behindIn_0 {g : Gl} (x1 : Int32) (x2 : Int32) (M : Mem) (hp : P_12_behindIn_0 x1 x2 M) : Rn g 6 m12_behindIn 0 [some (.ref 0), some (.int x1), some (.int x2), none, none] [] M (some (.int (F_12_behindIn_0 x1 x2 M).1)) ((F_12_behindIn_0 x1 x2 M).2) := by
  rw [F_12_behindIn_0]
  rw [P_12_behindIn_0] at hp
  refine b12_behindIn_0  ?_
  exact T_12_behindIn_5 FU x1 x2 x1 0 M hp
theorem C_12_behindIn {g : Gl}  (x1 : Int32) (x2 : Int32) (M : Mem) (hp : P_12_behindIn_0 x1 x2 M) : Ms g 6 m12_behindIn [.ref 0, .int x1, .int x2] M (some (.int (F_12_behindIn_0 x1 x2 M).1)) ((F_12_behindIn_0 x1 x2 M).2) := Ms.of okM_m12_behindIn (Nat.le_of_ble_eq_true rfl) (R_wk (lc rfl (lc rfl (lc rfl (ln (ln l0))))) (T_12_behindIn_0 x1 x2 M hp))
def F_12_soonTo_38 (k7 : Int32 → Int32 → Int32 → Mem → Int32 × Mem) (x2 : Int32) (x4 : Int32) (xs0 : Int32) (M : Mem) : Int32 × Mem := k7 x2 xs0 (x4 + 1) M
def P_12_soonTo_38 (pk7 : Int32 → Int32 → Int32 → Mem → Prop) (x2 : Int32) (x4 : Int32) (xs0 : Int32) (M : Mem) : Prop := (pk7 x2 xs0 (x4 + 1) M)
theorem T_12_soonTo_38 {g : Gl} (k7 : Int32 → Int32 → Int32 → Mem → Int32 × Mem) (pk7 : Int32 → Int32 → Int32 → Mem → Prop) (ih7 : ∀ (x2 : Int32) (x3 : Int32) (x4 : Int32) (M : Mem), pk7 x2 x3 x4 M → Rn g 7 m12_soonTo 7 [some (.ref 0), none, some (.int x2), some (.int x3), some (.int x4)] [] M (some (.int (k7 x2 x3 x4 M).1)) ((k7 x2 x3 x4 M).2)) (x2 : Int32) (x4 : Int32) (xs0 : Int32) (M : Mem) (hp : P_12_soonTo_38 pk7 x2 x4 xs0 M) : Rn g 7 m12_soonTo 38 [some (.ref 0), none, some (.int x2), none, some (.int x4)] [.int xs0] M (some (.int (F_12_soonTo_38 k7 x2 x4 xs0 M).1)) ((F_12_soonTo_38 k7 x2 x4 xs0 M).2) := by
  rw [F_12_soonTo_38]
  rw [P_12_soonTo_38] at hp
  refine b12_soonTo_38  ?_
  exact ih7 x2 xs0 (x4 + 1) M hp
def F_12_soonTo_7  : Nat → Int32 → Int32 → Int32 → Mem → Int32 × Mem
  | 0, _, _, _, M => (0, M)
  | n + 1, x2, x3, x4, M => if (96 : Int32) < x4 then (((-1), M)) else (if (x3 &&& x2) = 0 then (F_12_soonTo_38 (F_12_soonTo_7 n) x2 x4 ((F_12_behindIn_0 x3 ((rd M 20 ((55 : Int32).toNatClampNeg)) + x4) M).1) ((F_12_behindIn_0 x3 ((rd M 20 ((55 : Int32).toNatClampNeg)) + x4) M).2)) else ((x4, M)))
def P_12_soonTo_7  : Nat → Int32 → Int32 → Int32 → Mem → Prop
  | 0, _, _, _, _ => False
  | n + 1, x2, x3, x4, M => (((96 : Int32) < x4 → True) ∧ (¬ (96 : Int32) < x4 → (((x3 &&& x2) = 0 → ((P_12_behindIn_0 x3 ((rd M 20 ((55 : Int32).toNatClampNeg)) + x4) M) ∧ (P_12_soonTo_38 (P_12_soonTo_7 n) x2 x4 ((F_12_behindIn_0 x3 ((rd M 20 ((55 : Int32).toNatClampNeg)) + x4) M).1) ((F_12_behindIn_0 x3 ((rd M 20 ((55 : Int32).toNatClampNeg)) + x4) M).2)))) ∧ (¬ (x3 &&& x2) = 0 → True))))
theorem T_12_soonTo_7 {g : Gl} : ∀ (n : Nat) (x2 : Int32) (x3 : Int32) (x4 : Int32) (M : Mem) (hp : P_12_soonTo_7 n x2 x3 x4 M), Rn g 7 m12_soonTo 7 [some (.ref 0), none, some (.int x2), some (.int x3), some (.int x4)] [] M (some (.int (F_12_soonTo_7 n x2 x3 x4 M).1)) ((F_12_soonTo_7 n x2 x3 x4 M).2) := by
  intro n
  induction n with
  | zero => intro x2 x3 x4 M hp; exact hp.elim
  | succ n ih =>
    intro x2 x3 x4 M hp
    rw [F_12_soonTo_7]
    rw [P_12_soonTo_7] at hp
    refine b12_soonTo_7  (fun h => ?_) (fun h => ?_)
    · rw [if_pos h]
      exact b12_soonTo_45  rfl rfl
    · rw [if_neg h]
      have hp := hp.2 h
      refine b12_soonTo_14  (fun h => ?_) (fun h => ?_)
      · rw [if_pos h]
        have hp := hp.1 h
        obtain ⟨hc, hp⟩ := hp
        refine b12_soonTo_23 (vpl (by decide)) (C_12_behindIn x3 ((rd M 20 ((55 : Int32).toNatClampNeg)) + x4) M hc) (Nat.le_of_ble_eq_true rfl) ?_
        exact T_12_soonTo_38 (F_12_soonTo_7 n) (P_12_soonTo_7 n) ih x2 x4 ((F_12_behindIn_0 x3 ((rd M 20 ((55 : Int32).toNatClampNeg)) + x4) M).1) ((F_12_behindIn_0 x3 ((rd M 20 ((55 : Int32).toNatClampNeg)) + x4) M).2) hp
      · rw [if_neg h]
        exact b12_soonTo_20  rfl rfl
def F_12_soonTo_0 (x1 : Int32) (x2 : Int32) (M : Mem) : Int32 × Mem := F_12_soonTo_7 FU x2 ((1 : Int32) <<< (x1 &&& 31)) 0 M
def P_12_soonTo_0 (x1 : Int32) (x2 : Int32) (M : Mem) : Prop := (P_12_soonTo_7 FU x2 ((1 : Int32) <<< (x1 &&& 31)) 0 M)
theorem T_12_soonTo_0 {g : Gl} (x1 : Int32) (x2 : Int32) (M : Mem) (hp : P_12_soonTo_0 x1 x2 M) : Rn g 7 m12_soonTo 0 [some (.ref 0), some (.int x1), some (.int x2), none, none] [] M (some (.int (F_12_soonTo_0 x1 x2 M).1)) ((F_12_soonTo_0 x1 x2 M).2) := by
  rw [F_12_soonTo_0]
  rw [P_12_soonTo_0] at hp
  refine b12_soonTo_0  ?_
  exact T_12_soonTo_7 FU x2 ((1 : Int32) <<< (x1 &&& 31)) 0 M hp
theorem C_12_soonTo {g : Gl}  (x1 : Int32) (x2 : Int32) (M : Mem) (hp : P_12_soonTo_0 x1 x2 M) : Ms g 7 m12_soonTo [.ref 0, .int x1, .int x2] M (some (.int (F_12_soonTo_0 x1 x2 M).1)) ((F_12_soonTo_0 x1 x2 M).2) := Ms.of okM_m12_soonTo (Nat.le_of_ble_eq_true rfl) (R_wk (lc rfl (lc rfl (lc rfl (ln (ln l0))))) (T_12_soonTo_0 x1 x2 M hp))
def F_12_soon_45 (xs0 : Int32) (M : Mem) : Int32 × Mem := (xs0, M)
theorem T_12_soon_45 {g : Gl} (xs0 : Int32) (M : Mem)  : Rn g 8 m12_soon 45 [none, none, none] [.int xs0] M (some (.int (F_12_soon_45 xs0 M).1)) ((F_12_soon_45 xs0 M).2) := by
  rw [F_12_soon_45]
  exact b12_soon_45  rfl rfl
def F_12_soon_32 (x1 : Int32) (x2 : Int32) (xs0 : Int32) (M : Mem) : Int32 × Mem := if xs0 = 0 then (F_12_soon_45 ((F_12_soonTo_0 x1 ((1 : Int32) <<< (x2 &&& 31)) M).1) ((F_12_soonTo_0 x1 ((1 : Int32) <<< (x2 &&& 31)) M).2)) else ((0, M))
def P_12_soon_32 (x1 : Int32) (x2 : Int32) (xs0 : Int32) (M : Mem) : Prop := ((xs0 = 0 → ((P_12_soonTo_0 x1 ((1 : Int32) <<< (x2 &&& 31)) M))) ∧ (¬ xs0 = 0 → True))
theorem T_12_soon_32 {g : Gl} (x1 : Int32) (x2 : Int32) (xs0 : Int32) (M : Mem) (hp : P_12_soon_32 x1 x2 xs0 M) : Rn g 8 m12_soon 32 [some (.ref 0), some (.int x1), some (.int x2)] [.int xs0] M (some (.int (F_12_soon_32 x1 x2 xs0 M).1)) ((F_12_soon_32 x1 x2 xs0 M).2) := by
  rw [F_12_soon_32]
  rw [P_12_soon_32] at hp
  refine b12_soon_32  (fun h => ?_) (fun h => ?_)
  · rw [if_pos h]
    have hp := hp.1 h
    have hc := hp
    refine b12_soon_37  (C_12_soonTo x1 ((1 : Int32) <<< (x2 &&& 31)) M hc) (Nat.le_of_ble_eq_true rfl) ?_
    exact T_12_soon_45 ((F_12_soonTo_0 x1 ((1 : Int32) <<< (x2 &&& 31)) M).1) ((F_12_soonTo_0 x1 ((1 : Int32) <<< (x2 &&& 31)) M).2)
  · rw [if_neg h]
    exact b12_soon_35  rfl rfl
def F_12_soon_27 (x1 : Int32) (x2 : Int32) (xs0 : Int32) (M : Mem) : Int32 × Mem := F_12_soon_32 x1 x2 ((F_12_bad_0 xs0 1 0 M).1) ((F_12_bad_0 xs0 1 0 M).2)
def P_12_soon_27 (x1 : Int32) (x2 : Int32) (xs0 : Int32) (M : Mem) : Prop := ((P_12_bad_0 xs0 1 0 M) ∧ (P_12_soon_32 x1 x2 ((F_12_bad_0 xs0 1 0 M).1) ((F_12_bad_0 xs0 1 0 M).2)))
theorem T_12_soon_27 {g : Gl} (x1 : Int32) (x2 : Int32) (xs0 : Int32) (M : Mem) (hp : P_12_soon_27 x1 x2 xs0 M) : Rn g 8 m12_soon 27 [some (.ref 0), some (.int x1), some (.int x2)] [.int xs0, .ref 0] M (some (.int (F_12_soon_27 x1 x2 xs0 M).1)) ((F_12_soon_27 x1 x2 xs0 M).2) := by
  rw [F_12_soon_27]
  rw [P_12_soon_27] at hp
  obtain ⟨hc, hp⟩ := hp
  refine b12_soon_27  (C_12_bad xs0 1 0 M hc) (Nat.le_of_ble_eq_true rfl) ?_
  exact T_12_soon_32 x1 x2 ((F_12_bad_0 xs0 1 0 M).1) ((F_12_bad_0 xs0 1 0 M).2) hp
def F_12_soon_22 (x1 : Int32) (x2 : Int32) (M : Mem) : Int32 × Mem := F_12_soon_27 x1 x2 1 M
def P_12_soon_22 (x1 : Int32) (x2 : Int32) (M : Mem) : Prop := (P_12_soon_27 x1 x2 1 M)
theorem T_12_soon_22 {g : Gl} (x1 : Int32) (x2 : Int32) (M : Mem) (hp : P_12_soon_22 x1 x2 M) : Rn g 8 m12_soon 22 [some (.ref 0), some (.int x1), some (.int x2)] [.ref 0] M (some (.int (F_12_soon_22 x1 x2 M).1)) ((F_12_soon_22 x1 x2 M).2) := by
  rw [F_12_soon_22]
  rw [P_12_soon_22] at hp
  refine b12_soon_22  ?_
  exact T_12_soon_27 x1 x2 1 M hp
def F_12_soon_0 (x1 : Int32) (x2 : Int32) (M : Mem) : Int32 × Mem := if (F_12_isRoom_0 (wr M 0 0 0) x1) = 0 then (F_12_soon_22 x1 x2 (wr M 0 0 0)) else (if (F_12_isRoom_0 (wr M 0 0 0) x2) = 0 then (F_12_soon_22 x1 x2 (wr M 0 0 0)) else (F_12_soon_27 x1 x2 0 (wr M 0 0 0)))
def P_12_soon_0 (x1 : Int32) (x2 : Int32) (M : Mem) : Prop := ((P_12_isRoom_0 (wr M 0 0 0) x1) ∧ ((((F_12_isRoom_0 (wr M 0 0 0) x1) = 0 → P_12_soon_22 x1 x2 (wr M 0 0 0)) ∧ (¬ (F_12_isRoom_0 (wr M 0 0 0) x1) = 0 → ((P_12_isRoom_0 (wr M 0 0 0) x2) ∧ (((¬ (F_12_isRoom_0 (wr M 0 0 0) x2) = 0 → (P_12_soon_27 x1 x2 0 (wr M 0 0 0))) ∧ ((F_12_isRoom_0 (wr M 0 0 0) x2) = 0 → P_12_soon_22 x1 x2 (wr M 0 0 0)))))))))
theorem T_12_soon_0 {g : Gl} (x1 : Int32) (x2 : Int32) (M : Mem) (hp : P_12_soon_0 x1 x2 M) : Rn g 8 m12_soon 0 [some (.ref 0), some (.int x1), some (.int x2)] [] M (some (.int (F_12_soon_0 x1 x2 M).1)) ((F_12_soon_0 x1 x2 M).2) := by
  rw [F_12_soon_0]
  rw [P_12_soon_0] at hp
  obtain ⟨hc, hp⟩ := hp
  refine b12_soon_0  (C_12_isRoom x1 (wr M 0 0 0) hc) (Nat.le_of_ble_eq_true rfl) ?_
  refine b12_soon_11  (fun h => ?_) (fun h => ?_)
  · rw [if_pos h]
    have hp := hp.1 h
    exact T_12_soon_22 x1 x2 (wr M 0 0 0) hp
  · rw [if_neg h]
    have hp := hp.2 h
    obtain ⟨hc, hp⟩ := hp
    refine b12_soon_14  (C_12_isRoom x2 (wr M 0 0 0) hc) (Nat.le_of_ble_eq_true rfl) ?_
    refine b12_soon_19  (fun h => ?_) (fun h => ?_)
    · rw [if_neg h]
      have hp := hp.1 h
      refine b12_soon_26  ?_
      exact T_12_soon_27 x1 x2 0 (wr M 0 0 0) hp
    · rw [if_pos h]
      have hp := hp.2 h
      exact T_12_soon_22 x1 x2 (wr M 0 0 0) hp
theorem C_12_soon {g : Gl}  (x1 : Int32) (x2 : Int32) (M : Mem) (hp : P_12_soon_0 x1 x2 M) : Ms g 8 m12_soon [.ref 0, .int x1, .int x2] M (some (.int (F_12_soon_0 x1 x2 M).1)) ((F_12_soon_0 x1 x2 M).2) := Ms.of okM_m12_soon (Nat.le_of_ble_eq_true rfl) (R_wk (lc rfl (lc rfl (lc rfl l0))) (T_12_soon_0 x1 x2 M hp))
def F_12_within_81 (k60 : Int32 → Int32 → Int32 → Mem → Int32 × Mem) (x2 : Int32) (x4 : Int32) (xs0 : Int32) (M : Mem) : Int32 × Mem := k60 x2 xs0 (x4 + 1) M
def P_12_within_81 (pk60 : Int32 → Int32 → Int32 → Mem → Prop) (x2 : Int32) (x4 : Int32) (xs0 : Int32) (M : Mem) : Prop := (pk60 x2 xs0 (x4 + 1) M)
theorem T_12_within_81 {g : Gl} (k60 : Int32 → Int32 → Int32 → Mem → Int32 × Mem) (pk60 : Int32 → Int32 → Int32 → Mem → Prop) (ih60 : ∀ (x2 : Int32) (x3 : Int32) (x4 : Int32) (M : Mem), pk60 x2 x3 x4 M → Rn g 7 m12_within 60 [some (.ref 0), none, some (.int x2), some (.int x3), some (.int x4)] [] M (some (.int (k60 x2 x3 x4 M).1)) ((k60 x2 x3 x4 M).2)) (x2 : Int32) (x4 : Int32) (xs0 : Int32) (M : Mem) (hp : P_12_within_81 pk60 x2 x4 xs0 M) : Rn g 7 m12_within 81 [some (.ref 0), none, some (.int x2), none, some (.int x4)] [.int xs0] M (some (.int (F_12_within_81 k60 x2 x4 xs0 M).1)) ((F_12_within_81 k60 x2 x4 xs0 M).2) := by
  rw [F_12_within_81]
  rw [P_12_within_81] at hp
  refine b12_within_81  ?_
  exact ih60 x2 xs0 (x4 + 1) M hp
def F_12_within_60  : Nat → Int32 → Int32 → Int32 → Mem → Int32 × Mem
  | 0, _, _, _, M => (0, M)
  | n + 1, x2, x3, x4, M => if x2 ≤ x4 then ((x3, M)) else (F_12_within_81 (F_12_within_60 n) x2 x4 ((F_12_behindIn_0 x3 ((rd M 20 ((55 : Int32).toNatClampNeg)) + x4) M).1) ((F_12_behindIn_0 x3 ((rd M 20 ((55 : Int32).toNatClampNeg)) + x4) M).2))
def P_12_within_60  : Nat → Int32 → Int32 → Int32 → Mem → Prop
  | 0, _, _, _, _ => False
  | n + 1, x2, x3, x4, M => ((x2 ≤ x4 → True) ∧ (¬ x2 ≤ x4 → ((P_12_behindIn_0 x3 ((rd M 20 ((55 : Int32).toNatClampNeg)) + x4) M) ∧ (P_12_within_81 (P_12_within_60 n) x2 x4 ((F_12_behindIn_0 x3 ((rd M 20 ((55 : Int32).toNatClampNeg)) + x4) M).1) ((F_12_behindIn_0 x3 ((rd M 20 ((55 : Int32).toNatClampNeg)) + x4) M).2)))))
theorem T_12_within_60 {g : Gl} : ∀ (n : Nat) (x2 : Int32) (x3 : Int32) (x4 : Int32) (M : Mem) (hp : P_12_within_60 n x2 x3 x4 M), Rn g 7 m12_within 60 [some (.ref 0), none, some (.int x2), some (.int x3), some (.int x4)] [] M (some (.int (F_12_within_60 n x2 x3 x4 M).1)) ((F_12_within_60 n x2 x3 x4 M).2) := by
  intro n
  induction n with
  | zero => intro x2 x3 x4 M hp; exact hp.elim
  | succ n ih =>
    intro x2 x3 x4 M hp
    rw [F_12_within_60]
    rw [P_12_within_60] at hp
    refine b12_within_60  (fun h => ?_) (fun h => ?_)
    · rw [if_pos h]
      exact b12_within_88  rfl rfl
    · rw [if_neg h]
      have hp := hp.2 h
      obtain ⟨hc, hp⟩ := hp
      refine b12_within_66 (vpl (by decide)) (C_12_behindIn x3 ((rd M 20 ((55 : Int32).toNatClampNeg)) + x4) M hc) (Nat.le_of_ble_eq_true rfl) ?_
      exact T_12_within_81 (F_12_within_60 n) (P_12_within_60 n) ih x2 x4 ((F_12_behindIn_0 x3 ((rd M 20 ((55 : Int32).toNatClampNeg)) + x4) M).1) ((F_12_behindIn_0 x3 ((rd M 20 ((55 : Int32).toNatClampNeg)) + x4) M).2) hp
def F_12_within_48 (x1 : Int32) (x2 : Int32) (xs0 : Int32) (M : Mem) : Int32 × Mem := if xs0 = 0 then (F_12_within_60 FU x2 ((1 : Int32) <<< (x1 &&& 31)) 0 M) else ((0, M))
def P_12_within_48 (x1 : Int32) (x2 : Int32) (xs0 : Int32) (M : Mem) : Prop := ((xs0 = 0 → (P_12_within_60 FU x2 ((1 : Int32) <<< (x1 &&& 31)) 0 M)) ∧ (¬ xs0 = 0 → True))
theorem T_12_within_48 {g : Gl} (x1 : Int32) (x2 : Int32) (xs0 : Int32) (M : Mem) (hp : P_12_within_48 x1 x2 xs0 M) : Rn g 7 m12_within 48 [some (.ref 0), some (.int x1), some (.int x2), none, none] [.int xs0] M (some (.int (F_12_within_48 x1 x2 xs0 M).1)) ((F_12_within_48 x1 x2 xs0 M).2) := by
  rw [F_12_within_48]
  rw [P_12_within_48] at hp
  refine b12_within_48  (fun h => ?_) (fun h => ?_)
  · rw [if_pos h]
    have hp := hp.1 h
    refine b12_within_53  ?_
    exact T_12_within_60 FU x2 ((1 : Int32) <<< (x1 &&& 31)) 0 M hp
  · rw [if_neg h]
    exact b12_within_51  rfl rfl
def F_12_within_43 (x1 : Int32) (x2 : Int32) (xs0 : Int32) (M : Mem) : Int32 × Mem := F_12_within_48 x1 x2 ((F_12_bad_0 xs0 2 1 M).1) ((F_12_bad_0 xs0 2 1 M).2)
def P_12_within_43 (x1 : Int32) (x2 : Int32) (xs0 : Int32) (M : Mem) : Prop := ((P_12_bad_0 xs0 2 1 M) ∧ (P_12_within_48 x1 x2 ((F_12_bad_0 xs0 2 1 M).1) ((F_12_bad_0 xs0 2 1 M).2)))
theorem T_12_within_43 {g : Gl} (x1 : Int32) (x2 : Int32) (xs0 : Int32) (M : Mem) (hp : P_12_within_43 x1 x2 xs0 M) : Rn g 7 m12_within 43 [some (.ref 0), some (.int x1), some (.int x2), none, none] [.int xs0, .ref 0] M (some (.int (F_12_within_43 x1 x2 xs0 M).1)) ((F_12_within_43 x1 x2 xs0 M).2) := by
  rw [F_12_within_43]
  rw [P_12_within_43] at hp
  obtain ⟨hc, hp⟩ := hp
  refine b12_within_43  (C_12_bad xs0 2 1 M hc) (Nat.le_of_ble_eq_true rfl) ?_
  exact T_12_within_48 x1 x2 ((F_12_bad_0 xs0 2 1 M).1) ((F_12_bad_0 xs0 2 1 M).2) hp
def F_12_within_24 (x1 : Int32) (x2 : Int32) (xs0 : Int32) (M : Mem) : Int32 × Mem := if xs0 = 0 then (if (F_12_in_0 M x2 0 96) = 0 then (F_12_within_43 x1 x2 1 M) else (F_12_within_43 x1 x2 0 M)) else ((0, M))
def P_12_within_24 (x1 : Int32) (x2 : Int32) (xs0 : Int32) (M : Mem) : Prop := ((¬ xs0 = 0 → True) ∧ (xs0 = 0 → ((((¬ (F_12_in_0 M x2 0 96) = 0 → (P_12_within_43 x1 x2 0 M)) ∧ ((F_12_in_0 M x2 0 96) = 0 → (P_12_within_43 x1 x2 1 M)))))))
theorem T_12_within_24 {g : Gl} (x1 : Int32) (x2 : Int32) (xs0 : Int32) (M : Mem) (hp : P_12_within_24 x1 x2 xs0 M) : Rn g 7 m12_within 24 [some (.ref 0), some (.int x1), some (.int x2), none, none] [.int xs0] M (some (.int (F_12_within_24 x1 x2 xs0 M).1)) ((F_12_within_24 x1 x2 xs0 M).2) := by
  rw [F_12_within_24]
  rw [P_12_within_24] at hp
  refine b12_within_24  (fun h => ?_) (fun h => ?_)
  · rw [if_neg h]
    exact b12_within_51  rfl rfl
  · rw [if_pos h]
    have hp := hp.2 h
    refine b12_within_27  (C_12_in x2 0 96 M) (Nat.le_of_ble_eq_true rfl) ?_
    refine b12_within_35  (fun h => ?_) (fun h => ?_)
    · rw [if_neg h]
      have hp := hp.1 h
      refine b12_within_42  ?_
      exact T_12_within_43 x1 x2 0 M hp
    · rw [if_pos h]
      have hp := hp.2 h
      refine b12_within_38  ?_
      exact T_12_within_43 x1 x2 1 M hp
def F_12_within_19 (x1 : Int32) (x2 : Int32) (xs0 : Int32) (M : Mem) : Int32 × Mem := F_12_within_24 x1 x2 ((F_12_bad_0 xs0 1 0 M).1) ((F_12_bad_0 xs0 1 0 M).2)
def P_12_within_19 (x1 : Int32) (x2 : Int32) (xs0 : Int32) (M : Mem) : Prop := ((P_12_bad_0 xs0 1 0 M) ∧ (P_12_within_24 x1 x2 ((F_12_bad_0 xs0 1 0 M).1) ((F_12_bad_0 xs0 1 0 M).2)))
theorem T_12_within_19 {g : Gl} (x1 : Int32) (x2 : Int32) (xs0 : Int32) (M : Mem) (hp : P_12_within_19 x1 x2 xs0 M) : Rn g 7 m12_within 19 [some (.ref 0), some (.int x1), some (.int x2), none, none] [.int xs0, .ref 0] M (some (.int (F_12_within_19 x1 x2 xs0 M).1)) ((F_12_within_19 x1 x2 xs0 M).2) := by
  rw [F_12_within_19]
  rw [P_12_within_19] at hp
  obtain ⟨hc, hp⟩ := hp
  refine b12_within_19  (C_12_bad xs0 1 0 M hc) (Nat.le_of_ble_eq_true rfl) ?_
  exact T_12_within_24 x1 x2 ((F_12_bad_0 xs0 1 0 M).1) ((F_12_bad_0 xs0 1 0 M).2) hp
def F_12_within_0 (x1 : Int32) (x2 : Int32) (M : Mem) : Int32 × Mem := if (F_12_isRoom_0 (wr M 0 0 0) x1) = 0 then (F_12_within_19 x1 x2 1 (wr M 0 0 0)) else (F_12_within_19 x1 x2 0 (wr M 0 0 0))
def P_12_within_0 (x1 : Int32) (x2 : Int32) (M : Mem) : Prop := ((P_12_isRoom_0 (wr M 0 0 0) x1) ∧ (((¬ (F_12_isRoom_0 (wr M 0 0 0) x1) = 0 → (P_12_within_19 x1 x2 0 (wr M 0 0 0))) ∧ ((F_12_isRoom_0 (wr M 0 0 0) x1) = 0 → (P_12_within_19 x1 x2 1 (wr M 0 0 0))))))
theorem T_12_within_0 {g : Gl} (x1 : Int32) (x2 : Int32) (M : Mem) (hp : P_12_within_0 x1 x2 M) : Rn g 7 m12_within 0 [some (.ref 0), some (.int x1), some (.int x2), none, none] [] M (some (.int (F_12_within_0 x1 x2 M).1)) ((F_12_within_0 x1 x2 M).2) := by
  rw [F_12_within_0]
  rw [P_12_within_0] at hp
  obtain ⟨hc, hp⟩ := hp
  refine b12_within_0  (C_12_isRoom x1 (wr M 0 0 0) hc) (Nat.le_of_ble_eq_true rfl) ?_
  refine b12_within_11  (fun h => ?_) (fun h => ?_)
  · rw [if_neg h]
    have hp := hp.1 h
    refine b12_within_18  ?_
    exact T_12_within_19 x1 x2 0 (wr M 0 0 0) hp
  · rw [if_pos h]
    have hp := hp.2 h
    refine b12_within_14  ?_
    exact T_12_within_19 x1 x2 1 (wr M 0 0 0) hp
theorem C_12_within {g : Gl}  (x1 : Int32) (x2 : Int32) (M : Mem) (hp : P_12_within_0 x1 x2 M) : Ms g 7 m12_within [.ref 0, .int x1, .int x2] M (some (.int (F_12_within_0 x1 x2 M).1)) ((F_12_within_0 x1 x2 M).2) := Ms.of okM_m12_within (Nat.le_of_ble_eq_true rfl) (R_wk (lc rfl (lc rfl (lc rfl (ln (ln l0))))) (T_12_within_0 x1 x2 M hp))
def F_12_out_40 (xs0 : Int32) (M : Mem) : Int32 × Mem := (xs0, M)
theorem T_12_out_40 {g : Gl} (xs0 : Int32) (M : Mem)  : Rn g 8 m12_out 40 [none, none] [.int xs0] M (some (.int (F_12_out_40 xs0 M).1)) ((F_12_out_40 xs0 M).2) := by
  rw [F_12_out_40]
  exact b12_out_40  rfl rfl
def F_12_out_24 (x1 : Int32) (xs0 : Int32) (M : Mem) : Int32 × Mem := if xs0 = 0 then (F_12_out_40 ((F_12_soonTo_0 x1 (rd M 4 ((3 : Int32).toNatClampNeg)) M).1) ((F_12_soonTo_0 x1 (rd M 4 ((3 : Int32).toNatClampNeg)) M).2)) else ((0, M))
def P_12_out_24 (x1 : Int32) (xs0 : Int32) (M : Mem) : Prop := ((xs0 = 0 → ((P_12_soonTo_0 x1 (rd M 4 ((3 : Int32).toNatClampNeg)) M))) ∧ (¬ xs0 = 0 → True))
theorem T_12_out_24 {g : Gl} (x1 : Int32) (xs0 : Int32) (M : Mem) (hp : P_12_out_24 x1 xs0 M) : Rn g 8 m12_out 24 [some (.ref 0), some (.int x1)] [.int xs0] M (some (.int (F_12_out_24 x1 xs0 M).1)) ((F_12_out_24 x1 xs0 M).2) := by
  rw [F_12_out_24]
  rw [P_12_out_24] at hp
  refine b12_out_24  (fun h => ?_) (fun h => ?_)
  · rw [if_pos h]
    have hp := hp.1 h
    have hc := hp
    refine b12_out_29 (vpl (by decide)) (C_12_soonTo x1 (rd M 4 ((3 : Int32).toNatClampNeg)) M hc) (Nat.le_of_ble_eq_true rfl) ?_
    exact T_12_out_40 ((F_12_soonTo_0 x1 (rd M 4 ((3 : Int32).toNatClampNeg)) M).1) ((F_12_soonTo_0 x1 (rd M 4 ((3 : Int32).toNatClampNeg)) M).2)
  · rw [if_neg h]
    exact b12_out_27  rfl rfl
def F_12_out_19 (x1 : Int32) (xs0 : Int32) (M : Mem) : Int32 × Mem := F_12_out_24 x1 ((F_12_bad_0 xs0 1 0 M).1) ((F_12_bad_0 xs0 1 0 M).2)
def P_12_out_19 (x1 : Int32) (xs0 : Int32) (M : Mem) : Prop := ((P_12_bad_0 xs0 1 0 M) ∧ (P_12_out_24 x1 ((F_12_bad_0 xs0 1 0 M).1) ((F_12_bad_0 xs0 1 0 M).2)))
theorem T_12_out_19 {g : Gl} (x1 : Int32) (xs0 : Int32) (M : Mem) (hp : P_12_out_19 x1 xs0 M) : Rn g 8 m12_out 19 [some (.ref 0), some (.int x1)] [.int xs0, .ref 0] M (some (.int (F_12_out_19 x1 xs0 M).1)) ((F_12_out_19 x1 xs0 M).2) := by
  rw [F_12_out_19]
  rw [P_12_out_19] at hp
  obtain ⟨hc, hp⟩ := hp
  refine b12_out_19  (C_12_bad xs0 1 0 M hc) (Nat.le_of_ble_eq_true rfl) ?_
  exact T_12_out_24 x1 ((F_12_bad_0 xs0 1 0 M).1) ((F_12_bad_0 xs0 1 0 M).2) hp
def F_12_out_0 (x1 : Int32) (M : Mem) : Int32 × Mem := if (F_12_isRoom_0 (wr M 0 0 0) x1) = 0 then (F_12_out_19 x1 1 (wr M 0 0 0)) else (F_12_out_19 x1 0 (wr M 0 0 0))
def P_12_out_0 (x1 : Int32) (M : Mem) : Prop := ((P_12_isRoom_0 (wr M 0 0 0) x1) ∧ (((¬ (F_12_isRoom_0 (wr M 0 0 0) x1) = 0 → (P_12_out_19 x1 0 (wr M 0 0 0))) ∧ ((F_12_isRoom_0 (wr M 0 0 0) x1) = 0 → (P_12_out_19 x1 1 (wr M 0 0 0))))))
theorem T_12_out_0 {g : Gl} (x1 : Int32) (M : Mem) (hp : P_12_out_0 x1 M) : Rn g 8 m12_out 0 [some (.ref 0), some (.int x1)] [] M (some (.int (F_12_out_0 x1 M).1)) ((F_12_out_0 x1 M).2) := by
  rw [F_12_out_0]
  rw [P_12_out_0] at hp
  obtain ⟨hc, hp⟩ := hp
  refine b12_out_0  (C_12_isRoom x1 (wr M 0 0 0) hc) (Nat.le_of_ble_eq_true rfl) ?_
  refine b12_out_11  (fun h => ?_) (fun h => ?_)
  · rw [if_neg h]
    have hp := hp.1 h
    refine b12_out_18  ?_
    exact T_12_out_19 x1 0 (wr M 0 0 0) hp
  · rw [if_pos h]
    have hp := hp.2 h
    refine b12_out_14  ?_
    exact T_12_out_19 x1 1 (wr M 0 0 0) hp
theorem C_12_out {g : Gl}  (x1 : Int32) (M : Mem) (hp : P_12_out_0 x1 M) : Ms g 8 m12_out [.ref 0, .int x1] M (some (.int (F_12_out_0 x1 M).1)) ((F_12_out_0 x1 M).2) := Ms.of okM_m12_out (Nat.le_of_ble_eq_true rfl) (R_wk (lc rfl (lc rfl l0)) (T_12_out_0 x1 M hp))
def F_12_laysWays_35 (k2 : Int32 → Mem → Mem) (k10 : Int32 → Int32 → Mem → Mem) (x1 : Int32) (x2 : Int32) (xs0 : Int32) (xs1 : Int32) (qs2 : Nat) (M : Mem) : Mem := k10 x1 (x2 + 1) (wr M (497 + qs2) xs1.toNatClampNeg xs0)
def P_12_laysWays_35 (pk2 : Int32 → Mem → Prop) (pk10 : Int32 → Int32 → Mem → Prop) (x1 : Int32) (x2 : Int32) (xs0 : Int32) (xs1 : Int32) (qs2 : Nat) (M : Mem) : Prop := (qs2 < 10) ∧ ((vp_in xs1 10) ∧ (pk10 x1 (x2 + 1) (wr M (497 + qs2) xs1.toNatClampNeg xs0)))
theorem T_12_laysWays_35 {g : Gl} (k2 : Int32 → Mem → Mem) (k10 : Int32 → Int32 → Mem → Mem) (pk2 : Int32 → Mem → Prop) (pk10 : Int32 → Int32 → Mem → Prop) (ih2 : ∀ (x1 : Int32) (M : Mem), pk2 x1 M → Rn g 1 m12_laysWays 2 [some (.ref 0), some (.int x1), none, none] [] M (none) ((k2 x1 M))) (ih10 : ∀ (x1 : Int32) (x2 : Int32) (M : Mem), pk10 x1 x2 M → Rn g 1 m12_laysWays 10 [some (.ref 0), some (.int x1), some (.int x2), none] [] M (none) ((k10 x1 x2 M))) (x1 : Int32) (x2 : Int32) (xs0 : Int32) (xs1 : Int32) (qs2 : Nat) (M : Mem) (hp : P_12_laysWays_35 pk2 pk10 x1 x2 xs0 xs1 qs2 M) : Rn g 1 m12_laysWays 35 [some (.ref 0), some (.int x1), some (.int x2), none] [.int xs0, .int xs1, .ref (497 + qs2)] M (none) ((F_12_laysWays_35 k2 k10 x1 x2 xs0 xs1 qs2 M)) := by
  rw [F_12_laysWays_35]
  rw [P_12_laysWays_35] at hp
  obtain ⟨hqs2, hp⟩ := hp
  obtain ⟨p0, hp⟩ := hp
  refine b12_laysWays_35 hqs2 p0 ?_
  exact ih10 x1 (x2 + 1) (wr M (497 + qs2) xs1.toNatClampNeg xs0) hp
def F_12_laysWays_10 (k2 : Int32 → Mem → Mem) : Nat → Int32 → Int32 → Mem → Mem
  | 0, _, _, M => M
  | n + 1, x1, x2, M => if (10 : Int32) ≤ x2 then (k2 (x1 + 1) M) else (if x1 = x2 then (F_12_laysWays_35 k2 (F_12_laysWays_10 k2 n) x1 x2 0 x2 (x1.toNatClampNeg) M) else (F_12_laysWays_35 k2 (F_12_laysWays_10 k2 n) x1 x2 999 x2 (x1.toNatClampNeg) M))
def P_12_laysWays_10 (pk2 : Int32 → Mem → Prop) : Nat → Int32 → Int32 → Mem → Prop
  | 0, _, _, _ => False
  | n + 1, x1, x2, M => (((10 : Int32) ≤ x2 → (pk2 (x1 + 1) M)) ∧ (¬ (10 : Int32) ≤ x2 → (vp_in x1 10) ∧ ((¬ x1 = x2 → (P_12_laysWays_35 pk2 (P_12_laysWays_10 pk2 n) x1 x2 999 x2 (x1.toNatClampNeg) M)) ∧ (x1 = x2 → (P_12_laysWays_35 pk2 (P_12_laysWays_10 pk2 n) x1 x2 0 x2 (x1.toNatClampNeg) M)))))
theorem T_12_laysWays_10 {g : Gl} (k2 : Int32 → Mem → Mem) (pk2 : Int32 → Mem → Prop) (ih2 : ∀ (x1 : Int32) (M : Mem), pk2 x1 M → Rn g 1 m12_laysWays 2 [some (.ref 0), some (.int x1), none, none] [] M (none) ((k2 x1 M))) : ∀ (n : Nat) (x1 : Int32) (x2 : Int32) (M : Mem) (hp : P_12_laysWays_10 pk2 n x1 x2 M), Rn g 1 m12_laysWays 10 [some (.ref 0), some (.int x1), some (.int x2), none] [] M (none) ((F_12_laysWays_10 k2 n x1 x2 M)) := by
  intro n
  induction n with
  | zero => intro x1 x2 M hp; exact hp.elim
  | succ n ih =>
    intro x1 x2 M hp
    rw [F_12_laysWays_10]
    rw [P_12_laysWays_10] at hp
    refine b12_laysWays_10  (fun h => ?_) (fun h => ?_)
    · rw [if_pos h]
      have hp := hp.1 h
      refine b12_laysWays_42  ?_
      exact ih2 (x1 + 1) M hp
    · rw [if_neg h]
      have hp := hp.2 h
      obtain ⟨p0, hp⟩ := hp
      refine b12_laysWays_16 p0 (fun h => ?_) (fun h => ?_)
      · rw [if_neg h]
        have hp := hp.1 h
        refine b12_laysWays_32 ((vp_lt p0)) ?_
        exact T_12_laysWays_35 k2 (F_12_laysWays_10 k2 n) pk2 (P_12_laysWays_10 pk2 n) ih2 ih x1 x2 999 x2 (x1.toNatClampNeg) M hp
      · rw [if_pos h]
        have hp := hp.2 h
        refine b12_laysWays_28 ((vp_lt p0)) ?_
        exact T_12_laysWays_35 k2 (F_12_laysWays_10 k2 n) pk2 (P_12_laysWays_10 pk2 n) ih2 ih x1 x2 0 x2 (x1.toNatClampNeg) M hp
def F_12_laysWays_94 (k50 : Int32 → Mem → Mem) (x1 : Int32) (M : Mem) : Mem := k50 (x1 + 1) M
def P_12_laysWays_94 (pk50 : Int32 → Mem → Prop) (x1 : Int32) (M : Mem) : Prop := (pk50 (x1 + 1) M)
theorem T_12_laysWays_94 {g : Gl} (k50 : Int32 → Mem → Mem) (pk50 : Int32 → Mem → Prop) (ih50 : ∀ (x1 : Int32) (M : Mem), pk50 x1 M → Rn g 1 m12_laysWays 50 [some (.ref 0), some (.int x1), none, none] [] M (none) ((k50 x1 M))) (x1 : Int32) (M : Mem) (hp : P_12_laysWays_94 pk50 x1 M) : Rn g 1 m12_laysWays 94 [some (.ref 0), some (.int x1), none, none] [] M (none) ((F_12_laysWays_94 k50 x1 M)) := by
  rw [F_12_laysWays_94]
  rw [P_12_laysWays_94] at hp
  refine b12_laysWays_94  ?_
  exact ih50 (x1 + 1) M hp
def F_12_laysWays_118 (k102 : Int32 → Mem → Mem) (k110 : Int32 → Int32 → Mem → Mem) : Nat → Int32 → Int32 → Int32 → Mem → Mem
  | 0, _, _, _, M => M
  | n + 1, x1, x2, x3, M => if (10 : Int32) ≤ x3 then (k110 x1 (x2 + 1) M) else ((F_12_laysWays_118 k102 k110 n) x1 x2 (x3 + 1) (wr M (497 + (x2.toNatClampNeg)) x3.toNatClampNeg (F_12_less_0 M (rd M (497 + x2.toNatClampNeg) x3.toNatClampNeg) ((rd M (497 + x2.toNatClampNeg) x1.toNatClampNeg) + (rd M (497 + x1.toNatClampNeg) x3.toNatClampNeg)))))
def P_12_laysWays_118 (pk102 : Int32 → Mem → Prop) (pk110 : Int32 → Int32 → Mem → Prop) : Nat → Int32 → Int32 → Int32 → Mem → Prop
  | 0, _, _, _, _ => False
  | n + 1, x1, x2, x3, M => (((10 : Int32) ≤ x3 → (pk110 x1 (x2 + 1) M)) ∧ (¬ (10 : Int32) ≤ x3 → (vp_in x2 10) ∧ (vp_in x3 10) ∧ (vp_in x1 10) ∧ (((vp_in x3 10) ∧ ((P_12_laysWays_118 pk102 pk110 n) x1 x2 (x3 + 1) (wr M (497 + (x2.toNatClampNeg)) x3.toNatClampNeg (F_12_less_0 M (rd M (497 + x2.toNatClampNeg) x3.toNatClampNeg) ((rd M (497 + x2.toNatClampNeg) x1.toNatClampNeg) + (rd M (497 + x1.toNatClampNeg) x3.toNatClampNeg)))))))))
theorem T_12_laysWays_118 {g : Gl} (k102 : Int32 → Mem → Mem) (k110 : Int32 → Int32 → Mem → Mem) (pk102 : Int32 → Mem → Prop) (pk110 : Int32 → Int32 → Mem → Prop) (ih102 : ∀ (x1 : Int32) (M : Mem), pk102 x1 M → Rn g 1 m12_laysWays 102 [some (.ref 0), some (.int x1), none, none] [] M (none) ((k102 x1 M))) (ih110 : ∀ (x1 : Int32) (x2 : Int32) (M : Mem), pk110 x1 x2 M → Rn g 1 m12_laysWays 110 [some (.ref 0), some (.int x1), some (.int x2), none] [] M (none) ((k110 x1 x2 M))) : ∀ (n : Nat) (x1 : Int32) (x2 : Int32) (x3 : Int32) (M : Mem) (hp : P_12_laysWays_118 pk102 pk110 n x1 x2 x3 M), Rn g 1 m12_laysWays 118 [some (.ref 0), some (.int x1), some (.int x2), some (.int x3)] [] M (none) ((F_12_laysWays_118 k102 k110 n x1 x2 x3 M)) := by
  intro n
  induction n with
  | zero => intro x1 x2 x3 M hp; exact hp.elim
  | succ n ih =>
    intro x1 x2 x3 M hp
    rw [F_12_laysWays_118]
    rw [P_12_laysWays_118] at hp
    refine b12_laysWays_118  (fun h => ?_) (fun h => ?_)
    · rw [if_pos h]
      have hp := hp.1 h
      refine b12_laysWays_166  ?_
      exact ih110 x1 (x2 + 1) M hp
    · rw [if_neg h]
      have hp := hp.2 h
      obtain ⟨p0, p1, p2, hp⟩ := hp
      refine b12_laysWays_124 p0 p1 p2 (C_12_less (rd M (497 + x2.toNatClampNeg) x3.toNatClampNeg) ((rd M (497 + x2.toNatClampNeg) x1.toNatClampNeg) + (rd M (497 + x1.toNatClampNeg) x3.toNatClampNeg)) M) (Nat.le_of_ble_eq_true rfl) ?_
      obtain ⟨p3, hp⟩ := hp
      refine b12_laysWays_159 ((vp_lt p0)) p3 ?_
      exact ih x1 x2 (x3 + 1) (wr M (497 + (x2.toNatClampNeg)) x3.toNatClampNeg (F_12_less_0 M (rd M (497 + x2.toNatClampNeg) x3.toNatClampNeg) ((rd M (497 + x2.toNatClampNeg) x1.toNatClampNeg) + (rd M (497 + x1.toNatClampNeg) x3.toNatClampNeg)))) hp
def F_12_laysWays_110 (k102 : Int32 → Mem → Mem) : Nat → Int32 → Int32 → Mem → Mem
  | 0, _, _, M => M
  | n + 1, x1, x2, M => if (10 : Int32) ≤ x2 then (k102 (x1 + 1) M) else (F_12_laysWays_118 k102 (F_12_laysWays_110 k102 n) FU x1 x2 0 M)
def P_12_laysWays_110 (pk102 : Int32 → Mem → Prop) : Nat → Int32 → Int32 → Mem → Prop
  | 0, _, _, _ => False
  | n + 1, x1, x2, M => (((10 : Int32) ≤ x2 → (pk102 (x1 + 1) M)) ∧ (¬ (10 : Int32) ≤ x2 → (P_12_laysWays_118 pk102 (P_12_laysWays_110 pk102 n) FU x1 x2 0 M)))
theorem T_12_laysWays_110 {g : Gl} (k102 : Int32 → Mem → Mem) (pk102 : Int32 → Mem → Prop) (ih102 : ∀ (x1 : Int32) (M : Mem), pk102 x1 M → Rn g 1 m12_laysWays 102 [some (.ref 0), some (.int x1), none, none] [] M (none) ((k102 x1 M))) : ∀ (n : Nat) (x1 : Int32) (x2 : Int32) (M : Mem) (hp : P_12_laysWays_110 pk102 n x1 x2 M), Rn g 1 m12_laysWays 110 [some (.ref 0), some (.int x1), some (.int x2), none] [] M (none) ((F_12_laysWays_110 k102 n x1 x2 M)) := by
  intro n
  induction n with
  | zero => intro x1 x2 M hp; exact hp.elim
  | succ n ih =>
    intro x1 x2 M hp
    rw [F_12_laysWays_110]
    rw [P_12_laysWays_110] at hp
    refine b12_laysWays_110  (fun h => ?_) (fun h => ?_)
    · rw [if_pos h]
      have hp := hp.1 h
      refine b12_laysWays_172  ?_
      exact ih102 (x1 + 1) M hp
    · rw [if_neg h]
      have hp := hp.2 h
      refine b12_laysWays_116  ?_
      exact T_12_laysWays_118 k102 (F_12_laysWays_110 k102 n) pk102 (P_12_laysWays_110 pk102 n) ih102 ih FU x1 x2 0 M hp
def F_12_laysWays_102  : Nat → Int32 → Mem → Mem
  | 0, _, M => M
  | n + 1, x1, M => if (10 : Int32) ≤ x1 then (M) else (F_12_laysWays_110 (F_12_laysWays_102 n) FU x1 0 M)
def P_12_laysWays_102  : Nat → Int32 → Mem → Prop
  | 0, _, _ => False
  | n + 1, x1, M => (((10 : Int32) ≤ x1 → True) ∧ (¬ (10 : Int32) ≤ x1 → (P_12_laysWays_110 (P_12_laysWays_102 n) FU x1 0 M)))
theorem T_12_laysWays_102 {g : Gl} : ∀ (n : Nat) (x1 : Int32) (M : Mem) (hp : P_12_laysWays_102 n x1 M), Rn g 1 m12_laysWays 102 [some (.ref 0), some (.int x1), none, none] [] M (none) ((F_12_laysWays_102 n x1 M)) := by
  intro n
  induction n with
  | zero => intro x1 M hp; exact hp.elim
  | succ n ih =>
    intro x1 M hp
    rw [F_12_laysWays_102]
    rw [P_12_laysWays_102] at hp
    refine b12_laysWays_102  (fun h => ?_) (fun h => ?_)
    · rw [if_pos h]
      exact b12_laysWays_178  rfl rfl
    · rw [if_neg h]
      have hp := hp.2 h
      refine b12_laysWays_108  ?_
      exact T_12_laysWays_110 (F_12_laysWays_102 n) (P_12_laysWays_102 n) ih FU x1 0 M hp
def F_12_laysWays_50  : Nat → Int32 → Mem → Mem
  | 0, _, M => M
  | n + 1, x1, M => if (rd M 4 ((1 : Int32).toNatClampNeg)) ≤ x1 then (F_12_laysWays_102 FU 0 M) else (if (F_12_isBarred_0 M x1) = 0 then (F_12_laysWays_94 (F_12_laysWays_50 n) x1 (wr M (497 + (rd M (54 + x1.toNatClampNeg) ((0 : Int32).toNatClampNeg)).toNatClampNeg) ((rd M (54 + x1.toNatClampNeg) ((1 : Int32).toNatClampNeg)).toNatClampNeg) 1)) else (F_12_laysWays_94 (F_12_laysWays_50 n) x1 M))
def P_12_laysWays_50  : Nat → Int32 → Mem → Prop
  | 0, _, _ => False
  | n + 1, x1, M => (((rd M 4 ((1 : Int32).toNatClampNeg)) ≤ x1 → (P_12_laysWays_102 FU 0 M)) ∧ (¬ (rd M 4 ((1 : Int32).toNatClampNeg)) ≤ x1 → ((P_12_isBarred_0 M x1) ∧ (((¬ (F_12_isBarred_0 M x1) = 0 → P_12_laysWays_94 (P_12_laysWays_50 n) x1 M) ∧ ((F_12_isBarred_0 M x1) = 0 → (vp_in x1 24) ∧ (vp_in (rd M (54 + x1.toNatClampNeg) ((0 : Int32).toNatClampNeg)) 10) ∧ (vp_in (rd M (54 + x1.toNatClampNeg) ((1 : Int32).toNatClampNeg)) 10) ∧ (P_12_laysWays_94 (P_12_laysWays_50 n) x1 (wr M (497 + (rd M (54 + x1.toNatClampNeg) ((0 : Int32).toNatClampNeg)).toNatClampNeg) ((rd M (54 + x1.toNatClampNeg) ((1 : Int32).toNatClampNeg)).toNatClampNeg) 1))))))))
theorem T_12_laysWays_50 {g : Gl} : ∀ (n : Nat) (x1 : Int32) (M : Mem) (hp : P_12_laysWays_50 n x1 M), Rn g 1 m12_laysWays 50 [some (.ref 0), some (.int x1), none, none] [] M (none) ((F_12_laysWays_50 n x1 M)) := by
  intro n
  induction n with
  | zero => intro x1 M hp; exact hp.elim
  | succ n ih =>
    intro x1 M hp
    rw [F_12_laysWays_50]
    rw [P_12_laysWays_50] at hp
    refine b12_laysWays_50 (vpl (by decide)) (fun h => ?_) (fun h => ?_)
    · rw [if_pos h]
      have hp := hp.1 h
      refine b12_laysWays_100  ?_
      exact T_12_laysWays_102 FU 0 M hp
    · rw [if_neg h]
      have hp := hp.2 h
      obtain ⟨hc, hp⟩ := hp
      refine b12_laysWays_60  (C_12_isBarred x1 M hc) (Nat.le_of_ble_eq_true rfl) ?_
      refine b12_laysWays_68  (fun h => ?_) (fun h => ?_)
      · rw [if_neg h]
        have hp := hp.1 h
        exact T_12_laysWays_94 (F_12_laysWays_50 n) (P_12_laysWays_50 n) ih x1 M hp
      · rw [if_pos h]
        have hp := hp.2 h
        obtain ⟨p0, p1, p2, hp⟩ := hp
        refine b12_laysWays_71 p0 (vpl (by decide)) p1 (vpl (by decide)) p2 ?_
        exact T_12_laysWays_94 (F_12_laysWays_50 n) (P_12_laysWays_50 n) ih x1 (wr M (497 + (rd M (54 + x1.toNatClampNeg) ((0 : Int32).toNatClampNeg)).toNatClampNeg) ((rd M (54 + x1.toNatClampNeg) ((1 : Int32).toNatClampNeg)).toNatClampNeg) 1) hp
def F_12_laysWays_2  : Nat → Int32 → Mem → Mem
  | 0, _, M => M
  | n + 1, x1, M => if (10 : Int32) ≤ x1 then (F_12_laysWays_50 FU 0 M) else (F_12_laysWays_10 (F_12_laysWays_2 n) FU x1 0 M)
def P_12_laysWays_2  : Nat → Int32 → Mem → Prop
  | 0, _, _ => False
  | n + 1, x1, M => (((10 : Int32) ≤ x1 → (P_12_laysWays_50 FU 0 M)) ∧ (¬ (10 : Int32) ≤ x1 → (P_12_laysWays_10 (P_12_laysWays_2 n) FU x1 0 M)))
theorem T_12_laysWays_2 {g : Gl} : ∀ (n : Nat) (x1 : Int32) (M : Mem) (hp : P_12_laysWays_2 n x1 M), Rn g 1 m12_laysWays 2 [some (.ref 0), some (.int x1), none, none] [] M (none) ((F_12_laysWays_2 n x1 M)) := by
  intro n
  induction n with
  | zero => intro x1 M hp; exact hp.elim
  | succ n ih =>
    intro x1 M hp
    rw [F_12_laysWays_2]
    rw [P_12_laysWays_2] at hp
    refine b12_laysWays_2  (fun h => ?_) (fun h => ?_)
    · rw [if_pos h]
      have hp := hp.1 h
      refine b12_laysWays_48  ?_
      exact T_12_laysWays_50 FU 0 M hp
    · rw [if_neg h]
      have hp := hp.2 h
      refine b12_laysWays_8  ?_
      exact T_12_laysWays_10 (F_12_laysWays_2 n) (P_12_laysWays_2 n) ih FU x1 0 M hp
def F_12_laysWays_0 (M : Mem) : Mem := F_12_laysWays_2 FU 0 M
def P_12_laysWays_0 (M : Mem) : Prop := (P_12_laysWays_2 FU 0 M)
theorem T_12_laysWays_0 {g : Gl} (M : Mem) (hp : P_12_laysWays_0 M) : Rn g 1 m12_laysWays 0 [some (.ref 0), none, none, none] [] M (none) ((F_12_laysWays_0 M)) := by
  rw [F_12_laysWays_0]
  rw [P_12_laysWays_0] at hp
  refine b12_laysWays_0  ?_
  exact T_12_laysWays_2 FU 0 M hp
theorem C_12_laysWays {g : Gl}   (M : Mem) (hp : P_12_laysWays_0 M) : Ms g 1 m12_laysWays [.ref 0] M (none) ((F_12_laysWays_0 M)) := Ms.of okM_m12_laysWays (Nat.le_of_ble_eq_true rfl) (R_wk (lc rfl (ln (ln (ln l0)))) (T_12_laysWays_0 M hp))
def F_12_orNone_0 (M : Mem) (x0 : Int32) : Int32 := if x0 < 999 then (x0) else ((-1))
theorem T_12_orNone_0 {g : Gl} (M : Mem) (x0 : Int32)  : Rn g 0 m12_orNone 0 [some (.int x0)] [] M (some (.int (F_12_orNone_0 M x0))) (M) := by
  rw [F_12_orNone_0]
  refine b12_orNone_0  (fun h => ?_) (fun h => ?_)
  · rw [if_pos h]
    refine b12_orNone_11  ?_
    exact b12_orNone_12  rfl rfl
  · rw [if_neg h]
    refine b12_orNone_7  ?_
    exact b12_orNone_12  rfl rfl
theorem C_12_orNone {g : Gl}  (x0 : Int32) (M : Mem)  : Ms g 0 m12_orNone [.int x0] M (some (.int (F_12_orNone_0 M x0))) (M) := Ms.of okM_m12_orNone (Nat.le_of_ble_eq_true rfl) (R_wk (lc rfl l0) (T_12_orNone_0 M x0))
def F_12_stringTo_40 (k6 : Int32 → Int32 → Int32 → Int32) (M : Mem) (x1 : Int32) (x3 : Int32) (xs0 : Int32) : Int32 := k6 x1 xs0 (x3 + 1)
def P_12_stringTo_40 (pk6 : Int32 → Int32 → Int32 → Prop) (M : Mem) (x1 : Int32) (x3 : Int32) (xs0 : Int32) : Prop := (pk6 x1 xs0 (x3 + 1))
theorem T_12_stringTo_40 {g : Gl} (k6 : Int32 → Int32 → Int32 → Int32) (pk6 : Int32 → Int32 → Int32 → Prop) (M : Mem) (ih6 : ∀ (x1 : Int32) (x2 : Int32) (x3 : Int32), pk6 x1 x2 x3 → Rn g 2 m12_stringTo 6 [some (.ref 0), some (.int x1), some (.int x2), some (.int x3)] [] M (some (.int (k6 x1 x2 x3))) (M)) (x1 : Int32) (x3 : Int32) (xs0 : Int32) (hp : P_12_stringTo_40 pk6 M x1 x3 xs0) : Rn g 2 m12_stringTo 40 [some (.ref 0), some (.int x1), none, some (.int x3)] [.int xs0] M (some (.int (F_12_stringTo_40 k6 M x1 x3 xs0))) (M) := by
  rw [F_12_stringTo_40]
  rw [P_12_stringTo_40] at hp
  refine b12_stringTo_40  ?_
  exact ih6 x1 xs0 (x3 + 1) hp
def F_12_stringTo_6 (M : Mem) : Nat → Int32 → Int32 → Int32 → Int32
  | 0, _, _, _ => 0
  | n + 1, x1, x2, x3 => if (rd M 4 ((0 : Int32).toNatClampNeg)) ≤ x3 then ((F_12_orNone_0 M x2)) else (if (F_12_isExit_0 M x3) = 0 then (F_12_stringTo_40 (F_12_stringTo_6 M n) M x1 x3 x2) else (F_12_stringTo_40 (F_12_stringTo_6 M n) M x1 x3 (F_12_less_0 M x2 (rd M (497 + x3.toNatClampNeg) x1.toNatClampNeg))))
def P_12_stringTo_6 (M : Mem) : Nat → Int32 → Int32 → Int32 → Prop
  | 0, _, _, _ => False
  | n + 1, x1, x2, x3 => (((rd M 4 ((0 : Int32).toNatClampNeg)) ≤ x3 → True) ∧ (¬ (rd M 4 ((0 : Int32).toNatClampNeg)) ≤ x3 → ((P_12_isExit_0 M x3) ∧ ((((F_12_isExit_0 M x3) = 0 → (P_12_stringTo_40 (P_12_stringTo_6 M n) M x1 x3 x2)) ∧ (¬ (F_12_isExit_0 M x3) = 0 → (vp_in x3 10) ∧ (vp_in x1 10) ∧ (((P_12_stringTo_40 (P_12_stringTo_6 M n) M x1 x3 (F_12_less_0 M x2 (rd M (497 + x3.toNatClampNeg) x1.toNatClampNeg)))))))))))
theorem T_12_stringTo_6 {g : Gl} (M : Mem) : ∀ (n : Nat) (x1 : Int32) (x2 : Int32) (x3 : Int32) (hp : P_12_stringTo_6 M n x1 x2 x3), Rn g 2 m12_stringTo 6 [some (.ref 0), some (.int x1), some (.int x2), some (.int x3)] [] M (some (.int (F_12_stringTo_6 M n x1 x2 x3))) (M) := by
  intro n
  induction n with
  | zero => intro x1 x2 x3 hp; exact hp.elim
  | succ n ih =>
    intro x1 x2 x3 hp
    rw [F_12_stringTo_6]
    rw [P_12_stringTo_6] at hp
    refine b12_stringTo_6 (vpl (by decide)) (fun h => ?_) (fun h => ?_)
    · rw [if_pos h]
      refine b12_stringTo_47  (C_12_orNone x2 M) (Nat.le_of_ble_eq_true rfl) ?_
      exact b12_stringTo_51  rfl rfl
    · rw [if_neg h]
      have hp := hp.2 h
      obtain ⟨hc, hp⟩ := hp
      refine b12_stringTo_16  (C_12_isExit x3 M hc) (Nat.le_of_ble_eq_true rfl) ?_
      refine b12_stringTo_21  (fun h => ?_) (fun h => ?_)
      · rw [if_pos h]
        have hp := hp.1 h
        refine b12_stringTo_39  ?_
        exact T_12_stringTo_40 (F_12_stringTo_6 M n) (P_12_stringTo_6 M n) _ ih x1 x3 x2 hp
      · rw [if_neg h]
        have hp := hp.2 h
        obtain ⟨p0, p1, hp⟩ := hp
        refine b12_stringTo_24 p0 p1 (C_12_less x2 (rd M (497 + x3.toNatClampNeg) x1.toNatClampNeg) M) (Nat.le_of_ble_eq_true rfl) ?_
        refine b12_stringTo_36  ?_
        exact T_12_stringTo_40 (F_12_stringTo_6 M n) (P_12_stringTo_6 M n) _ ih x1 x3 (F_12_less_0 M x2 (rd M (497 + x3.toNatClampNeg) x1.toNatClampNeg)) hp
def F_12_stringTo_0 (M : Mem) (x1 : Int32) : Int32 := F_12_stringTo_6 M FU x1 999 0
def P_12_stringTo_0 (M : Mem) (x1 : Int32) : Prop := (P_12_stringTo_6 M FU x1 999 0)
theorem T_12_stringTo_0 {g : Gl} (M : Mem) (x1 : Int32) (hp : P_12_stringTo_0 M x1) : Rn g 2 m12_stringTo 0 [some (.ref 0), some (.int x1), none, none] [] M (some (.int (F_12_stringTo_0 M x1))) (M) := by
  rw [F_12_stringTo_0]
  rw [P_12_stringTo_0] at hp
  refine b12_stringTo_0  ?_
  exact T_12_stringTo_6 _ FU x1 999 0 hp
theorem C_12_stringTo {g : Gl}  (x1 : Int32) (M : Mem) (hp : P_12_stringTo_0 M x1) : Ms g 2 m12_stringTo [.ref 0, .int x1] M (some (.int (F_12_stringTo_0 M x1))) (M) := Ms.of okM_m12_stringTo (Nat.le_of_ble_eq_true rfl) (R_wk (lc rfl (lc rfl (ln (ln l0)))) (T_12_stringTo_0 M x1 hp))
def F_12_string_33 (x1 : Int32) (M : Mem) : Int32 × Mem := ((F_12_stringTo_0 M x1), M)
def P_12_string_33 (x1 : Int32) (M : Mem) : Prop := ((P_12_stringTo_0 M x1))
theorem T_12_string_33 {g : Gl} (x1 : Int32) (M : Mem) (hp : P_12_string_33 x1 M) : Rn g 3 m12_string 33 [some (.ref 0), some (.int x1)] [] M (some (.int (F_12_string_33 x1 M).1)) ((F_12_string_33 x1 M).2) := by
  rw [F_12_string_33]
  rw [P_12_string_33] at hp
  have hc := hp
  refine b12_string_33  (C_12_stringTo x1 M hc) (Nat.le_of_ble_eq_true rfl) ?_
  exact b12_string_38  rfl rfl
def F_12_string_24 (x1 : Int32) (xs0 : Int32) (M : Mem) : Int32 × Mem := if xs0 = 0 then (F_12_string_33 x1 (F_12_laysWays_0 M)) else ((0, M))
def P_12_string_24 (x1 : Int32) (xs0 : Int32) (M : Mem) : Prop := ((xs0 = 0 → ((P_12_laysWays_0 M) ∧ (P_12_string_33 x1 (F_12_laysWays_0 M)))) ∧ (¬ xs0 = 0 → True))
theorem T_12_string_24 {g : Gl} (x1 : Int32) (xs0 : Int32) (M : Mem) (hp : P_12_string_24 x1 xs0 M) : Rn g 3 m12_string 24 [some (.ref 0), some (.int x1)] [.int xs0] M (some (.int (F_12_string_24 x1 xs0 M).1)) ((F_12_string_24 x1 xs0 M).2) := by
  rw [F_12_string_24]
  rw [P_12_string_24] at hp
  refine b12_string_24  (fun h => ?_) (fun h => ?_)
  · rw [if_pos h]
    have hp := hp.1 h
    obtain ⟨hc, hp⟩ := hp
    refine b12_string_29  (C_12_laysWays  M hc) (Nat.le_of_ble_eq_true rfl) ?_
    exact T_12_string_33 x1 (F_12_laysWays_0 M) hp
  · rw [if_neg h]
    exact b12_string_27  rfl rfl
def F_12_string_19 (x1 : Int32) (xs0 : Int32) (M : Mem) : Int32 × Mem := F_12_string_24 x1 ((F_12_bad_0 xs0 1 0 M).1) ((F_12_bad_0 xs0 1 0 M).2)
def P_12_string_19 (x1 : Int32) (xs0 : Int32) (M : Mem) : Prop := ((P_12_bad_0 xs0 1 0 M) ∧ (P_12_string_24 x1 ((F_12_bad_0 xs0 1 0 M).1) ((F_12_bad_0 xs0 1 0 M).2)))
theorem T_12_string_19 {g : Gl} (x1 : Int32) (xs0 : Int32) (M : Mem) (hp : P_12_string_19 x1 xs0 M) : Rn g 3 m12_string 19 [some (.ref 0), some (.int x1)] [.int xs0, .ref 0] M (some (.int (F_12_string_19 x1 xs0 M).1)) ((F_12_string_19 x1 xs0 M).2) := by
  rw [F_12_string_19]
  rw [P_12_string_19] at hp
  obtain ⟨hc, hp⟩ := hp
  refine b12_string_19  (C_12_bad xs0 1 0 M hc) (Nat.le_of_ble_eq_true rfl) ?_
  exact T_12_string_24 x1 ((F_12_bad_0 xs0 1 0 M).1) ((F_12_bad_0 xs0 1 0 M).2) hp
def F_12_string_0 (x1 : Int32) (M : Mem) : Int32 × Mem := if (F_12_isRoom_0 (wr M 0 0 0) x1) = 0 then (F_12_string_19 x1 1 (wr M 0 0 0)) else (F_12_string_19 x1 0 (wr M 0 0 0))
def P_12_string_0 (x1 : Int32) (M : Mem) : Prop := ((P_12_isRoom_0 (wr M 0 0 0) x1) ∧ (((¬ (F_12_isRoom_0 (wr M 0 0 0) x1) = 0 → (P_12_string_19 x1 0 (wr M 0 0 0))) ∧ ((F_12_isRoom_0 (wr M 0 0 0) x1) = 0 → (P_12_string_19 x1 1 (wr M 0 0 0))))))
theorem T_12_string_0 {g : Gl} (x1 : Int32) (M : Mem) (hp : P_12_string_0 x1 M) : Rn g 3 m12_string 0 [some (.ref 0), some (.int x1)] [] M (some (.int (F_12_string_0 x1 M).1)) ((F_12_string_0 x1 M).2) := by
  rw [F_12_string_0]
  rw [P_12_string_0] at hp
  obtain ⟨hc, hp⟩ := hp
  refine b12_string_0  (C_12_isRoom x1 (wr M 0 0 0) hc) (Nat.le_of_ble_eq_true rfl) ?_
  refine b12_string_11  (fun h => ?_) (fun h => ?_)
  · rw [if_neg h]
    have hp := hp.1 h
    refine b12_string_18  ?_
    exact T_12_string_19 x1 0 (wr M 0 0 0) hp
  · rw [if_pos h]
    have hp := hp.2 h
    refine b12_string_14  ?_
    exact T_12_string_19 x1 1 (wr M 0 0 0) hp
theorem C_12_string {g : Gl}  (x1 : Int32) (M : Mem) (hp : P_12_string_0 x1 M) : Ms g 3 m12_string [.ref 0, .int x1] M (some (.int (F_12_string_0 x1 M).1)) ((F_12_string_0 x1 M).2) := Ms.of okM_m12_string (Nat.le_of_ble_eq_true rfl) (R_wk (lc rfl (lc rfl l0)) (T_12_string_0 x1 M hp))
def F_12_longest_75 (k41 : Int32 → Int32 → Int32 → Int32 → Mem → Int32 × Mem) (x1 : Int32) (x2 : Int32) (x3 : Int32) (x4 : Int32) (M : Mem) : Int32 × Mem := k41 x1 x2 x3 (x4 + 1) M
def P_12_longest_75 (pk41 : Int32 → Int32 → Int32 → Int32 → Mem → Prop) (x1 : Int32) (x2 : Int32) (x3 : Int32) (x4 : Int32) (M : Mem) : Prop := (pk41 x1 x2 x3 (x4 + 1) M)
theorem T_12_longest_75 {g : Gl} (k41 : Int32 → Int32 → Int32 → Int32 → Mem → Int32 × Mem) (pk41 : Int32 → Int32 → Int32 → Int32 → Mem → Prop) (ih41 : ∀ (x1 : Int32) (x2 : Int32) (x3 : Int32) (x4 : Int32) (M : Mem), pk41 x1 x2 x3 x4 M → Rn g 3 m12_longest 41 [some (.ref 0), some (.int x1), some (.int x2), some (.int x3), some (.int x4)] [] M (some (.int (k41 x1 x2 x3 x4 M).1)) ((k41 x1 x2 x3 x4 M).2)) (x1 : Int32) (x2 : Int32) (x3 : Int32) (x4 : Int32) (M : Mem) (hp : P_12_longest_75 pk41 x1 x2 x3 x4 M) : Rn g 3 m12_longest 75 [some (.ref 0), some (.int x1), some (.int x2), some (.int x3), some (.int x4)] [] M (some (.int (F_12_longest_75 k41 x1 x2 x3 x4 M).1)) ((F_12_longest_75 k41 x1 x2 x3 x4 M).2) := by
  rw [F_12_longest_75]
  rw [P_12_longest_75] at hp
  refine b12_longest_75  ?_
  exact ih41 x1 x2 x3 (x4 + 1) M hp
def F_12_longest_41  : Nat → Int32 → Int32 → Int32 → Int32 → Mem → Int32 × Mem
  | 0, _, _, _, _, M => (0, M)
  | n + 1, x1, x2, x3, x4, M => if (rd M 4 ((0 : Int32).toNatClampNeg)) ≤ x4 then (if x1 = 0 then ((x2, M)) else ((x3, M))) else (if x2 < (F_12_stringTo_0 M x4) then (F_12_longest_75 (F_12_longest_41 n) x1 (F_12_stringTo_0 M x4) x4 x4 M) else (F_12_longest_75 (F_12_longest_41 n) x1 x2 x3 x4 M))
def P_12_longest_41  : Nat → Int32 → Int32 → Int32 → Int32 → Mem → Prop
  | 0, _, _, _, _, _ => False
  | n + 1, x1, x2, x3, x4, M => (((rd M 4 ((0 : Int32).toNatClampNeg)) ≤ x4 → True) ∧ (¬ (rd M 4 ((0 : Int32).toNatClampNeg)) ≤ x4 → ((P_12_stringTo_0 M x4) ∧ (((x2 < (F_12_stringTo_0 M x4) → ((P_12_stringTo_0 M x4) ∧ ((P_12_longest_75 (P_12_longest_41 n) x1 (F_12_stringTo_0 M x4) x4 x4 M)))) ∧ (¬ x2 < (F_12_stringTo_0 M x4) → (P_12_longest_75 (P_12_longest_41 n) x1 x2 x3 x4 M)))))))
theorem T_12_longest_41 {g : Gl} : ∀ (n : Nat) (x1 : Int32) (x2 : Int32) (x3 : Int32) (x4 : Int32) (M : Mem) (hp : P_12_longest_41 n x1 x2 x3 x4 M), Rn g 3 m12_longest 41 [some (.ref 0), some (.int x1), some (.int x2), some (.int x3), some (.int x4)] [] M (some (.int (F_12_longest_41 n x1 x2 x3 x4 M).1)) ((F_12_longest_41 n x1 x2 x3 x4 M).2) := by
  intro n
  induction n with
  | zero => intro x1 x2 x3 x4 M hp; exact hp.elim
  | succ n ih =>
    intro x1 x2 x3 x4 M hp
    rw [F_12_longest_41]
    rw [P_12_longest_41] at hp
    refine b12_longest_41 (vpl (by decide)) (fun h => ?_) (fun h => ?_)
    · rw [if_pos h]
      refine b12_longest_81  (fun h => ?_) (fun h => ?_)
      · rw [if_neg h]
        refine b12_longest_89  ?_
        exact b12_longest_90  rfl rfl
      · rw [if_pos h]
        refine b12_longest_85  ?_
        exact b12_longest_90  rfl rfl
    · rw [if_neg h]
      have hp := hp.2 h
      obtain ⟨hc, hp⟩ := hp
      refine b12_longest_52  (C_12_stringTo x4 M hc) (Nat.le_of_ble_eq_true rfl) ?_
      refine b12_longest_58  (fun h => ?_) (fun h => ?_)
      · rw [if_pos h]
        have hp := hp.1 h
        obtain ⟨hc, hp⟩ := hp
        refine b12_longest_65  (C_12_stringTo x4 M hc) (Nat.le_of_ble_eq_true rfl) ?_
        refine b12_longest_71  ?_
        exact T_12_longest_75 (F_12_longest_41 n) (P_12_longest_41 n) ih x1 (F_12_stringTo_0 M x4) x4 x4 M hp
      · rw [if_neg h]
        have hp := hp.2 h
        refine b12_longest_62  ?_
        exact T_12_longest_75 (F_12_longest_41 n) (P_12_longest_41 n) ih x1 x2 x3 x4 M hp
def F_12_longest_38 (x1 : Int32) (x2 : Int32) (x3 : Int32) (M : Mem) : Int32 × Mem := F_12_longest_41 FU x1 x2 x3 0 M
def P_12_longest_38 (x1 : Int32) (x2 : Int32) (x3 : Int32) (M : Mem) : Prop := (P_12_longest_41 FU x1 x2 x3 0 M)
theorem T_12_longest_38 {g : Gl} (x1 : Int32) (x2 : Int32) (x3 : Int32) (M : Mem) (hp : P_12_longest_38 x1 x2 x3 M) : Rn g 3 m12_longest 38 [some (.ref 0), some (.int x1), some (.int x2), some (.int x3), none] [] M (some (.int (F_12_longest_38 x1 x2 x3 M).1)) ((F_12_longest_38 x1 x2 x3 M).2) := by
  rw [F_12_longest_38]
  rw [P_12_longest_38] at hp
  refine b12_longest_38  ?_
  exact T_12_longest_41 FU x1 x2 x3 0 M hp
def F_12_longest_25 (x1 : Int32) (xs0 : Int32) (M : Mem) : Int32 × Mem := if xs0 = 0 then (F_12_longest_38 x1 (-1) (-1) (F_12_laysWays_0 M)) else ((0, M))
def P_12_longest_25 (x1 : Int32) (xs0 : Int32) (M : Mem) : Prop := ((xs0 = 0 → ((P_12_laysWays_0 M) ∧ (P_12_longest_38 x1 (-1) (-1) (F_12_laysWays_0 M)))) ∧ (¬ xs0 = 0 → True))
theorem T_12_longest_25 {g : Gl} (x1 : Int32) (xs0 : Int32) (M : Mem) (hp : P_12_longest_25 x1 xs0 M) : Rn g 3 m12_longest 25 [some (.ref 0), some (.int x1), none, none, none] [.int xs0] M (some (.int (F_12_longest_25 x1 xs0 M).1)) ((F_12_longest_25 x1 xs0 M).2) := by
  rw [F_12_longest_25]
  rw [P_12_longest_25] at hp
  refine b12_longest_25  (fun h => ?_) (fun h => ?_)
  · rw [if_pos h]
    have hp := hp.1 h
    obtain ⟨hc, hp⟩ := hp
    refine b12_longest_30  (C_12_laysWays  M hc) (Nat.le_of_ble_eq_true rfl) ?_
    exact T_12_longest_38 x1 (-1) (-1) (F_12_laysWays_0 M) hp
  · rw [if_neg h]
    exact b12_longest_28  rfl rfl
def F_12_longest_20 (x1 : Int32) (xs0 : Int32) (M : Mem) : Int32 × Mem := F_12_longest_25 x1 ((F_12_bad_0 xs0 1 1 M).1) ((F_12_bad_0 xs0 1 1 M).2)
def P_12_longest_20 (x1 : Int32) (xs0 : Int32) (M : Mem) : Prop := ((P_12_bad_0 xs0 1 1 M) ∧ (P_12_longest_25 x1 ((F_12_bad_0 xs0 1 1 M).1) ((F_12_bad_0 xs0 1 1 M).2)))
theorem T_12_longest_20 {g : Gl} (x1 : Int32) (xs0 : Int32) (M : Mem) (hp : P_12_longest_20 x1 xs0 M) : Rn g 3 m12_longest 20 [some (.ref 0), some (.int x1), none, none, none] [.int xs0, .ref 0] M (some (.int (F_12_longest_20 x1 xs0 M).1)) ((F_12_longest_20 x1 xs0 M).2) := by
  rw [F_12_longest_20]
  rw [P_12_longest_20] at hp
  obtain ⟨hc, hp⟩ := hp
  refine b12_longest_20  (C_12_bad xs0 1 1 M hc) (Nat.le_of_ble_eq_true rfl) ?_
  exact T_12_longest_25 x1 ((F_12_bad_0 xs0 1 1 M).1) ((F_12_bad_0 xs0 1 1 M).2) hp
def F_12_longest_0 (x1 : Int32) (M : Mem) : Int32 × Mem := if (F_12_in_0 (wr M 0 0 0) x1 0 1) = 0 then (F_12_longest_20 x1 1 (wr M 0 0 0)) else (F_12_longest_20 x1 0 (wr M 0 0 0))
def P_12_longest_0 (x1 : Int32) (M : Mem) : Prop := ((((¬ (F_12_in_0 (wr M 0 0 0) x1 0 1) = 0 → (P_12_longest_20 x1 0 (wr M 0 0 0))) ∧ ((F_12_in_0 (wr M 0 0 0) x1 0 1) = 0 → (P_12_longest_20 x1 1 (wr M 0 0 0))))))
theorem T_12_longest_0 {g : Gl} (x1 : Int32) (M : Mem) (hp : P_12_longest_0 x1 M) : Rn g 3 m12_longest 0 [some (.ref 0), some (.int x1), none, none, none] [] M (some (.int (F_12_longest_0 x1 M).1)) ((F_12_longest_0 x1 M).2) := by
  rw [F_12_longest_0]
  rw [P_12_longest_0] at hp
  refine b12_longest_0  (C_12_in x1 0 1 (wr M 0 0 0)) (Nat.le_of_ble_eq_true rfl) ?_
  refine b12_longest_12  (fun h => ?_) (fun h => ?_)
  · rw [if_neg h]
    have hp := hp.1 h
    refine b12_longest_19  ?_
    exact T_12_longest_20 x1 0 (wr M 0 0 0) hp
  · rw [if_pos h]
    have hp := hp.2 h
    refine b12_longest_15  ?_
    exact T_12_longest_20 x1 1 (wr M 0 0 0) hp
theorem C_12_longest {g : Gl}  (x1 : Int32) (M : Mem) (hp : P_12_longest_0 x1 M) : Ms g 3 m12_longest [.ref 0, .int x1] M (some (.int (F_12_longest_0 x1 M).1)) ((F_12_longest_0 x1 M).2) := Ms.of okM_m12_longest (Nat.le_of_ble_eq_true rfl) (R_wk (lc rfl (lc rfl (ln (ln (ln l0))))) (T_12_longest_0 x1 M hp))
def F_12_lost_100 (k41 : Int32 → Int32 → Int32 → Int32 → Mem → Int32 × Mem) (k60 : Int32 → Int32 → Int32 → Int32 → Int32 → Int32 → Mem → Int32 × Mem) (x1 : Int32) (x2 : Int32) (x3 : Int32) (x4 : Int32) (x6 : Int32) (xs0 : Int32) (M : Mem) : Int32 × Mem := k60 x1 x2 x3 x4 xs0 (x6 + 1) M
def P_12_lost_100 (pk41 : Int32 → Int32 → Int32 → Int32 → Mem → Prop) (pk60 : Int32 → Int32 → Int32 → Int32 → Int32 → Int32 → Mem → Prop) (x1 : Int32) (x2 : Int32) (x3 : Int32) (x4 : Int32) (x6 : Int32) (xs0 : Int32) (M : Mem) : Prop := (pk60 x1 x2 x3 x4 xs0 (x6 + 1) M)
theorem T_12_lost_100 {g : Gl} (k41 : Int32 → Int32 → Int32 → Int32 → Mem → Int32 × Mem) (k60 : Int32 → Int32 → Int32 → Int32 → Int32 → Int32 → Mem → Int32 × Mem) (pk41 : Int32 → Int32 → Int32 → Int32 → Mem → Prop) (pk60 : Int32 → Int32 → Int32 → Int32 → Int32 → Int32 → Mem → Prop) (ih41 : ∀ (x1 : Int32) (x2 : Int32) (x3 : Int32) (x4 : Int32) (M : Mem), pk41 x1 x2 x3 x4 M → Rn g 3 m12_lost 41 [some (.ref 0), some (.int x1), some (.int x2), some (.int x3), some (.int x4), none, none] [] M (some (.int (k41 x1 x2 x3 x4 M).1)) ((k41 x1 x2 x3 x4 M).2)) (ih60 : ∀ (x1 : Int32) (x2 : Int32) (x3 : Int32) (x4 : Int32) (x5 : Int32) (x6 : Int32) (M : Mem), pk60 x1 x2 x3 x4 x5 x6 M → Rn g 3 m12_lost 60 [some (.ref 0), some (.int x1), some (.int x2), some (.int x3), some (.int x4), some (.int x5), some (.int x6)] [] M (some (.int (k60 x1 x2 x3 x4 x5 x6 M).1)) ((k60 x1 x2 x3 x4 x5 x6 M).2)) (x1 : Int32) (x2 : Int32) (x3 : Int32) (x4 : Int32) (x6 : Int32) (xs0 : Int32) (M : Mem) (hp : P_12_lost_100 pk41 pk60 x1 x2 x3 x4 x6 xs0 M) : Rn g 3 m12_lost 100 [some (.ref 0), some (.int x1), some (.int x2), some (.int x3), some (.int x4), none, some (.int x6)] [.int xs0] M (some (.int (F_12_lost_100 k41 k60 x1 x2 x3 x4 x6 xs0 M).1)) ((F_12_lost_100 k41 k60 x1 x2 x3 x4 x6 xs0 M).2) := by
  rw [F_12_lost_100]
  rw [P_12_lost_100] at hp
  refine b12_lost_100  ?_
  exact ih60 x1 x2 x3 x4 xs0 (x6 + 1) M hp
def F_12_lost_146 (k41 : Int32 → Int32 → Int32 → Int32 → Mem → Int32 × Mem) (x1 : Int32) (x2 : Int32) (x4 : Int32) (xs0 : Int32) (xs1 : Int32) (M : Mem) : Int32 × Mem := k41 x1 x2 (xs1 ||| xs0) (x4 + 1) M
def P_12_lost_146 (pk41 : Int32 → Int32 → Int32 → Int32 → Mem → Prop) (x1 : Int32) (x2 : Int32) (x4 : Int32) (xs0 : Int32) (xs1 : Int32) (M : Mem) : Prop := (pk41 x1 x2 (xs1 ||| xs0) (x4 + 1) M)
theorem T_12_lost_146 {g : Gl} (k41 : Int32 → Int32 → Int32 → Int32 → Mem → Int32 × Mem) (pk41 : Int32 → Int32 → Int32 → Int32 → Mem → Prop) (ih41 : ∀ (x1 : Int32) (x2 : Int32) (x3 : Int32) (x4 : Int32) (M : Mem), pk41 x1 x2 x3 x4 M → Rn g 3 m12_lost 41 [some (.ref 0), some (.int x1), some (.int x2), some (.int x3), some (.int x4), none, none] [] M (some (.int (k41 x1 x2 x3 x4 M).1)) ((k41 x1 x2 x3 x4 M).2)) (x1 : Int32) (x2 : Int32) (x4 : Int32) (xs0 : Int32) (xs1 : Int32) (M : Mem) (hp : P_12_lost_146 pk41 x1 x2 x4 xs0 xs1 M) : Rn g 3 m12_lost 146 [some (.ref 0), some (.int x1), some (.int x2), none, some (.int x4), none, none] [.int xs0, .int xs1] M (some (.int (F_12_lost_146 k41 x1 x2 x4 xs0 xs1 M).1)) ((F_12_lost_146 k41 x1 x2 x4 xs0 xs1 M).2) := by
  rw [F_12_lost_146]
  rw [P_12_lost_146] at hp
  refine b12_lost_146  ?_
  exact ih41 x1 x2 (xs1 ||| xs0) (x4 + 1) M hp
def F_12_lost_127 (k41 : Int32 → Int32 → Int32 → Int32 → Mem → Int32 × Mem) (x1 : Int32) (x3 : Int32) (x4 : Int32) (x5 : Int32) (xs0 : Int32) (xs1 : Int32) (M : Mem) : Int32 × Mem := if x5 < 999 then (F_12_lost_146 k41 x1 (xs1 ||| xs0) x4 0 x3 M) else (F_12_lost_146 k41 x1 (xs1 ||| xs0) x4 ((1 : Int32) <<< (x4 &&& 31)) x3 M)
def P_12_lost_127 (pk41 : Int32 → Int32 → Int32 → Int32 → Mem → Prop) (x1 : Int32) (x3 : Int32) (x4 : Int32) (x5 : Int32) (xs0 : Int32) (xs1 : Int32) (M : Mem) : Prop := ((x5 < 999 → (P_12_lost_146 pk41 x1 (xs1 ||| xs0) x4 0 x3 M)) ∧ (¬ x5 < 999 → (P_12_lost_146 pk41 x1 (xs1 ||| xs0) x4 ((1 : Int32) <<< (x4 &&& 31)) x3 M)))
theorem T_12_lost_127 {g : Gl} (k41 : Int32 → Int32 → Int32 → Int32 → Mem → Int32 × Mem) (pk41 : Int32 → Int32 → Int32 → Int32 → Mem → Prop) (ih41 : ∀ (x1 : Int32) (x2 : Int32) (x3 : Int32) (x4 : Int32) (M : Mem), pk41 x1 x2 x3 x4 M → Rn g 3 m12_lost 41 [some (.ref 0), some (.int x1), some (.int x2), some (.int x3), some (.int x4), none, none] [] M (some (.int (k41 x1 x2 x3 x4 M).1)) ((k41 x1 x2 x3 x4 M).2)) (x1 : Int32) (x3 : Int32) (x4 : Int32) (x5 : Int32) (xs0 : Int32) (xs1 : Int32) (M : Mem) (hp : P_12_lost_127 pk41 x1 x3 x4 x5 xs0 xs1 M) : Rn g 3 m12_lost 127 [some (.ref 0), some (.int x1), none, some (.int x3), some (.int x4), some (.int x5), none] [.int xs0, .int xs1] M (some (.int (F_12_lost_127 k41 x1 x3 x4 x5 xs0 xs1 M).1)) ((F_12_lost_127 k41 x1 x3 x4 x5 xs0 xs1 M).2) := by
  rw [F_12_lost_127]
  rw [P_12_lost_127] at hp
  refine b12_lost_127  (fun h => ?_) (fun h => ?_)
  · rw [if_pos h]
    have hp := hp.1 h
    refine b12_lost_145  ?_
    exact T_12_lost_146 k41 pk41 ih41 x1 (xs1 ||| xs0) x4 0 x3 M hp
  · rw [if_neg h]
    have hp := hp.2 h
    refine b12_lost_138  ?_
    exact T_12_lost_146 k41 pk41 ih41 x1 (xs1 ||| xs0) x4 ((1 : Int32) <<< (x4 &&& 31)) x3 M hp
def F_12_lost_60 (k41 : Int32 → Int32 → Int32 → Int32 → Mem → Int32 × Mem) : Nat → Int32 → Int32 → Int32 → Int32 → Int32 → Int32 → Mem → Int32 × Mem
  | 0, _, _, _, _, _, _, M => (0, M)
  | n + 1, x1, x2, x3, x4, x5, x6, M => if (rd M 4 ((0 : Int32).toNatClampNeg)) ≤ x6 then (if (F_12_stringTo_0 M x4) = (-1) then (F_12_lost_127 k41 x1 x3 x4 x5 ((1 : Int32) <<< (x4 &&& 31)) x2 M) else (F_12_lost_127 k41 x1 x3 x4 x5 0 x2 M)) else (if (F_12_isExit_0 M x6) = 0 then (F_12_lost_100 k41 (F_12_lost_60 k41 n) x1 x2 x3 x4 x6 x5 M) else (F_12_lost_100 k41 (F_12_lost_60 k41 n) x1 x2 x3 x4 x6 (F_12_less_0 M x5 (rd M (497 + x4.toNatClampNeg) x6.toNatClampNeg)) M))
def P_12_lost_60 (pk41 : Int32 → Int32 → Int32 → Int32 → Mem → Prop) : Nat → Int32 → Int32 → Int32 → Int32 → Int32 → Int32 → Mem → Prop
  | 0, _, _, _, _, _, _, _ => False
  | n + 1, x1, x2, x3, x4, x5, x6, M => (((rd M 4 ((0 : Int32).toNatClampNeg)) ≤ x6 → ((P_12_stringTo_0 M x4) ∧ (((¬ (F_12_stringTo_0 M x4) = (-1) → (P_12_lost_127 pk41 x1 x3 x4 x5 0 x2 M)) ∧ ((F_12_stringTo_0 M x4) = (-1) → (P_12_lost_127 pk41 x1 x3 x4 x5 ((1 : Int32) <<< (x4 &&& 31)) x2 M)))))) ∧ (¬ (rd M 4 ((0 : Int32).toNatClampNeg)) ≤ x6 → ((P_12_isExit_0 M x6) ∧ ((((F_12_isExit_0 M x6) = 0 → (P_12_lost_100 pk41 (P_12_lost_60 pk41 n) x1 x2 x3 x4 x6 x5 M)) ∧ (¬ (F_12_isExit_0 M x6) = 0 → (vp_in x4 10) ∧ (vp_in x6 10) ∧ (((P_12_lost_100 pk41 (P_12_lost_60 pk41 n) x1 x2 x3 x4 x6 (F_12_less_0 M x5 (rd M (497 + x4.toNatClampNeg) x6.toNatClampNeg)) M)))))))))
theorem T_12_lost_60 {g : Gl} (k41 : Int32 → Int32 → Int32 → Int32 → Mem → Int32 × Mem) (pk41 : Int32 → Int32 → Int32 → Int32 → Mem → Prop) (ih41 : ∀ (x1 : Int32) (x2 : Int32) (x3 : Int32) (x4 : Int32) (M : Mem), pk41 x1 x2 x3 x4 M → Rn g 3 m12_lost 41 [some (.ref 0), some (.int x1), some (.int x2), some (.int x3), some (.int x4), none, none] [] M (some (.int (k41 x1 x2 x3 x4 M).1)) ((k41 x1 x2 x3 x4 M).2)) : ∀ (n : Nat) (x1 : Int32) (x2 : Int32) (x3 : Int32) (x4 : Int32) (x5 : Int32) (x6 : Int32) (M : Mem) (hp : P_12_lost_60 pk41 n x1 x2 x3 x4 x5 x6 M), Rn g 3 m12_lost 60 [some (.ref 0), some (.int x1), some (.int x2), some (.int x3), some (.int x4), some (.int x5), some (.int x6)] [] M (some (.int (F_12_lost_60 k41 n x1 x2 x3 x4 x5 x6 M).1)) ((F_12_lost_60 k41 n x1 x2 x3 x4 x5 x6 M).2) := by
  intro n
  induction n with
  | zero => intro x1 x2 x3 x4 x5 x6 M hp; exact hp.elim
  | succ n ih =>
    intro x1 x2 x3 x4 x5 x6 M hp
    rw [F_12_lost_60]
    rw [P_12_lost_60] at hp
    refine b12_lost_60 (vpl (by decide)) (fun h => ?_) (fun h => ?_)
    · rw [if_pos h]
      have hp := hp.1 h
      obtain ⟨hc, hp⟩ := hp
      refine b12_lost_108  (C_12_stringTo x4 M hc) (Nat.le_of_ble_eq_true rfl) ?_
      refine b12_lost_115  (fun h => ?_) (fun h => ?_)
      · rw [if_neg h]
        have hp := hp.1 h
        refine b12_lost_126  ?_
        exact T_12_lost_127 k41 pk41 ih41 x1 x3 x4 x5 0 x2 M hp
      · rw [if_pos h]
        have hp := hp.2 h
        refine b12_lost_119  ?_
        exact T_12_lost_127 k41 pk41 ih41 x1 x3 x4 x5 ((1 : Int32) <<< (x4 &&& 31)) x2 M hp
    · rw [if_neg h]
      have hp := hp.2 h
      obtain ⟨hc, hp⟩ := hp
      refine b12_lost_71  (C_12_isExit x6 M hc) (Nat.le_of_ble_eq_true rfl) ?_
      refine b12_lost_77  (fun h => ?_) (fun h => ?_)
      · rw [if_pos h]
        have hp := hp.1 h
        refine b12_lost_98  ?_
        exact T_12_lost_100 k41 (F_12_lost_60 k41 n) pk41 (P_12_lost_60 pk41 n) ih41 ih x1 x2 x3 x4 x6 x5 M hp
      · rw [if_neg h]
        have hp := hp.2 h
        obtain ⟨p0, p1, hp⟩ := hp
        refine b12_lost_80 p0 p1 (C_12_less x5 (rd M (497 + x4.toNatClampNeg) x6.toNatClampNeg) M) (Nat.le_of_ble_eq_true rfl) ?_
        refine b12_lost_95  ?_
        exact T_12_lost_100 k41 (F_12_lost_60 k41 n) pk41 (P_12_lost_60 pk41 n) ih41 ih x1 x2 x3 x4 x6 (F_12_less_0 M x5 (rd M (497 + x4.toNatClampNeg) x6.toNatClampNeg)) M hp
def F_12_lost_41  : Nat → Int32 → Int32 → Int32 → Int32 → Mem → Int32 × Mem
  | 0, _, _, _, _, M => (0, M)
  | n + 1, x1, x2, x3, x4, M => if (rd M 4 ((0 : Int32).toNatClampNeg)) ≤ x4 then (if x1 = 0 then ((x2, M)) else (if x1 = 1 then ((x3, M)) else (((x2 &&& x3), M)))) else (F_12_lost_60 (F_12_lost_41 n) FU x1 x2 x3 x4 999 0 M)
def P_12_lost_41  : Nat → Int32 → Int32 → Int32 → Int32 → Mem → Prop
  | 0, _, _, _, _, _ => False
  | n + 1, x1, x2, x3, x4, M => (((rd M 4 ((0 : Int32).toNatClampNeg)) ≤ x4 → True) ∧ (¬ (rd M 4 ((0 : Int32).toNatClampNeg)) ≤ x4 → (P_12_lost_60 (P_12_lost_41 n) FU x1 x2 x3 x4 999 0 M)))
theorem T_12_lost_41 {g : Gl} : ∀ (n : Nat) (x1 : Int32) (x2 : Int32) (x3 : Int32) (x4 : Int32) (M : Mem) (hp : P_12_lost_41 n x1 x2 x3 x4 M), Rn g 3 m12_lost 41 [some (.ref 0), some (.int x1), some (.int x2), some (.int x3), some (.int x4), none, none] [] M (some (.int (F_12_lost_41 n x1 x2 x3 x4 M).1)) ((F_12_lost_41 n x1 x2 x3 x4 M).2) := by
  intro n
  induction n with
  | zero => intro x1 x2 x3 x4 M hp; exact hp.elim
  | succ n ih =>
    intro x1 x2 x3 x4 M hp
    rw [F_12_lost_41]
    rw [P_12_lost_41] at hp
    refine b12_lost_41 (vpl (by decide)) (fun h => ?_) (fun h => ?_)
    · rw [if_pos h]
      refine b12_lost_154  (fun h => ?_) (fun h => ?_)
      · rw [if_neg h]
        refine b12_lost_162  (fun h => ?_) (fun h => ?_)
        · rw [if_neg h]
          refine b12_lost_171  ?_
          exact b12_lost_174  rfl rfl
        · rw [if_pos h]
          refine b12_lost_167  ?_
          exact b12_lost_174  rfl rfl
      · rw [if_pos h]
        refine b12_lost_158  ?_
        exact b12_lost_174  rfl rfl
    · rw [if_neg h]
      have hp := hp.2 h
      refine b12_lost_52  ?_
      exact T_12_lost_60 (F_12_lost_41 n) (P_12_lost_41 n) ih FU x1 x2 x3 x4 999 0 M hp
def F_12_lost_38 (x1 : Int32) (x2 : Int32) (x3 : Int32) (M : Mem) : Int32 × Mem := F_12_lost_41 FU x1 x2 x3 0 M
def P_12_lost_38 (x1 : Int32) (x2 : Int32) (x3 : Int32) (M : Mem) : Prop := (P_12_lost_41 FU x1 x2 x3 0 M)
theorem T_12_lost_38 {g : Gl} (x1 : Int32) (x2 : Int32) (x3 : Int32) (M : Mem) (hp : P_12_lost_38 x1 x2 x3 M) : Rn g 3 m12_lost 38 [some (.ref 0), some (.int x1), some (.int x2), some (.int x3), none, none, none] [] M (some (.int (F_12_lost_38 x1 x2 x3 M).1)) ((F_12_lost_38 x1 x2 x3 M).2) := by
  rw [F_12_lost_38]
  rw [P_12_lost_38] at hp
  refine b12_lost_38  ?_
  exact T_12_lost_41 FU x1 x2 x3 0 M hp
def F_12_lost_25 (x1 : Int32) (xs0 : Int32) (M : Mem) : Int32 × Mem := if xs0 = 0 then (F_12_lost_38 x1 0 0 (F_12_laysWays_0 M)) else ((0, M))
def P_12_lost_25 (x1 : Int32) (xs0 : Int32) (M : Mem) : Prop := ((xs0 = 0 → ((P_12_laysWays_0 M) ∧ (P_12_lost_38 x1 0 0 (F_12_laysWays_0 M)))) ∧ (¬ xs0 = 0 → True))
theorem T_12_lost_25 {g : Gl} (x1 : Int32) (xs0 : Int32) (M : Mem) (hp : P_12_lost_25 x1 xs0 M) : Rn g 3 m12_lost 25 [some (.ref 0), some (.int x1), none, none, none, none, none] [.int xs0] M (some (.int (F_12_lost_25 x1 xs0 M).1)) ((F_12_lost_25 x1 xs0 M).2) := by
  rw [F_12_lost_25]
  rw [P_12_lost_25] at hp
  refine b12_lost_25  (fun h => ?_) (fun h => ?_)
  · rw [if_pos h]
    have hp := hp.1 h
    obtain ⟨hc, hp⟩ := hp
    refine b12_lost_30  (C_12_laysWays  M hc) (Nat.le_of_ble_eq_true rfl) ?_
    exact T_12_lost_38 x1 0 0 (F_12_laysWays_0 M) hp
  · rw [if_neg h]
    exact b12_lost_28  rfl rfl
def F_12_lost_20 (x1 : Int32) (xs0 : Int32) (M : Mem) : Int32 × Mem := F_12_lost_25 x1 ((F_12_bad_0 xs0 1 1 M).1) ((F_12_bad_0 xs0 1 1 M).2)
def P_12_lost_20 (x1 : Int32) (xs0 : Int32) (M : Mem) : Prop := ((P_12_bad_0 xs0 1 1 M) ∧ (P_12_lost_25 x1 ((F_12_bad_0 xs0 1 1 M).1) ((F_12_bad_0 xs0 1 1 M).2)))
theorem T_12_lost_20 {g : Gl} (x1 : Int32) (xs0 : Int32) (M : Mem) (hp : P_12_lost_20 x1 xs0 M) : Rn g 3 m12_lost 20 [some (.ref 0), some (.int x1), none, none, none, none, none] [.int xs0, .ref 0] M (some (.int (F_12_lost_20 x1 xs0 M).1)) ((F_12_lost_20 x1 xs0 M).2) := by
  rw [F_12_lost_20]
  rw [P_12_lost_20] at hp
  obtain ⟨hc, hp⟩ := hp
  refine b12_lost_20  (C_12_bad xs0 1 1 M hc) (Nat.le_of_ble_eq_true rfl) ?_
  exact T_12_lost_25 x1 ((F_12_bad_0 xs0 1 1 M).1) ((F_12_bad_0 xs0 1 1 M).2) hp
def F_12_lost_0 (x1 : Int32) (M : Mem) : Int32 × Mem := if (F_12_in_0 (wr M 0 0 0) x1 0 2) = 0 then (F_12_lost_20 x1 1 (wr M 0 0 0)) else (F_12_lost_20 x1 0 (wr M 0 0 0))
def P_12_lost_0 (x1 : Int32) (M : Mem) : Prop := ((((¬ (F_12_in_0 (wr M 0 0 0) x1 0 2) = 0 → (P_12_lost_20 x1 0 (wr M 0 0 0))) ∧ ((F_12_in_0 (wr M 0 0 0) x1 0 2) = 0 → (P_12_lost_20 x1 1 (wr M 0 0 0))))))
theorem T_12_lost_0 {g : Gl} (x1 : Int32) (M : Mem) (hp : P_12_lost_0 x1 M) : Rn g 3 m12_lost 0 [some (.ref 0), some (.int x1), none, none, none, none, none] [] M (some (.int (F_12_lost_0 x1 M).1)) ((F_12_lost_0 x1 M).2) := by
  rw [F_12_lost_0]
  rw [P_12_lost_0] at hp
  refine b12_lost_0  (C_12_in x1 0 2 (wr M 0 0 0)) (Nat.le_of_ble_eq_true rfl) ?_
  refine b12_lost_12  (fun h => ?_) (fun h => ?_)
  · rw [if_neg h]
    have hp := hp.1 h
    refine b12_lost_19  ?_
    exact T_12_lost_20 x1 0 (wr M 0 0 0) hp
  · rw [if_pos h]
    have hp := hp.2 h
    refine b12_lost_15  ?_
    exact T_12_lost_20 x1 1 (wr M 0 0 0) hp
theorem C_12_lost {g : Gl}  (x1 : Int32) (M : Mem) (hp : P_12_lost_0 x1 M) : Ms g 3 m12_lost [.ref 0, .int x1] M (some (.int (F_12_lost_0 x1 M).1)) ((F_12_lost_0 x1 M).2) := Ms.of okM_m12_lost (Nat.le_of_ble_eq_true rfl) (R_wk (lc rfl (lc rfl (ln (ln (ln (ln (ln l0))))))) (T_12_lost_0 x1 M hp))
def F_12_wingOf_50 (k4 : Int32 → Int32 → Int32 → Int32) (M : Mem) (x1 : Int32) (x3 : Int32) (xs0 : Int32) (xs1 : Int32) : Int32 := k4 x1 (xs1 ||| xs0) (x3 + 1)
def P_12_wingOf_50 (pk4 : Int32 → Int32 → Int32 → Prop) (M : Mem) (x1 : Int32) (x3 : Int32) (xs0 : Int32) (xs1 : Int32) : Prop := (pk4 x1 (xs1 ||| xs0) (x3 + 1))
theorem T_12_wingOf_50 {g : Gl} (k4 : Int32 → Int32 → Int32 → Int32) (pk4 : Int32 → Int32 → Int32 → Prop) (M : Mem) (ih4 : ∀ (x1 : Int32) (x2 : Int32) (x3 : Int32), pk4 x1 x2 x3 → Rn g 0 m12_wingOf 4 [some (.ref 0), some (.int x1), some (.int x2), some (.int x3)] [] M (some (.int (k4 x1 x2 x3))) (M)) (x1 : Int32) (x3 : Int32) (xs0 : Int32) (xs1 : Int32) (hp : P_12_wingOf_50 pk4 M x1 x3 xs0 xs1) : Rn g 0 m12_wingOf 50 [some (.ref 0), some (.int x1), none, some (.int x3)] [.int xs0, .int xs1] M (some (.int (F_12_wingOf_50 k4 M x1 x3 xs0 xs1))) (M) := by
  rw [F_12_wingOf_50]
  rw [P_12_wingOf_50] at hp
  refine b12_wingOf_50  ?_
  exact ih4 x1 (xs1 ||| xs0) (x3 + 1) hp
def F_12_wingOf_49 (k4 : Int32 → Int32 → Int32 → Int32) (M : Mem) (x1 : Int32) (x3 : Int32) (xs0 : Int32) : Int32 := F_12_wingOf_50 k4 M x1 x3 0 xs0
def P_12_wingOf_49 (pk4 : Int32 → Int32 → Int32 → Prop) (M : Mem) (x1 : Int32) (x3 : Int32) (xs0 : Int32) : Prop := (P_12_wingOf_50 pk4 M x1 x3 0 xs0)
theorem T_12_wingOf_49 {g : Gl} (k4 : Int32 → Int32 → Int32 → Int32) (pk4 : Int32 → Int32 → Int32 → Prop) (M : Mem) (ih4 : ∀ (x1 : Int32) (x2 : Int32) (x3 : Int32), pk4 x1 x2 x3 → Rn g 0 m12_wingOf 4 [some (.ref 0), some (.int x1), some (.int x2), some (.int x3)] [] M (some (.int (k4 x1 x2 x3))) (M)) (x1 : Int32) (x3 : Int32) (xs0 : Int32) (hp : P_12_wingOf_49 pk4 M x1 x3 xs0) : Rn g 0 m12_wingOf 49 [some (.ref 0), some (.int x1), none, some (.int x3)] [.int xs0] M (some (.int (F_12_wingOf_49 k4 M x1 x3 xs0))) (M) := by
  rw [F_12_wingOf_49]
  rw [P_12_wingOf_49] at hp
  refine b12_wingOf_49  ?_
  exact T_12_wingOf_50 k4 pk4 _ ih4 x1 x3 0 xs0 hp
def F_12_wingOf_4 (M : Mem) : Nat → Int32 → Int32 → Int32 → Int32
  | 0, _, _, _ => 0
  | n + 1, x1, x2, x3 => if (rd M 4 ((0 : Int32).toNatClampNeg)) ≤ x3 then (x2) else (if (999 : Int32) ≤ (rd M (497 + x1.toNatClampNeg) x3.toNatClampNeg) then (F_12_wingOf_49 (F_12_wingOf_4 M n) M x1 x3 x2) else (if (999 : Int32) ≤ (rd M (497 + x3.toNatClampNeg) x1.toNatClampNeg) then (F_12_wingOf_49 (F_12_wingOf_4 M n) M x1 x3 x2) else (F_12_wingOf_50 (F_12_wingOf_4 M n) M x1 x3 ((1 : Int32) <<< (x3 &&& 31)) x2)))
def P_12_wingOf_4 (M : Mem) : Nat → Int32 → Int32 → Int32 → Prop
  | 0, _, _, _ => False
  | n + 1, x1, x2, x3 => (((rd M 4 ((0 : Int32).toNatClampNeg)) ≤ x3 → True) ∧ (¬ (rd M 4 ((0 : Int32).toNatClampNeg)) ≤ x3 → (vp_in x1 10) ∧ (vp_in x3 10) ∧ (((999 : Int32) ≤ (rd M (497 + x1.toNatClampNeg) x3.toNatClampNeg) → P_12_wingOf_49 (P_12_wingOf_4 M n) M x1 x3 x2) ∧ (¬ (999 : Int32) ≤ (rd M (497 + x1.toNatClampNeg) x3.toNatClampNeg) → (vp_in x3 10) ∧ (vp_in x1 10) ∧ (((999 : Int32) ≤ (rd M (497 + x3.toNatClampNeg) x1.toNatClampNeg) → P_12_wingOf_49 (P_12_wingOf_4 M n) M x1 x3 x2) ∧ (¬ (999 : Int32) ≤ (rd M (497 + x3.toNatClampNeg) x1.toNatClampNeg) → (P_12_wingOf_50 (P_12_wingOf_4 M n) M x1 x3 ((1 : Int32) <<< (x3 &&& 31)) x2)))))))
theorem T_12_wingOf_4 {g : Gl} (M : Mem) : ∀ (n : Nat) (x1 : Int32) (x2 : Int32) (x3 : Int32) (hp : P_12_wingOf_4 M n x1 x2 x3), Rn g 0 m12_wingOf 4 [some (.ref 0), some (.int x1), some (.int x2), some (.int x3)] [] M (some (.int (F_12_wingOf_4 M n x1 x2 x3))) (M) := by
  intro n
  induction n with
  | zero => intro x1 x2 x3 hp; exact hp.elim
  | succ n ih =>
    intro x1 x2 x3 hp
    rw [F_12_wingOf_4]
    rw [P_12_wingOf_4] at hp
    refine b12_wingOf_4 (vpl (by decide)) (fun h => ?_) (fun h => ?_)
    · rw [if_pos h]
      exact b12_wingOf_58  rfl rfl
    · rw [if_neg h]
      have hp := hp.2 h
      obtain ⟨p0, p1, hp⟩ := hp
      refine b12_wingOf_14 p0 p1 (fun h => ?_) (fun h => ?_)
      · rw [if_pos h]
        have hp := hp.1 h
        exact T_12_wingOf_49 (F_12_wingOf_4 M n) (P_12_wingOf_4 M n) _ ih x1 x3 x2 hp
      · rw [if_neg h]
        have hp := hp.2 h
        obtain ⟨p2, p3, hp⟩ := hp
        refine b12_wingOf_29 p2 p3 (fun h => ?_) (fun h => ?_)
        · rw [if_pos h]
          have hp := hp.1 h
          exact T_12_wingOf_49 (F_12_wingOf_4 M n) (P_12_wingOf_4 M n) _ ih x1 x3 x2 hp
        · rw [if_neg h]
          have hp := hp.2 h
          refine b12_wingOf_43  ?_
          exact T_12_wingOf_50 (F_12_wingOf_4 M n) (P_12_wingOf_4 M n) _ ih x1 x3 ((1 : Int32) <<< (x3 &&& 31)) x2 hp
def F_12_wingOf_0 (M : Mem) (x1 : Int32) : Int32 := F_12_wingOf_4 M FU x1 0 0
def P_12_wingOf_0 (M : Mem) (x1 : Int32) : Prop := (P_12_wingOf_4 M FU x1 0 0)
theorem T_12_wingOf_0 {g : Gl} (M : Mem) (x1 : Int32) (hp : P_12_wingOf_0 M x1) : Rn g 0 m12_wingOf 0 [some (.ref 0), some (.int x1), none, none] [] M (some (.int (F_12_wingOf_0 M x1))) (M) := by
  rw [F_12_wingOf_0]
  rw [P_12_wingOf_0] at hp
  refine b12_wingOf_0  ?_
  exact T_12_wingOf_4 _ FU x1 0 0 hp
theorem C_12_wingOf {g : Gl}  (x1 : Int32) (M : Mem) (hp : P_12_wingOf_0 M x1) : Ms g 0 m12_wingOf [.ref 0, .int x1] M (some (.int (F_12_wingOf_0 M x1))) (M) := Ms.of okM_m12_wingOf (Nat.le_of_ble_eq_true rfl) (R_wk (lc rfl (lc rfl (ln (ln l0)))) (T_12_wingOf_0 M x1 hp))
