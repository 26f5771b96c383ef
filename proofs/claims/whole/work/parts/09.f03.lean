def F_12_fault_0 (M : Mem) : Int32 × Mem := (rd (wr M 0 0 0) 0 3, wr M 0 0 0)
theorem T_12_fault_0 {g : Gl} (M : Mem)  : Rn g 0 m12_fault 0 [some (.ref 0)] [] M (some (.int (F_12_fault_0 M).1)) ((F_12_fault_0 M).2) := by
  rw [F_12_fault_0]
  exact b12_fault_0  rfl rfl
theorem C_12_fault {g : Gl}   (M : Mem)  : Ms g 0 m12_fault [.ref 0] M (some (.int (F_12_fault_0 M).1)) ((F_12_fault_0 M).2) := Ms.of okM_m12_fault (Nat.le_of_ble_eq_true rfl) (R_wk (lc rfl l0) (T_12_fault_0 M))
def F_12_isBarred_0 (M : Mem) (x1 : Int32) : Int32 := if (rd M 20 ((6 + x1).toNatClampNeg)) = 1 then (1) else (0)
def P_12_isBarred_0 (M : Mem) (x1 : Int32) : Prop := (vp_in (6 + x1) 56)
theorem T_12_isBarred_0 {g : Gl} (M : Mem) (x1 : Int32) (hp : P_12_isBarred_0 M x1) : Rn g 0 m12_isBarred 0 [some (.ref 20), some (.int x1)] [] M (some (.int (F_12_isBarred_0 M x1))) (M) := by
  rw [F_12_isBarred_0]
  rw [P_12_isBarred_0] at hp
  have p0 := hp
  refine b12_isBarred_0 p0 (fun h => ?_) (fun h => ?_)
  · rw [if_neg h]
    refine b12_isBarred_14  ?_
    exact b12_isBarred_15  rfl rfl rfl
  · rw [if_pos h]
    refine b12_isBarred_10  ?_
    exact b12_isBarred_15  rfl rfl rfl
theorem C_12_isBarred {g : Gl}  (x1 : Int32) (M : Mem) (hp : P_12_isBarred_0 M x1) : Ms g 0 m12_isBarred [.ref 20, .int x1] M (some (.int (F_12_isBarred_0 M x1))) (M) := Ms.of okM_m12_isBarred (Nat.le_of_ble_eq_true rfl) (R_wk (lc rfl (lc rfl l0)) (T_12_isBarred_0 M x1 hp))
def F_12_isLawful_121 (xs0 : Int32) (M : Mem) : Int32 × Mem := if xs0 ≤ 0 then ((0, M)) else ((1, M))
theorem T_12_isLawful_121 {g : Gl} (xs0 : Int32) (M : Mem)  : Rn g 3 m12_isLawful 121 [none, none, none, none, none] [.int xs0] M (some (.int (F_12_isLawful_121 xs0 M).1)) ((F_12_isLawful_121 xs0 M).2) := by
  rw [F_12_isLawful_121]
  refine b12_isLawful_121  (fun h => ?_) (fun h => ?_)
  · rw [if_pos h]
    refine b12_isLawful_128  ?_
    exact b12_isLawful_129  rfl rfl rfl
  · rw [if_neg h]
    refine b12_isLawful_124  ?_
    exact b12_isLawful_129  rfl rfl rfl
def F_12_isLawful_33 (x2 : Int32) (x3 : Int32) (x4 : Int32) (xs0 : Int32) (xs1 : Int32) (M : Mem) : Int32 × Mem := F_12_isLawful_121 ((F_12_byLaw_0 (wr (wr (wr (wr (wr (wr (wr (wr M 16 xs1.toNatClampNeg xs0) 16 ((1 : Int32).toNatClampNeg) x3) 16 ((2 : Int32).toNatClampNeg) x4) 16 ((3 : Int32).toNatClampNeg) x2) 16 ((4 : Int32).toNatClampNeg) (rd (wr (wr (wr (wr M 16 xs1.toNatClampNeg xs0) 16 ((1 : Int32).toNatClampNeg) x3) 16 ((2 : Int32).toNatClampNeg) x4) 16 ((3 : Int32).toNatClampNeg) x2) (54 + x2.toNatClampNeg) ((0 : Int32).toNatClampNeg))) 16 ((5 : Int32).toNatClampNeg) (rd (wr (wr (wr (wr (wr M 16 xs1.toNatClampNeg xs0) 16 ((1 : Int32).toNatClampNeg) x3) 16 ((2 : Int32).toNatClampNeg) x4) 16 ((3 : Int32).toNatClampNeg) x2) 16 ((4 : Int32).toNatClampNeg) (rd (wr (wr (wr (wr M 16 xs1.toNatClampNeg xs0) 16 ((1 : Int32).toNatClampNeg) x3) 16 ((2 : Int32).toNatClampNeg) x4) 16 ((3 : Int32).toNatClampNeg) x2) (54 + x2.toNatClampNeg) ((0 : Int32).toNatClampNeg))) (54 + x2.toNatClampNeg) ((1 : Int32).toNatClampNeg))) 16 ((6 : Int32).toNatClampNeg) (rd (wr (wr (wr (wr (wr (wr M 16 xs1.toNatClampNeg xs0) 16 ((1 : Int32).toNatClampNeg) x3) 16 ((2 : Int32).toNatClampNeg) x4) 16 ((3 : Int32).toNatClampNeg) x2) 16 ((4 : Int32).toNatClampNeg) (rd (wr (wr (wr (wr M 16 xs1.toNatClampNeg xs0) 16 ((1 : Int32).toNatClampNeg) x3) 16 ((2 : Int32).toNatClampNeg) x4) 16 ((3 : Int32).toNatClampNeg) x2) (54 + x2.toNatClampNeg) ((0 : Int32).toNatClampNeg))) 16 ((5 : Int32).toNatClampNeg) (rd (wr (wr (wr (wr (wr M 16 xs1.toNatClampNeg xs0) 16 ((1 : Int32).toNatClampNeg) x3) 16 ((2 : Int32).toNatClampNeg) x4) 16 ((3 : Int32).toNatClampNeg) x2) 16 ((4 : Int32).toNatClampNeg) (rd (wr (wr (wr (wr M 16 xs1.toNatClampNeg xs0) 16 ((1 : Int32).toNatClampNeg) x3) 16 ((2 : Int32).toNatClampNeg) x4) 16 ((3 : Int32).toNatClampNeg) x2) (54 + x2.toNatClampNeg) ((0 : Int32).toNatClampNeg))) (54 + x2.toNatClampNeg) ((1 : Int32).toNatClampNeg))) 6 ((rd (wr (wr (wr (wr (wr (wr M 16 xs1.toNatClampNeg xs0) 16 ((1 : Int32).toNatClampNeg) x3) 16 ((2 : Int32).toNatClampNeg) x4) 16 ((3 : Int32).toNatClampNeg) x2) 16 ((4 : Int32).toNatClampNeg) (rd (wr (wr (wr (wr M 16 xs1.toNatClampNeg xs0) 16 ((1 : Int32).toNatClampNeg) x3) 16 ((2 : Int32).toNatClampNeg) x4) 16 ((3 : Int32).toNatClampNeg) x2) (54 + x2.toNatClampNeg) ((0 : Int32).toNatClampNeg))) 16 ((5 : Int32).toNatClampNeg) (rd (wr (wr (wr (wr (wr M 16 xs1.toNatClampNeg xs0) 16 ((1 : Int32).toNatClampNeg) x3) 16 ((2 : Int32).toNatClampNeg) x4) 16 ((3 : Int32).toNatClampNeg) x2) 16 ((4 : Int32).toNatClampNeg) (rd (wr (wr (wr (wr M 16 xs1.toNatClampNeg xs0) 16 ((1 : Int32).toNatClampNeg) x3) 16 ((2 : Int32).toNatClampNeg) x4) 16 ((3 : Int32).toNatClampNeg) x2) (54 + x2.toNatClampNeg) ((0 : Int32).toNatClampNeg))) (54 + x2.toNatClampNeg) ((1 : Int32).toNatClampNeg))) (54 + x2.toNatClampNeg) ((1 : Int32).toNatClampNeg)).toNatClampNeg))) 16 ((7 : Int32).toNatClampNeg) (rd (wr (wr (wr (wr (wr (wr (wr M 16 xs1.toNatClampNeg xs0) 16 ((1 : Int32).toNatClampNeg) x3) 16 ((2 : Int32).toNatClampNeg) x4) 16 ((3 : Int32).toNatClampNeg) x2) 16 ((4 : Int32).toNatClampNeg) (rd (wr (wr (wr (wr M 16 xs1.toNatClampNeg xs0) 16 ((1 : Int32).toNatClampNeg) x3) 16 ((2 : Int32).toNatClampNeg) x4) 16 ((3 : Int32).toNatClampNeg) x2) (54 + x2.toNatClampNeg) ((0 : Int32).toNatClampNeg))) 16 ((5 : Int32).toNatClampNeg) (rd (wr (wr (wr (wr (wr M 16 xs1.toNatClampNeg xs0) 16 ((1 : Int32).toNatClampNeg) x3) 16 ((2 : Int32).toNatClampNeg) x4) 16 ((3 : Int32).toNatClampNeg) x2) 16 ((4 : Int32).toNatClampNeg) (rd (wr (wr (wr (wr M 16 xs1.toNatClampNeg xs0) 16 ((1 : Int32).toNatClampNeg) x3) 16 ((2 : Int32).toNatClampNeg) x4) 16 ((3 : Int32).toNatClampNeg) x2) (54 + x2.toNatClampNeg) ((0 : Int32).toNatClampNeg))) (54 + x2.toNatClampNeg) ((1 : Int32).toNatClampNeg))) 16 ((6 : Int32).toNatClampNeg) (rd (wr (wr (wr (wr (wr (wr M 16 xs1.toNatClampNeg xs0) 16 ((1 : Int32).toNatClampNeg) x3) 16 ((2 : Int32).toNatClampNeg) x4) 16 ((3 : Int32).toNatClampNeg) x2) 16 ((4 : Int32).toNatClampNeg) (rd (wr (wr (wr (wr M 16 xs1.toNatClampNeg xs0) 16 ((1 : Int32).toNatClampNeg) x3) 16 ((2 : Int32).toNatClampNeg) x4) 16 ((3 : Int32).toNatClampNeg) x2) (54 + x2.toNatClampNeg) ((0 : Int32).toNatClampNeg))) 16 ((5 : Int32).toNatClampNeg) (rd (wr (wr (wr (wr (wr M 16 xs1.toNatClampNeg xs0) 16 ((1 : Int32).toNatClampNeg) x3) 16 ((2 : Int32).toNatClampNeg) x4) 16 ((3 : Int32).toNatClampNeg) x2) 16 ((4 : Int32).toNatClampNeg) (rd (wr (wr (wr (wr M 16 xs1.toNatClampNeg xs0) 16 ((1 : Int32).toNatClampNeg) x3) 16 ((2 : Int32).toNatClampNeg) x4) 16 ((3 : Int32).toNatClampNeg) x2) (54 + x2.toNatClampNeg) ((0 : Int32).toNatClampNeg))) (54 + x2.toNatClampNeg) ((1 : Int32).toNatClampNeg))) 6 ((rd (wr (wr (wr (wr (wr (wr M 16 xs1.toNatClampNeg xs0) 16 ((1 : Int32).toNatClampNeg) x3) 16 ((2 : Int32).toNatClampNeg) x4) 16 ((3 : Int32).toNatClampNeg) x2) 16 ((4 : Int32).toNatClampNeg) (rd (wr (wr (wr (wr M 16 xs1.toNatClampNeg xs0) 16 ((1 : Int32).toNatClampNeg) x3) 16 ((2 : Int32).toNatClampNeg) x4) 16 ((3 : Int32).toNatClampNeg) x2) (54 + x2.toNatClampNeg) ((0 : Int32).toNatClampNeg))) 16 ((5 : Int32).toNatClampNeg) (rd (wr (wr (wr (wr (wr M 16 xs1.toNatClampNeg xs0) 16 ((1 : Int32).toNatClampNeg) x3) 16 ((2 : Int32).toNatClampNeg) x4) 16 ((3 : Int32).toNatClampNeg) x2) 16 ((4 : Int32).toNatClampNeg) (rd (wr (wr (wr (wr M 16 xs1.toNatClampNeg xs0) 16 ((1 : Int32).toNatClampNeg) x3) 16 ((2 : Int32).toNatClampNeg) x4) 16 ((3 : Int32).toNatClampNeg) x2) (54 + x2.toNatClampNeg) ((0 : Int32).toNatClampNeg))) (54 + x2.toNatClampNeg) ((1 : Int32).toNatClampNeg))) (54 + x2.toNatClampNeg) ((1 : Int32).toNatClampNeg)).toNatClampNeg))) 20 ((30 + x2).toNatClampNeg)))).1) ((F_12_byLaw_0 (wr (wr (wr (wr (wr (wr (wr (wr M 16 xs1.toNatClampNeg xs0) 16 ((1 : Int32).toNatClampNeg) x3) 16 ((2 : Int32).toNatClampNeg) x4) 16 ((3 : Int32).toNatClampNeg) x2) 16 ((4 : Int32).toNatClampNeg) (rd (wr (wr (wr (wr M 16 xs1.toNatClampNeg xs0) 16 ((1 : Int32).toNatClampNeg) x3) 16 ((2 : Int32).toNatClampNeg) x4) 16 ((3 : Int32).toNatClampNeg) x2) (54 + x2.toNatClampNeg) ((0 : Int32).toNatClampNeg))) 16 ((5 : Int32).toNatClampNeg) (rd (wr (wr (wr (wr (wr M 16 xs1.toNatClampNeg xs0) 16 ((1 : Int32).toNatClampNeg) x3) 16 ((2 : Int32).toNatClampNeg) x4) 16 ((3 : Int32).toNatClampNeg) x2) 16 ((4 : Int32).toNatClampNeg) (rd (wr (wr (wr (wr M 16 xs1.toNatClampNeg xs0) 16 ((1 : Int32).toNatClampNeg) x3) 16 ((2 : Int32).toNatClampNeg) x4) 16 ((3 : Int32).toNatClampNeg) x2) (54 + x2.toNatClampNeg) ((0 : Int32).toNatClampNeg))) (54 + x2.toNatClampNeg) ((1 : Int32).toNatClampNeg))) 16 ((6 : Int32).toNatClampNeg) (rd (wr (wr (wr (wr (wr (wr M 16 xs1.toNatClampNeg xs0) 16 ((1 : Int32).toNatClampNeg) x3) 16 ((2 : Int32).toNatClampNeg) x4) 16 ((3 : Int32).toNatClampNeg) x2) 16 ((4 : Int32).toNatClampNeg) (rd (wr (wr (wr (wr M 16 xs1.toNatClampNeg xs0) 16 ((1 : Int32).toNatClampNeg) x3) 16 ((2 : Int32).toNatClampNeg) x4) 16 ((3 : Int32).toNatClampNeg) x2) (54 + x2.toNatClampNeg) ((0 : Int32).toNatClampNeg))) 16 ((5 : Int32).toNatClampNeg) (rd (wr (wr (wr (wr (wr M 16 xs1.toNatClampNeg xs0) 16 ((1 : Int32).toNatClampNeg) x3) 16 ((2 : Int32).toNatClampNeg) x4) 16 ((3 : Int32).toNatClampNeg) x2) 16 ((4 : Int32).toNatClampNeg) (rd (wr (wr (wr (wr M 16 xs1.toNatClampNeg xs0) 16 ((1 : Int32).toNatClampNeg) x3) 16 ((2 : Int32).toNatClampNeg) x4) 16 ((3 : Int32).toNatClampNeg) x2) (54 + x2.toNatClampNeg) ((0 : Int32).toNatClampNeg))) (54 + x2.toNatClampNeg) ((1 : Int32).toNatClampNeg))) 6 ((rd (wr (wr (wr (wr (wr (wr M 16 xs1.toNatClampNeg xs0) 16 ((1 : Int32).toNatClampNeg) x3) 16 ((2 : Int32).toNatClampNeg) x4) 16 ((3 : Int32).toNatClampNeg) x2) 16 ((4 : Int32).toNatClampNeg) (rd (wr (wr (wr (wr M 16 xs1.toNatClampNeg xs0) 16 ((1 : Int32).toNatClampNeg) x3) 16 ((2 : Int32).toNatClampNeg) x4) 16 ((3 : Int32).toNatClampNeg) x2) (54 + x2.toNatClampNeg) ((0 : Int32).toNatClampNeg))) 16 ((5 : Int32).toNatClampNeg) (rd (wr (wr (wr (wr (wr M 16 xs1.toNatClampNeg xs0) 16 ((1 : Int32).toNatClampNeg) x3) 16 ((2 : Int32).toNatClampNeg) x4) 16 ((3 : Int32).toNatClampNeg) x2) 16 ((4 : Int32).toNatClampNeg) (rd (wr (wr (wr (wr M 16 xs1.toNatClampNeg xs0) 16 ((1 : Int32).toNatClampNeg) x3) 16 ((2 : Int32).toNatClampNeg) x4) 16 ((3 : Int32).toNatClampNeg) x2) (54 + x2.toNatClampNeg) ((0 : Int32).toNatClampNeg))) (54 + x2.toNatClampNeg) ((1 : Int32).toNatClampNeg))) (54 + x2.toNatClampNeg) ((1 : Int32).toNatClampNeg)).toNatClampNeg))) 16 ((7 : Int32).toNatClampNeg) (rd (wr (wr (wr (wr (wr (wr (wr M 16 xs1.toNatClampNeg xs0) 16 ((1 : Int32).toNatClampNeg) x3) 16 ((2 : Int32).toNatClampNeg) x4) 16 ((3 : Int32).toNatClampNeg) x2) 16 ((4 : Int32).toNatClampNeg) (rd (wr (wr (wr (wr M 16 xs1.toNatClampNeg xs0) 16 ((1 : Int32).toNatClampNeg) x3) 16 ((2 : Int32).toNatClampNeg) x4) 16 ((3 : Int32).toNatClampNeg) x2) (54 + x2.toNatClampNeg) ((0 : Int32).toNatClampNeg))) 16 ((5 : Int32).toNatClampNeg) (rd (wr (wr (wr (wr (wr M 16 xs1.toNatClampNeg xs0) 16 ((1 : Int32).toNatClampNeg) x3) 16 ((2 : Int32).toNatClampNeg) x4) 16 ((3 : Int32).toNatClampNeg) x2) 16 ((4 : Int32).toNatClampNeg) (rd (wr (wr (wr (wr M 16 xs1.toNatClampNeg xs0) 16 ((1 : Int32).toNatClampNeg) x3) 16 ((2 : Int32).toNatClampNeg) x4) 16 ((3 : Int32).toNatClampNeg) x2) (54 + x2.toNatClampNeg) ((0 : Int32).toNatClampNeg))) (54 + x2.toNatClampNeg) ((1 : Int32).toNatClampNeg))) 16 ((6 : Int32).toNatClampNeg) (rd (wr (wr (wr (wr (wr (wr M 16 xs1.toNatClampNeg xs0) 16 ((1 : Int32).toNatClampNeg) x3) 16 ((2 : Int32).toNatClampNeg) x4) 16 ((3 : Int32).toNatClampNeg) x2) 16 ((4 : Int32).toNatClampNeg) (rd (wr (wr (wr (wr M 16 xs1.toNatClampNeg xs0) 16 ((1 : Int32).toNatClampNeg) x3) 16 ((2 : Int32).toNatClampNeg) x4) 16 ((3 : Int32).toNatClampNeg) x2) (54 + x2.toNatClampNeg) ((0 : Int32).toNatClampNeg))) 16 ((5 : Int32).toNatClampNeg) (rd (wr (wr (wr (wr (wr M 16 xs1.toNatClampNeg xs0) 16 ((1 : Int32).toNatClampNeg) x3) 16 ((2 : Int32).toNatClampNeg) x4) 16 ((3 : Int32).toNatClampNeg) x2) 16 ((4 : Int32).toNatClampNeg) (rd (wr (wr (wr (wr M 16 xs1.toNatClampNeg xs0) 16 ((1 : Int32).toNatClampNeg) x3) 16 ((2 : Int32).toNatClampNeg) x4) 16 ((3 : Int32).toNatClampNeg) x2) (54 + x2.toNatClampNeg) ((0 : Int32).toNatClampNeg))) (54 + x2.toNatClampNeg) ((1 : Int32).toNatClampNeg))) 6 ((rd (wr (wr (wr (wr (wr (wr M 16 xs1.toNatClampNeg xs0) 16 ((1 : Int32).toNatClampNeg) x3) 16 ((2 : Int32).toNatClampNeg) x4) 16 ((3 : Int32).toNatClampNeg) x2) 16 ((4 : Int32).toNatClampNeg) (rd (wr (wr (wr (wr M 16 xs1.toNatClampNeg xs0) 16 ((1 : Int32).toNatClampNeg) x3) 16 ((2 : Int32).toNatClampNeg) x4) 16 ((3 : Int32).toNatClampNeg) x2) (54 + x2.toNatClampNeg) ((0 : Int32).toNatClampNeg))) 16 ((5 : Int32).toNatClampNeg) (rd (wr (wr (wr (wr (wr M 16 xs1.toNatClampNeg xs0) 16 ((1 : Int32).toNatClampNeg) x3) 16 ((2 : Int32).toNatClampNeg) x4) 16 ((3 : Int32).toNatClampNeg) x2) 16 ((4 : Int32).toNatClampNeg) (rd (wr (wr (wr (wr M 16 xs1.toNatClampNeg xs0) 16 ((1 : Int32).toNatClampNeg) x3) 16 ((2 : Int32).toNatClampNeg) x4) 16 ((3 : Int32).toNatClampNeg) x2) (54 + x2.toNatClampNeg) ((0 : Int32).toNatClampNeg))) (54 + x2.toNatClampNeg) ((1 : Int32).toNatClampNeg))) (54 + x2.toNatClampNeg) ((1 : Int32).toNatClampNeg)).toNatClampNeg))) 20 ((30 + x2).toNatClampNeg)))).2)
def P_12_isLawful_33 (x2 : Int32) (x3 : Int32) (x4 : Int32) (xs0 : Int32) (xs1 : Int32) (M : Mem) : Prop := (vp_in xs1 8) ∧ (vp_in x2 24) ∧ (vp_in (rd (wr (wr (wr (wr (wr (wr M 16 xs1.toNatClampNeg xs0) 16 ((1 : Int32).toNatClampNeg) x3) 16 ((2 : Int32).toNatClampNeg) x4) 16 ((3 : Int32).toNatClampNeg) x2) 16 ((4 : Int32).toNatClampNeg) (rd (wr (wr (wr (wr M 16 xs1.toNatClampNeg xs0) 16 ((1 : Int32).toNatClampNeg) x3) 16 ((2 : Int32).toNatClampNeg) x4) 16 ((3 : Int32).toNatClampNeg) x2) (54 + x2.toNatClampNeg) ((0 : Int32).toNatClampNeg))) 16 ((5 : Int32).toNatClampNeg) (rd (wr (wr (wr (wr (wr M 16 xs1.toNatClampNeg xs0) 16 ((1 : Int32).toNatClampNeg) x3) 16 ((2 : Int32).toNatClampNeg) x4) 16 ((3 : Int32).toNatClampNeg) x2) 16 ((4 : Int32).toNatClampNeg) (rd (wr (wr (wr (wr M 16 xs1.toNatClampNeg xs0) 16 ((1 : Int32).toNatClampNeg) x3) 16 ((2 : Int32).toNatClampNeg) x4) 16 ((3 : Int32).toNatClampNeg) x2) (54 + x2.toNatClampNeg) ((0 : Int32).toNatClampNeg))) (54 + x2.toNatClampNeg) ((1 : Int32).toNatClampNeg))) (54 + x2.toNatClampNeg) ((1 : Int32).toNatClampNeg)) 10) ∧ (vp_in (30 + x2) 56) ∧ ((P_12_byLaw_0 (wr (wr (wr (wr (wr (wr (wr (wr M 16 xs1.toNatClampNeg xs0) 16 ((1 : Int32).toNatClampNeg) x3) 16 ((2 : Int32).toNatClampNeg) x4) 16 ((3 : Int32).toNatClampNeg) x2) 16 ((4 : Int32).toNatClampNeg) (rd (wr (wr (wr (wr M 16 xs1.toNatClampNeg xs0) 16 ((1 : Int32).toNatClampNeg) x3) 16 ((2 : Int32).toNatClampNeg) x4) 16 ((3 : Int32).toNatClampNeg) x2) (54 + x2.toNatClampNeg) ((0 : Int32).toNatClampNeg))) 16 ((5 : Int32).toNatClampNeg) (rd (wr (wr (wr (wr (wr M 16 xs1.toNatClampNeg xs0) 16 ((1 : Int32).toNatClampNeg) x3) 16 ((2 : Int32).toNatClampNeg) x4) 16 ((3 : Int32).toNatClampNeg) x2) 16 ((4 : Int32).toNatClampNeg) (rd (wr (wr (wr (wr M 16 xs1.toNatClampNeg xs0) 16 ((1 : Int32).toNatClampNeg) x3) 16 ((2 : Int32).toNatClampNeg) x4) 16 ((3 : Int32).toNatClampNeg) x2) (54 + x2.toNatClampNeg) ((0 : Int32).toNatClampNeg))) (54 + x2.toNatClampNeg) ((1 : Int32).toNatClampNeg))) 16 ((6 : Int32).toNatClampNeg) (rd (wr (wr (wr (wr (wr (wr M 16 xs1.toNatClampNeg xs0) 16 ((1 : Int32).toNatClampNeg) x3) 16 ((2 : Int32).toNatClampNeg) x4) 16 ((3 : Int32).toNatClampNeg) x2) 16 ((4 : Int32).toNatClampNeg) (rd (wr (wr (wr (wr M 16 xs1.toNatClampNeg xs0) 16 ((1 : Int32).toNatClampNeg) x3) 16 ((2 : Int32).toNatClampNeg) x4) 16 ((3 : Int32).toNatClampNeg) x2) (54 + x2.toNatClampNeg) ((0 : Int32).toNatClampNeg))) 16 ((5 : Int32).toNatClampNeg) (rd (wr (wr (wr (wr (wr M 16 xs1.toNatClampNeg xs0) 16 ((1 : Int32).toNatClampNeg) x3) 16 ((2 : Int32).toNatClampNeg) x4) 16 ((3 : Int32).toNatClampNeg) x2) 16 ((4 : Int32).toNatClampNeg) (rd (wr (wr (wr (wr M 16 xs1.toNatClampNeg xs0) 16 ((1 : Int32).toNatClampNeg) x3) 16 ((2 : Int32).toNatClampNeg) x4) 16 ((3 : Int32).toNatClampNeg) x2) (54 + x2.toNatClampNeg) ((0 : Int32).toNatClampNeg))) (54 + x2.toNatClampNeg) ((1 : Int32).toNatClampNeg))) 6 ((rd (wr (wr (wr (wr (wr (wr M 16 xs1.toNatClampNeg xs0) 16 ((1 : Int32).toNatClampNeg) x3) 16 ((2 : Int32).toNatClampNeg) x4) 16 ((3 : Int32).toNatClampNeg) x2) 16 ((4 : Int32).toNatClampNeg) (rd (wr (wr (wr (wr M 16 xs1.toNatClampNeg xs0) 16 ((1 : Int32).toNatClampNeg) x3) 16 ((2 : Int32).toNatClampNeg) x4) 16 ((3 : Int32).toNatClampNeg) x2) (54 + x2.toNatClampNeg) ((0 : Int32).toNatClampNeg))) 16 ((5 : Int32).toNatClampNeg) (rd (wr (wr (wr (wr (wr M 16 xs1.toNatClampNeg xs0) 16 ((1 : Int32).toNatClampNeg) x3) 16 ((2 : Int32).toNatClampNeg) x4) 16 ((3 : Int32).toNatClampNeg) x2) 16 ((4 : Int32).toNatClampNeg) (rd (wr (wr (wr (wr M 16 xs1.toNatClampNeg xs0) 16 ((1 : Int32).toNatClampNeg) x3) 16 ((2 : Int32).toNatClampNeg) x4) 16 ((3 : Int32).toNatClampNeg) x2) (54 + x2.toNatClampNeg) ((0 : Int32).toNatClampNeg))) (54 + x2.toNatClampNeg) ((1 : Int32).toNatClampNeg))) (54 + x2.toNatClampNeg) ((1 : Int32).toNatClampNeg)).toNatClampNeg))) 16 ((7 : Int32).toNatClampNeg) (rd (wr (wr (wr (wr (wr (wr (wr M 16 xs1.toNatClampNeg xs0) 16 ((1 : Int32).toNatClampNeg) x3) 16 ((2 : Int32).toNatClampNeg) x4) 16 ((3 : Int32).toNatClampNeg) x2) 16 ((4 : Int32).toNatClampNeg) (rd (wr (wr (wr (wr M 16 xs1.toNatClampNeg xs0) 16 ((1 : Int32).toNatClampNeg) x3) 16 ((2 : Int32).toNatClampNeg) x4) 16 ((3 : Int32).toNatClampNeg) x2) (54 + x2.toNatClampNeg) ((0 : Int32).toNatClampNeg))) 16 ((5 : Int32).toNatClampNeg) (rd (wr (wr (wr (wr (wr M 16 xs1.toNatClampNeg xs0) 16 ((1 : Int32).toNatClampNeg) x3) 16 ((2 : Int32).toNatClampNeg) x4) 16 ((3 : Int32).toNatClampNeg) x2) 16 ((4 : Int32).toNatClampNeg) (rd (wr (wr (wr (wr M 16 xs1.toNatClampNeg xs0) 16 ((1 : Int32).toNatClampNeg) x3) 16 ((2 : Int32).toNatClampNeg) x4) 16 ((3 : Int32).toNatClampNeg) x2) (54 + x2.toNatClampNeg) ((0 : Int32).toNatClampNeg))) (54 + x2.toNatClampNeg) ((1 : Int32).toNatClampNeg))) 16 ((6 : Int32).toNatClampNeg) (rd (wr (wr (wr (wr (wr (wr M 16 xs1.toNatClampNeg xs0) 16 ((1 : Int32).toNatClampNeg) x3) 16 ((2 : Int32).toNatClampNeg) x4) 16 ((3 : Int32).toNatClampNeg) x2) 16 ((4 : Int32).toNatClampNeg) (rd (wr (wr (wr (wr M 16 xs1.toNatClampNeg xs0) 16 ((1 : Int32).toNatClampNeg) x3) 16 ((2 : Int32).toNatClampNeg) x4) 16 ((3 : Int32).toNatClampNeg) x2) (54 + x2.toNatClampNeg) ((0 : Int32).toNatClampNeg))) 16 ((5 : Int32).toNatClampNeg) (rd (wr (wr (wr (wr (wr M 16 xs1.toNatClampNeg xs0) 16 ((1 : Int32).toNatClampNeg) x3) 16 ((2 : Int32).toNatClampNeg) x4) 16 ((3 : Int32).toNatClampNeg) x2) 16 ((4 : Int32).toNatClampNeg) (rd (wr (wr (wr (wr M 16 xs1.toNatClampNeg xs0) 16 ((1 : Int32).toNatClampNeg) x3) 16 ((2 : Int32).toNatClampNeg) x4) 16 ((3 : Int32).toNatClampNeg) x2) (54 + x2.toNatClampNeg) ((0 : Int32).toNatClampNeg))) (54 + x2.toNatClampNeg) ((1 : Int32).toNatClampNeg))) 6 ((rd (wr (wr (wr (wr (wr (wr M 16 xs1.toNatClampNeg xs0) 16 ((1 : Int32).toNatClampNeg) x3) 16 ((2 : Int32).toNatClampNeg) x4) 16 ((3 : Int32).toNatClampNeg) x2) 16 ((4 : Int32).toNatClampNeg) (rd (wr (wr (wr (wr M 16 xs1.toNatClampNeg xs0) 16 ((1 : Int32).toNatClampNeg) x3) 16 ((2 : Int32).toNatClampNeg) x4) 16 ((3 : Int32).toNatClampNeg) x2) (54 + x2.toNatClampNeg) ((0 : Int32).toNatClampNeg))) 16 ((5 : Int32).toNatClampNeg) (rd (wr (wr (wr (wr (wr M 16 xs1.toNatClampNeg xs0) 16 ((1 : Int32).toNatClampNeg) x3) 16 ((2 : Int32).toNatClampNeg) x4) 16 ((3 : Int32).toNatClampNeg) x2) 16 ((4 : Int32).toNatClampNeg) (rd (wr (wr (wr (wr M 16 xs1.toNatClampNeg xs0) 16 ((1 : Int32).toNatClampNeg) x3) 16 ((2 : Int32).toNatClampNeg) x4) 16 ((3 : Int32).toNatClampNeg) x2) (54 + x2.toNatClampNeg) ((0 : Int32).toNatClampNeg))) (54 + x2.toNatClampNeg) ((1 : Int32).toNatClampNeg))) (54 + x2.toNatClampNeg) ((1 : Int32).toNatClampNeg)).toNatClampNeg))) 20 ((30 + x2).toNatClampNeg)))))
theorem T_12_isLawful_33 {g : Gl} (x2 : Int32) (x3 : Int32) (x4 : Int32) (xs0 : Int32) (xs1 : Int32) (M : Mem) (hp : P_12_isLawful_33 x2 x3 x4 xs0 xs1 M) : Rn g 3 m12_isLawful 33 [some (.ref 0), some (.ref 20), some (.int x2), some (.int x3), some (.int x4)] [.int xs0, .int xs1, .ref 16] M (some (.int (F_12_isLawful_33 x2 x3 x4 xs0 xs1 M).1)) ((F_12_isLawful_33 x2 x3 x4 xs0 xs1 M).2) := by
  rw [F_12_isLawful_33]
  rw [P_12_isLawful_33] at hp
  obtain ⟨p0, p1, p2, p3, hp⟩ := hp
  have hc := hp
  refine b12_isLawful_33 p0 (vpl (by decide)) (vpl (by decide)) (vpl (by decide)) p1 (vpl (by decide)) (vpl (by decide)) (vpl (by decide)) (vpl (by decide)) p2 (vpl (by decide)) p3 (vpl (by decide)) (C_12_byLaw  (wr (wr (wr (wr (wr (wr (wr (wr M 16 xs1.toNatClampNeg xs0) 16 ((1 : Int32).toNatClampNeg) x3) 16 ((2 : Int32).toNatClampNeg) x4) 16 ((3 : Int32).toNatClampNeg) x2) 16 ((4 : Int32).toNatClampNeg) (rd (wr (wr (wr (wr M 16 xs1.toNatClampNeg xs0) 16 ((1 : Int32).toNatClampNeg) x3) 16 ((2 : Int32).toNatClampNeg) x4) 16 ((3 : Int32).toNatClampNeg) x2) (54 + x2.toNatClampNeg) ((0 : Int32).toNatClampNeg))) 16 ((5 : Int32).toNatClampNeg) (rd (wr (wr (wr (wr (wr M 16 xs1.toNatClampNeg xs0) 16 ((1 : Int32).toNatClampNeg) x3) 16 ((2 : Int32).toNatClampNeg) x4) 16 ((3 : Int32).toNatClampNeg) x2) 16 ((4 : Int32).toNatClampNeg) (rd (wr (wr (wr (wr M 16 xs1.toNatClampNeg xs0) 16 ((1 : Int32).toNatClampNeg) x3) 16 ((2 : Int32).toNatClampNeg) x4) 16 ((3 : Int32).toNatClampNeg) x2) (54 + x2.toNatClampNeg) ((0 : Int32).toNatClampNeg))) (54 + x2.toNatClampNeg) ((1 : Int32).toNatClampNeg))) 16 ((6 : Int32).toNatClampNeg) (rd (wr (wr (wr (wr (wr (wr M 16 xs1.toNatClampNeg xs0) 16 ((1 : Int32).toNatClampNeg) x3) 16 ((2 : Int32).toNatClampNeg) x4) 16 ((3 : Int32).toNatClampNeg) x2) 16 ((4 : Int32).toNatClampNeg) (rd (wr (wr (wr (wr M 16 xs1.toNatClampNeg xs0) 16 ((1 : Int32).toNatClampNeg) x3) 16 ((2 : Int32).toNatClampNeg) x4) 16 ((3 : Int32).toNatClampNeg) x2) (54 + x2.toNatClampNeg) ((0 : Int32).toNatClampNeg))) 16 ((5 : Int32).toNatClampNeg) (rd (wr (wr (wr (wr (wr M 16 xs1.toNatClampNeg xs0) 16 ((1 : Int32).toNatClampNeg) x3) 16 ((2 : Int32).toNatClampNeg) x4) 16 ((3 : Int32).toNatClampNeg) x2) 16 ((4 : Int32).toNatClampNeg) (rd (wr (wr (wr (wr M 16 xs1.toNatClampNeg xs0) 16 ((1 : Int32).toNatClampNeg) x3) 16 ((2 : Int32).toNatClampNeg) x4) 16 ((3 : Int32).toNatClampNeg) x2) (54 + x2.toNatClampNeg) ((0 : Int32).toNatClampNeg))) (54 + x2.toNatClampNeg) ((1 : Int32).toNatClampNeg))) 6 ((rd (wr (wr (wr (wr (wr (wr M 16 xs1.toNatClampNeg xs0) 16 ((1 : Int32).toNatClampNeg) x3) 16 ((2 : Int32).toNatClampNeg) x4) 16 ((3 : Int32).toNatClampNeg) x2) 16 ((4 : Int32).toNatClampNeg) (rd (wr (wr (wr (wr M 16 xs1.toNatClampNeg xs0) 16 ((1 : Int32).toNatClampNeg) x3) 16 ((2 : Int32).toNatClampNeg) x4) 16 ((3 : Int32).toNatClampNeg) x2) (54 + x2.toNatClampNeg) ((0 : Int32).toNatClampNeg))) 16 ((5 : Int32).toNatClampNeg) (rd (wr (wr (wr (wr (wr M 16 xs1.toNatClampNeg xs0) 16 ((1 : Int32).toNatClampNeg) x3) 16 ((2 : Int32).toNatClampNeg) x4) 16 ((3 : Int32).toNatClampNeg) x2) 16 ((4 : Int32).toNatClampNeg) (rd (wr (wr (wr (wr M 16 xs1.toNatClampNeg xs0) 16 ((1 : Int32).toNatClampNeg) x3) 16 ((2 : Int32).toNatClampNeg) x4) 16 ((3 : Int32).toNatClampNeg) x2) (54 + x2.toNatClampNeg) ((0 : Int32).toNatClampNeg))) (54 + x2.toNatClampNeg) ((1 : Int32).toNatClampNeg))) (54 + x2.toNatClampNeg) ((1 : Int32).toNatClampNeg)).toNatClampNeg))) 16 ((7 : Int32).toNatClampNeg) (rd (wr (wr (wr (wr (wr (wr (wr M 16 xs1.toNatClampNeg xs0) 16 ((1 : Int32).toNatClampNeg) x3) 16 ((2 : Int32).toNatClampNeg) x4) 16 ((3 : Int32).toNatClampNeg) x2) 16 ((4 : Int32).toNatClampNeg) (rd (wr (wr (wr (wr M 16 xs1.toNatClampNeg xs0) 16 ((1 : Int32).toNatClampNeg) x3) 16 ((2 : Int32).toNatClampNeg) x4) 16 ((3 : Int32).toNatClampNeg) x2) (54 + x2.toNatClampNeg) ((0 : Int32).toNatClampNeg))) 16 ((5 : Int32).toNatClampNeg) (rd (wr (wr (wr (wr (wr M 16 xs1.toNatClampNeg xs0) 16 ((1 : Int32).toNatClampNeg) x3) 16 ((2 : Int32).toNatClampNeg) x4) 16 ((3 : Int32).toNatClampNeg) x2) 16 ((4 : Int32).toNatClampNeg) (rd (wr (wr (wr (wr M 16 xs1.toNatClampNeg xs0) 16 ((1 : Int32).toNatClampNeg) x3) 16 ((2 : Int32).toNatClampNeg) x4) 16 ((3 : Int32).toNatClampNeg) x2) (54 + x2.toNatClampNeg) ((0 : Int32).toNatClampNeg))) (54 + x2.toNatClampNeg) ((1 : Int32).toNatClampNeg))) 16 ((6 : Int32).toNatClampNeg) (rd (wr (wr (wr (wr (wr (wr M 16 xs1.toNatClampNeg xs0) 16 ((1 : Int32).toNatClampNeg) x3) 16 ((2 : Int32).toNatClampNeg) x4) 16 ((3 : Int32).toNatClampNeg) x2) 16 ((4 : Int32).toNatClampNeg) (rd (wr (wr (wr (wr M 16 xs1.toNatClampNeg xs0) 16 ((1 : Int32).toNatClampNeg) x3) 16 ((2 : Int32).toNatClampNeg) x4) 16 ((3 : Int32).toNatClampNeg) x2) (54 + x2.toNatClampNeg) ((0 : Int32).toNatClampNeg))) 16 ((5 : Int32).toNatClampNeg) (rd (wr (wr (wr (wr (wr M 16 xs1.toNatClampNeg xs0) 16 ((1 : Int32).toNatClampNeg) x3) 16 ((2 : Int32).toNatClampNeg) x4) 16 ((3 : Int32).toNatClampNeg) x2) 16 ((4 : Int32).toNatClampNeg) (rd (wr (wr (wr (wr M 16 xs1.toNatClampNeg xs0) 16 ((1 : Int32).toNatClampNeg) x3) 16 ((2 : Int32).toNatClampNeg) x4) 16 ((3 : Int32).toNatClampNeg) x2) (54 + x2.toNatClampNeg) ((0 : Int32).toNatClampNeg))) (54 + x2.toNatClampNeg) ((1 : Int32).toNatClampNeg))) 6 ((rd (wr (wr (wr (wr (wr (wr M 16 xs1.toNatClampNeg xs0) 16 ((1 : Int32).toNatClampNeg) x3) 16 ((2 : Int32).toNatClampNeg) x4) 16 ((3 : Int32).toNatClampNeg) x2) 16 ((4 : Int32).toNatClampNeg) (rd (wr (wr (wr (wr M 16 xs1.toNatClampNeg xs0) 16 ((1 : Int32).toNatClampNeg) x3) 16 ((2 : Int32).toNatClampNeg) x4) 16 ((3 : Int32).toNatClampNeg) x2) (54 + x2.toNatClampNeg) ((0 : Int32).toNatClampNeg))) 16 ((5 : Int32).toNatClampNeg) (rd (wr (wr (wr (wr (wr M 16 xs1.toNatClampNeg xs0) 16 ((1 : Int32).toNatClampNeg) x3) 16 ((2 : Int32).toNatClampNeg) x4) 16 ((3 : Int32).toNatClampNeg) x2) 16 ((4 : Int32).toNatClampNeg) (rd (wr (wr (wr (wr M 16 xs1.toNatClampNeg xs0) 16 ((1 : Int32).toNatClampNeg) x3) 16 ((2 : Int32).toNatClampNeg) x4) 16 ((3 : Int32).toNatClampNeg) x2) (54 + x2.toNatClampNeg) ((0 : Int32).toNatClampNeg))) (54 + x2.toNatClampNeg) ((1 : Int32).toNatClampNeg))) (54 + x2.toNatClampNeg) ((1 : Int32).toNatClampNeg)).toNatClampNeg))) 20 ((30 + x2).toNatClampNeg))) hc) (Nat.le_of_ble_eq_true rfl) ?_
  exact T_12_isLawful_121 ((F_12_byLaw_0 (wr (wr (wr (wr (wr (wr (wr (wr M 16 xs1.toNatClampNeg xs0) 16 ((1 : Int32).toNatClampNeg) x3) 16 ((2 : Int32).toNatClampNeg) x4) 16 ((3 : Int32).toNatClampNeg) x2) 16 ((4 : Int32).toNatClampNeg) (rd (wr (wr (wr (wr M 16 xs1.toNatClampNeg xs0) 16 ((1 : Int32).toNatClampNeg) x3) 16 ((2 : Int32).toNatClampNeg) x4) 16 ((3 : Int32).toNatClampNeg) x2) (54 + x2.toNatClampNeg) ((0 : Int32).toNatClampNeg))) 16 ((5 : Int32).toNatClampNeg) (rd (wr (wr (wr (wr (wr M 16 xs1.toNatClampNeg xs0) 16 ((1 : Int32).toNatClampNeg) x3) 16 ((2 : Int32).toNatClampNeg) x4) 16 ((3 : Int32).toNatClampNeg) x2) 16 ((4 : Int32).toNatClampNeg) (rd (wr (wr (wr (wr M 16 xs1.toNatClampNeg xs0) 16 ((1 : Int32).toNatClampNeg) x3) 16 ((2 : Int32).toNatClampNeg) x4) 16 ((3 : Int32).toNatClampNeg) x2) (54 + x2.toNatClampNeg) ((0 : Int32).toNatClampNeg))) (54 + x2.toNatClampNeg) ((1 : Int32).toNatClampNeg))) 16 ((6 : Int32).toNatClampNeg) (rd (wr (wr (wr (wr (wr (wr M 16 xs1.toNatClampNeg xs0) 16 ((1 : Int32).toNatClampNeg) x3) 16 ((2 : Int32).toNatClampNeg) x4) 16 ((3 : Int32).toNatClampNeg) x2) 16 ((4 : Int32).toNatClampNeg) (rd (wr (wr (wr (wr M 16 xs1.toNatClampNeg xs0) 16 ((1 : Int32).toNatClampNeg) x3) 16 ((2 : Int32).toNatClampNeg) x4) 16 ((3 : Int32).toNatClampNeg) x2) (54 + x2.toNatClampNeg) ((0 : Int32).toNatClampNeg))) 16 ((5 : Int32).toNatClampNeg) (rd (wr (wr (wr (wr (wr M 16 xs1.toNatClampNeg xs0) 16 ((1 : Int32).toNatClampNeg) x3) 16 ((2 : Int32).toNatClampNeg) x4) 16 ((3 : Int32).toNatClampNeg) x2) 16 ((4 : Int32).toNatClampNeg) (rd (wr (wr (wr (wr M 16 xs1.toNatClampNeg xs0) 16 ((1 : Int32).toNatClampNeg) x3) 16 ((2 : Int32).toNatClampNeg) x4) 16 ((3 : Int32).toNatClampNeg) x2) (54 + x2.toNatClampNeg) ((0 : Int32).toNatClampNeg))) (54 + x2.toNatClampNeg) ((1 : Int32).toNatClampNeg))) 6 ((rd (wr (wr (wr (wr (wr (wr M 16 xs1.toNatClampNeg xs0) 16 ((1 : Int32).toNatClampNeg) x3) 16 ((2 : Int32).toNatClampNeg) x4) 16 ((3 : Int32).toNatClampNeg) x2) 16 ((4 : Int32).toNatClampNeg) (rd (wr (wr (wr (wr M 16 xs1.toNatClampNeg xs0) 16 ((1 : Int32).toNatClampNeg) x3) 16 ((2 : Int32).toNatClampNeg) x4) 16 ((3 : Int32).toNatClampNeg) x2) (54 + x2.toNatClampNeg) ((0 : Int32).toNatClampNeg))) 16 ((5 : Int32).toNatClampNeg) (rd (wr (wr (wr (wr (wr M 16 xs1.toNatClampNeg xs0) 16 ((1 : Int32).toNatClampNeg) x3) 16 ((2 : Int32).toNatClampNeg) x4) 16 ((3 : Int32).toNatClampNeg) x2) 16 ((4 : Int32).toNatClampNeg) (rd (wr (wr (wr (wr M 16 xs1.toNatClampNeg xs0) 16 ((1 : Int32).toNatClampNeg) x3) 16 ((2 : Int32).toNatClampNeg) x4) 16 ((3 : Int32).toNatClampNeg) x2) (54 + x2.toNatClampNeg) ((0 : Int32).toNatClampNeg))) (54 + x2.toNatClampNeg) ((1 : Int32).toNatClampNeg))) (54 + x2.toNatClampNeg) ((1 : Int32).toNatClampNeg)).toNatClampNeg))) 16 ((7 : Int32).toNatClampNeg) (rd (wr (wr (wr (wr (wr (wr (wr M 16 xs1.toNatClampNeg xs0) 16 ((1 : Int32).toNatClampNeg) x3) 16 ((2 : Int32).toNatClampNeg) x4) 16 ((3 : Int32).toNatClampNeg) x2) 16 ((4 : Int32).toNatClampNeg) (rd (wr (wr (wr (wr M 16 xs1.toNatClampNeg xs0) 16 ((1 : Int32).toNatClampNeg) x3) 16 ((2 : Int32).toNatClampNeg) x4) 16 ((3 : Int32).toNatClampNeg) x2) (54 + x2.toNatClampNeg) ((0 : Int32).toNatClampNeg))) 16 ((5 : Int32).toNatClampNeg) (rd (wr (wr (wr (wr (wr M 16 xs1.toNatClampNeg xs0) 16 ((1 : Int32).toNatClampNeg) x3) 16 ((2 : Int32).toNatClampNeg) x4) 16 ((3 : Int32).toNatClampNeg) x2) 16 ((4 : Int32).toNatClampNeg) (rd (wr (wr (wr (wr M 16 xs1.toNatClampNeg xs0) 16 ((1 : Int32).toNatClampNeg) x3) 16 ((2 : Int32).toNatClampNeg) x4) 16 ((3 : Int32).toNatClampNeg) x2) (54 + x2.toNatClampNeg) ((0 : Int32).toNatClampNeg))) (54 + x2.toNatClampNeg) ((1 : Int32).toNatClampNeg))) 16 ((6 : Int32).toNatClampNeg) (rd (wr (wr (wr (wr (wr (wr M 16 xs1.toNatClampNeg xs0) 16 ((1 : Int32).toNatClampNeg) x3) 16 ((2 : Int32).toNatClampNeg) x4) 16 ((3 : Int32).toNatClampNeg) x2) 16 ((4 : Int32).toNatClampNeg) (rd (wr (wr (wr (wr M 16 xs1.toNatClampNeg xs0) 16 ((1 : Int32).toNatClampNeg) x3) 16 ((2 : Int32).toNatClampNeg) x4) 16 ((3 : Int32).toNatClampNeg) x2) (54 + x2.toNatClampNeg) ((0 : Int32).toNatClampNeg))) 16 ((5 : Int32).toNatClampNeg) (rd (wr (wr (wr (wr (wr M 16 xs1.toNatClampNeg xs0) 16 ((1 : Int32).toNatClampNeg) x3) 16 ((2 : Int32).toNatClampNeg) x4) 16 ((3 : Int32).toNatClampNeg) x2) 16 ((4 : Int32).toNatClampNeg) (rd (wr (wr (wr (wr M 16 xs1.toNatClampNeg xs0) 16 ((1 : Int32).toNatClampNeg) x3) 16 ((2 : Int32).toNatClampNeg) x4) 16 ((3 : Int32).toNatClampNeg) x2) (54 + x2.toNatClampNeg) ((0 : Int32).toNatClampNeg))) (54 + x2.toNatClampNeg) ((1 : Int32).toNatClampNeg))) 6 ((rd (wr (wr (wr (wr (wr (wr M 16 xs1.toNatClampNeg xs0) 16 ((1 : Int32).toNatClampNeg) x3) 16 ((2 : Int32).toNatClampNeg) x4) 16 ((3 : Int32).toNatClampNeg) x2) 16 ((4 : Int32).toNatClampNeg) (rd (wr (wr (wr (wr M 16 xs1.toNatClampNeg xs0) 16 ((1 : Int32).toNatClampNeg) x3) 16 ((2 : Int32).toNatClampNeg) x4) 16 ((3 : Int32).toNatClampNeg) x2) (54 + x2.toNatClampNeg) ((0 : Int32).toNatClampNeg))) 16 ((5 : Int32).toNatClampNeg) (rd (wr (wr (wr (wr (wr M 16 xs1.toNatClampNeg xs0) 16 ((1 : Int32).toNatClampNeg) x3) 16 ((2 : Int32).toNatClampNeg) x4) 16 ((3 : Int32).toNatClampNeg) x2) 16 ((4 : Int32).toNatClampNeg) (rd (wr (wr (wr (wr M 16 xs1.toNatClampNeg xs0) 16 ((1 : Int32).toNatClampNeg) x3) 16 ((2 : Int32).toNatClampNeg) x4) 16 ((3 : Int32).toNatClampNeg) x2) (54 + x2.toNatClampNeg) ((0 : Int32).toNatClampNeg))) (54 + x2.toNatClampNeg) ((1 : Int32).toNatClampNeg))) (54 + x2.toNatClampNeg) ((1 : Int32).toNatClampNeg)).toNatClampNeg))) 20 ((30 + x2).toNatClampNeg)))).1) ((F_12_byLaw_0 (wr (wr (wr (wr (wr (wr (wr (wr M 16 xs1.toNatClampNeg xs0) 16 ((1 : Int32).toNatClampNeg) x3) 16 ((2 : Int32).toNatClampNeg) x4) 16 ((3 : Int32).toNatClampNeg) x2) 16 ((4 : Int32).toNatClampNeg) (rd (wr (wr (wr (wr M 16 xs1.toNatClampNeg xs0) 16 ((1 : Int32).toNatClampNeg) x3) 16 ((2 : Int32).toNatClampNeg) x4) 16 ((3 : Int32).toNatClampNeg) x2) (54 + x2.toNatClampNeg) ((0 : Int32).toNatClampNeg))) 16 ((5 : Int32).toNatClampNeg) (rd (wr (wr (wr (wr (wr M 16 xs1.toNatClampNeg xs0) 16 ((1 : Int32).toNatClampNeg) x3) 16 ((2 : Int32).toNatClampNeg) x4) 16 ((3 : Int32).toNatClampNeg) x2) 16 ((4 : Int32).toNatClampNeg) (rd (wr (wr (wr (wr M 16 xs1.toNatClampNeg xs0) 16 ((1 : Int32).toNatClampNeg) x3) 16 ((2 : Int32).toNatClampNeg) x4) 16 ((3 : Int32).toNatClampNeg) x2) (54 + x2.toNatClampNeg) ((0 : Int32).toNatClampNeg))) (54 + x2.toNatClampNeg) ((1 : Int32).toNatClampNeg))) 16 ((6 : Int32).toNatClampNeg) (rd (wr (wr (wr (wr (wr (wr M 16 xs1.toNatClampNeg xs0) 16 ((1 : Int32).toNatClampNeg) x3) 16 ((2 : Int32).toNatClampNeg) x4) 16 ((3 : Int32).toNatClampNeg) x2) 16 ((4 : Int32).toNatClampNeg) (rd (wr (wr (wr (wr M 16 xs1.toNatClampNeg xs0) 16 ((1 : Int32).toNatClampNeg) x3) 16 ((2 : Int32).toNatClampNeg) x4) 16 ((3 : Int32).toNatClampNeg) x2) (54 + x2.toNatClampNeg) ((0 : Int32).toNatClampNeg))) 16 ((5 : Int32).toNatClampNeg) (rd (wr (wr (wr (wr (wr M 16 xs1.toNatClampNeg xs0) 16 ((1 : Int32).toNatClampNeg) x3) 16 ((2 : Int32).toNatClampNeg) x4) 16 ((3 : Int32).toNatClampNeg) x2) 16 ((4 : Int32).toNatClampNeg) (rd (wr (wr (wr (wr M 16 xs1.toNatClampNeg xs0) 16 ((1 : Int32).toNatClampNeg) x3) 16 ((2 : Int32).toNatClampNeg) x4) 16 ((3 : Int32).toNatClampNeg) x2) (54 + x2.toNatClampNeg) ((0 : Int32).toNatClampNeg))) (54 + x2.toNatClampNeg) ((1 : Int32).toNatClampNeg))) 6 ((rd (wr (wr (wr (wr (wr (wr M 16 xs1.toNatClampNeg xs0) 16 ((1 : Int32).toNatClampNeg) x3) 16 ((2 : Int32).toNatClampNeg) x4) 16 ((3 : Int32).toNatClampNeg) x2) 16 ((4 : Int32).toNatClampNeg) (rd (wr (wr (wr (wr M 16 xs1.toNatClampNeg xs0) 16 ((1 : Int32).toNatClampNeg) x3) 16 ((2 : Int32).toNatClampNeg) x4) 16 ((3 : Int32).toNatClampNeg) x2) (54 + x2.toNatClampNeg) ((0 : Int32).toNatClampNeg))) 16 ((5 : Int32).toNatClampNeg) (rd (wr (wr (wr (wr (wr M 16 xs1.toNatClampNeg xs0) 16 ((1 : Int32).toNatClampNeg) x3) 16 ((2 : Int32).toNatClampNeg) x4) 16 ((3 : Int32).toNatClampNeg) x2) 16 ((4 : Int32).toNatClampNeg) (rd (wr (wr (wr (wr M 16 xs1.toNatClampNeg xs0) 16 ((1 : Int32).toNatClampNeg) x3) 16 ((2 : Int32).toNatClampNeg) x4) 16 ((3 : Int32).toNatClampNeg) x2) (54 + x2.toNatClampNeg) ((0 : Int32).toNatClampNeg))) (54 + x2.toNatClampNeg) ((1 : Int32).toNatClampNeg))) (54 + x2.toNatClampNeg) ((1 : Int32).toNatClampNeg)).toNatClampNeg))) 16 ((7 : Int32).toNatClampNeg) (rd (wr (wr (wr (wr (wr (wr (wr M 16 xs1.toNatClampNeg xs0) 16 ((1 : Int32).toNatClampNeg) x3) 16 ((2 : Int32).toNatClampNeg) x4) 16 ((3 : Int32).toNatClampNeg) x2) 16 ((4 : Int32).toNatClampNeg) (rd (wr (wr (wr (wr M 16 xs1.toNatClampNeg xs0) 16 ((1 : Int32).toNatClampNeg) x3) 16 ((2 : Int32).toNatClampNeg) x4) 16 ((3 : Int32).toNatClampNeg) x2) (54 + x2.toNatClampNeg) ((0 : Int32).toNatClampNeg))) 16 ((5 : Int32).toNatClampNeg) (rd (wr (wr (wr (wr (wr M 16 xs1.toNatClampNeg xs0) 16 ((1 : Int32).toNatClampNeg) x3) 16 ((2 : Int32).toNatClampNeg) x4) 16 ((3 : Int32).toNatClampNeg) x2) 16 ((4 : Int32).toNatClampNeg) (rd (wr (wr (wr (wr M 16 xs1.toNatClampNeg xs0) 16 ((1 : Int32).toNatClampNeg) x3) 16 ((2 : Int32).toNatClampNeg) x4) 16 ((3 : Int32).toNatClampNeg) x2) (54 + x2.toNatClampNeg) ((0 : Int32).toNatClampNeg))) (54 + x2.toNatClampNeg) ((1 : Int32).toNatClampNeg))) 16 ((6 : Int32).toNatClampNeg) (rd (wr (wr (wr (wr (wr (wr M 16 xs1.toNatClampNeg xs0) 16 ((1 : Int32).toNatClampNeg) x3) 16 ((2 : Int32).toNatClampNeg) x4) 16 ((3 : Int32).toNatClampNeg) x2) 16 ((4 : Int32).toNatClampNeg) (rd (wr (wr (wr (wr M 16 xs1.toNatClampNeg xs0) 16 ((1 : Int32).toNatClampNeg) x3) 16 ((2 : Int32).toNatClampNeg) x4) 16 ((3 : Int32).toNatClampNeg) x2) (54 + x2.toNatClampNeg) ((0 : Int32).toNatClampNeg))) 16 ((5 : Int32).toNatClampNeg) (rd (wr (wr (wr (wr (wr M 16 xs1.toNatClampNeg xs0) 16 ((1 : Int32).toNatClampNeg) x3) 16 ((2 : Int32).toNatClampNeg) x4) 16 ((3 : Int32).toNatClampNeg) x2) 16 ((4 : Int32).toNatClampNeg) (rd (wr (wr (wr (wr M 16 xs1.toNatClampNeg xs0) 16 ((1 : Int32).toNatClampNeg) x3) 16 ((2 : Int32).toNatClampNeg) x4) 16 ((3 : Int32).toNatClampNeg) x2) (54 + x2.toNatClampNeg) ((0 : Int32).toNatClampNeg))) (54 + x2.toNatClampNeg) ((1 : Int32).toNatClampNeg))) 6 ((rd (wr (wr (wr (wr (wr (wr M 16 xs1.toNatClampNeg xs0) 16 ((1 : Int32).toNatClampNeg) x3) 16 ((2 : Int32).toNatClampNeg) x4) 16 ((3 : Int32).toNatClampNeg) x2) 16 ((4 : Int32).toNatClampNeg) (rd (wr (wr (wr (wr M 16 xs1.toNatClampNeg xs0) 16 ((1 : Int32).toNatClampNeg) x3) 16 ((2 : Int32).toNatClampNeg) x4) 16 ((3 : Int32).toNatClampNeg) x2) (54 + x2.toNatClampNeg) ((0 : Int32).toNatClampNeg))) 16 ((5 : Int32).toNatClampNeg) (rd (wr (wr (wr (wr (wr M 16 xs1.toNatClampNeg xs0) 16 ((1 : Int32).toNatClampNeg) x3) 16 ((2 : Int32).toNatClampNeg) x4) 16 ((3 : Int32).toNatClampNeg) x2) 16 ((4 : Int32).toNatClampNeg) (rd (wr (wr (wr (wr M 16 xs1.toNatClampNeg xs0) 16 ((1 : Int32).toNatClampNeg) x3) 16 ((2 : Int32).toNatClampNeg) x4) 16 ((3 : Int32).toNatClampNeg) x2) (54 + x2.toNatClampNeg) ((0 : Int32).toNatClampNeg))) (54 + x2.toNatClampNeg) ((1 : Int32).toNatClampNeg))) (54 + x2.toNatClampNeg) ((1 : Int32).toNatClampNeg)).toNatClampNeg))) 20 ((30 + x2).toNatClampNeg)))).2)
def F_12_isLawful_0 (x2 : Int32) (x3 : Int32) (x4 : Int32) (M : Mem) : Int32 × Mem := if (F_12_in_0 M x3 (rd M (54 + x2.toNatClampNeg) ((2 : Int32).toNatClampNeg)) (rd M (54 + x2.toNatClampNeg) ((3 : Int32).toNatClampNeg))) = 0 then (F_12_isLawful_33 x2 x3 x4 0 0 M) else (F_12_isLawful_33 x2 x3 x4 1 0 M)
def P_12_isLawful_0 (x2 : Int32) (x3 : Int32) (x4 : Int32) (M : Mem) : Prop := (vp_in x2 24) ∧ (((((F_12_in_0 M x3 (rd M (54 + x2.toNatClampNeg) ((2 : Int32).toNatClampNeg)) (rd M (54 + x2.toNatClampNeg) ((3 : Int32).toNatClampNeg))) = 0 → (P_12_isLawful_33 x2 x3 x4 0 0 M)) ∧ (¬ (F_12_in_0 M x3 (rd M (54 + x2.toNatClampNeg) ((2 : Int32).toNatClampNeg)) (rd M (54 + x2.toNatClampNeg) ((3 : Int32).toNatClampNeg))) = 0 → (P_12_isLawful_33 x2 x3 x4 1 0 M)))))
theorem T_12_isLawful_0 {g : Gl} (x2 : Int32) (x3 : Int32) (x4 : Int32) (M : Mem) (hp : P_12_isLawful_0 x2 x3 x4 M) : Rn g 3 m12_isLawful 0 [some (.ref 0), some (.ref 20), some (.int x2), some (.int x3), some (.int x4)] [] M (some (.int (F_12_isLawful_0 x2 x3 x4 M).1)) ((F_12_isLawful_0 x2 x3 x4 M).2) := by
  rw [F_12_isLawful_0]
  rw [P_12_isLawful_0] at hp
  obtain ⟨p0, hp⟩ := hp
  refine b12_isLawful_0 p0 (vpl (by decide)) (vpl (by decide)) (C_12_in x3 (rd M (54 + x2.toNatClampNeg) ((2 : Int32).toNatClampNeg)) (rd M (54 + x2.toNatClampNeg) ((3 : Int32).toNatClampNeg)) M) (Nat.le_of_ble_eq_true rfl) ?_
  refine b12_isLawful_25  (fun h => ?_) (fun h => ?_)
  · rw [if_pos h]
    have hp := hp.1 h
    refine b12_isLawful_32  ?_
    exact T_12_isLawful_33 x2 x3 x4 0 0 M hp
  · rw [if_neg h]
    have hp := hp.2 h
    refine b12_isLawful_28  ?_
    exact T_12_isLawful_33 x2 x3 x4 1 0 M hp
theorem C_12_isLawful {g : Gl}  (x2 : Int32) (x3 : Int32) (x4 : Int32) (M : Mem) (hp : P_12_isLawful_0 x2 x3 x4 M) : Ms g 3 m12_isLawful [.ref 0, .ref 20, .int x2, .int x3, .int x4] M (some (.int (F_12_isLawful_0 x2 x3 x4 M).1)) ((F_12_isLawful_0 x2 x3 x4 M).2) := Ms.of okM_m12_isLawful (Nat.le_of_ble_eq_true rfl) (R_wk (lc rfl (lc rfl (lc rfl (lc rfl (lc rfl l0))))) (T_12_isLawful_0 x2 x3 x4 M hp))
def F_12_isOpenBy_24 (M : Mem) : Int32 × Mem := (0, M)
theorem T_12_isOpenBy_24 {g : Gl} (M : Mem)  : Rn g 4 m12_isOpenBy 24 [none, none, none, none, none] [] M (some (.int (F_12_isOpenBy_24 M).1)) ((F_12_isOpenBy_24 M).2) := by
  rw [F_12_isOpenBy_24]
  refine b12_isOpenBy_24  ?_
  exact b12_isOpenBy_25  rfl rfl rfl
def F_12_isOpenBy_17 (xs0 : Int32) (M : Mem) : Int32 × Mem := if xs0 = 0 then (F_12_isOpenBy_24 M) else ((1, M))
theorem T_12_isOpenBy_17 {g : Gl} (xs0 : Int32) (M : Mem)  : Rn g 4 m12_isOpenBy 17 [none, none, none, none, none] [.int xs0] M (some (.int (F_12_isOpenBy_17 xs0 M).1)) ((F_12_isOpenBy_17 xs0 M).2) := by
  rw [F_12_isOpenBy_17]
  refine b12_isOpenBy_17  (fun h => ?_) (fun h => ?_)
  · rw [if_pos h]
    exact T_12_isOpenBy_24 M
  · rw [if_neg h]
    refine b12_isOpenBy_20  ?_
    exact b12_isOpenBy_25  rfl rfl rfl
def F_12_isOpenBy_0 (x2 : Int32) (x3 : Int32) (x4 : Int32) (M : Mem) : Int32 × Mem := if (F_12_isBarred_0 M x2) = 0 then (F_12_isOpenBy_17 ((F_12_isLawful_0 x2 x3 x4 M).1) ((F_12_isLawful_0 x2 x3 x4 M).2)) else (F_12_isOpenBy_24 M)
def P_12_isOpenBy_0 (x2 : Int32) (x3 : Int32) (x4 : Int32) (M : Mem) : Prop := ((P_12_isBarred_0 M x2) ∧ (((¬ (F_12_isBarred_0 M x2) = 0 → True) ∧ ((F_12_isBarred_0 M x2) = 0 → ((P_12_isLawful_0 x2 x3 x4 M))))))
theorem T_12_isOpenBy_0 {g : Gl} (x2 : Int32) (x3 : Int32) (x4 : Int32) (M : Mem) (hp : P_12_isOpenBy_0 x2 x3 x4 M) : Rn g 4 m12_isOpenBy 0 [some (.ref 0), some (.ref 20), some (.int x2), some (.int x3), some (.int x4)] [] M (some (.int (F_12_isOpenBy_0 x2 x3 x4 M).1)) ((F_12_isOpenBy_0 x2 x3 x4 M).2) := by
  rw [F_12_isOpenBy_0]
  rw [P_12_isOpenBy_0] at hp
  obtain ⟨hc, hp⟩ := hp
  refine b12_isOpenBy_0  (C_12_isBarred x2 M hc) (Nat.le_of_ble_eq_true rfl) ?_
  refine b12_isOpenBy_5  (fun h => ?_) (fun h => ?_)
  · rw [if_neg h]
    exact T_12_isOpenBy_24 M
  · rw [if_pos h]
    have hp := hp.2 h
    have hc := hp
    refine b12_isOpenBy_8  (C_12_isLawful x2 x3 x4 M hc) (Nat.le_of_ble_eq_true rfl) ?_
    exact T_12_isOpenBy_17 ((F_12_isLawful_0 x2 x3 x4 M).1) ((F_12_isLawful_0 x2 x3 x4 M).2)
theorem C_12_isOpenBy {g : Gl}  (x2 : Int32) (x3 : Int32) (x4 : Int32) (M : Mem) (hp : P_12_isOpenBy_0 x2 x3 x4 M) : Ms g 4 m12_isOpenBy [.ref 0, .ref 20, .int x2, .int x3, .int x4] M (some (.int (F_12_isOpenBy_0 x2 x3 x4 M).1)) ((F_12_isOpenBy_0 x2 x3 x4 M).2) := Ms.of okM_m12_isOpenBy (Nat.le_of_ble_eq_true rfl) (R_wk (lc rfl (lc rfl (lc rfl (lc rfl (lc rfl l0))))) (T_12_isOpenBy_0 x2 x3 x4 M hp))
def F_12_isOpenIn_14 (xs0 : Int32) (M : Mem) : Int32 × Mem := (xs0, M)
def P_12_isOpenIn_14 (xs0 : Int32) (M : Mem) : Prop := (narrow .boolean (.int xs0) = .int xs0)
theorem T_12_isOpenIn_14 {g : Gl} (xs0 : Int32) (M : Mem) (hp : P_12_isOpenIn_14 xs0 M) : Rn g 5 m12_isOpenIn 14 [none, none, none, none] [.int xs0] M (some (.int (F_12_isOpenIn_14 xs0 M).1)) ((F_12_isOpenIn_14 xs0 M).2) := by
  rw [F_12_isOpenIn_14]
  rw [P_12_isOpenIn_14] at hp
  have p0 := hp
  exact b12_isOpenIn_14  rfl rfl p0
def F_12_isOpenIn_0 (x2 : Int32) (x3 : Int32) (M : Mem) : Int32 × Mem := F_12_isOpenIn_14 ((F_12_isOpenBy_0 x2 (x3 - x3 / 24 * 24) (x3 / 24) M).1) ((F_12_isOpenBy_0 x2 (x3 - x3 / 24 * 24) (x3 / 24) M).2)
def P_12_isOpenIn_0 (x2 : Int32) (x3 : Int32) (M : Mem) : Prop := ((P_12_isOpenBy_0 x2 (x3 - x3 / 24 * 24) (x3 / 24) M) ∧ (P_12_isOpenIn_14 ((F_12_isOpenBy_0 x2 (x3 - x3 / 24 * 24) (x3 / 24) M).1) ((F_12_isOpenBy_0 x2 (x3 - x3 / 24 * 24) (x3 / 24) M).2)))
theorem T_12_isOpenIn_0 {g : Gl} (x2 : Int32) (x3 : Int32) (M : Mem) (hp : P_12_isOpenIn_0 x2 x3 M) : Rn g 5 m12_isOpenIn 0 [some (.ref 0), some (.ref 20), some (.int x2), some (.int x3)] [] M (some (.int (F_12_isOpenIn_0 x2 x3 M).1)) ((F_12_isOpenIn_0 x2 x3 M).2) := by
  rw [F_12_isOpenIn_0]
  rw [P_12_isOpenIn_0] at hp
  obtain ⟨hc, hp⟩ := hp
  refine b12_isOpenIn_0 (by decide) (C_12_isOpenBy x2 (x3 - x3 / 24 * 24) (x3 / 24) M hc) (Nat.le_of_ble_eq_true rfl) ?_
  exact T_12_isOpenIn_14 ((F_12_isOpenBy_0 x2 (x3 - x3 / 24 * 24) (x3 / 24) M).1) ((F_12_isOpenBy_0 x2 (x3 - x3 / 24 * 24) (x3 / 24) M).2) hp
theorem C_12_isOpenIn {g : Gl}  (x2 : Int32) (x3 : Int32) (M : Mem) (hp : P_12_isOpenIn_0 x2 x3 M) : Ms g 5 m12_isOpenIn [.ref 0, .ref 20, .int x2, .int x3] M (some (.int (F_12_isOpenIn_0 x2 x3 M).1)) ((F_12_isOpenIn_0 x2 x3 M).2) := Ms.of okM_m12_isOpenIn (Nat.le_of_ble_eq_true rfl) (R_wk (lc rfl (lc rfl (lc rfl (lc rfl l0)))) (T_12_isOpenIn_0 x2 x3 M hp))
def F_12_does_146 (k101 : Int32 → Int32 → Int32 → Mem → Int32 × Mem) (x3 : Int32) (x4 : Int32) (x5 : Int32) (xs0 : Int32) (xs1 : Int32) (xs2 : Int32) (M : Mem) : Int32 × Mem := k101 x3 x4 (x5 + 1) (wr M 20 xs2.toNatClampNeg (xs1 + xs0))
def P_12_does_146 (pk101 : Int32 → Int32 → Int32 → Mem → Prop) (x3 : Int32) (x4 : Int32) (x5 : Int32) (xs0 : Int32) (xs1 : Int32) (xs2 : Int32) (M : Mem) : Prop := (vp_in xs2 56) ∧ (pk101 x3 x4 (x5 + 1) (wr M 20 xs2.toNatClampNeg (xs1 + xs0)))
theorem T_12_does_146 {g : Gl} (k101 : Int32 → Int32 → Int32 → Mem → Int32 × Mem) (pk101 : Int32 → Int32 → Int32 → Mem → Prop) (ih101 : ∀ (x3 : Int32) (x4 : Int32) (x5 : Int32) (M : Mem), pk101 x3 x4 x5 M → Rn g 6 m12_does 101 [some (.ref 0), some (.ref 20), none, some (.int x3), some (.int x4), some (.int x5)] [] M (some (.int (k101 x3 x4 x5 M).1)) ((k101 x3 x4 x5 M).2)) (x3 : Int32) (x4 : Int32) (x5 : Int32) (xs0 : Int32) (xs1 : Int32) (xs2 : Int32) (M : Mem) (hp : P_12_does_146 pk101 x3 x4 x5 xs0 xs1 xs2 M) : Rn g 6 m12_does 146 [some (.ref 0), some (.ref 20), none, some (.int x3), some (.int x4), some (.int x5)] [.int xs0, .int xs1, .int xs2, .ref 20] M (some (.int (F_12_does_146 k101 x3 x4 x5 xs0 xs1 xs2 M).1)) ((F_12_does_146 k101 x3 x4 x5 xs0 xs1 xs2 M).2) := by
  rw [F_12_does_146]
  rw [P_12_does_146] at hp
  obtain ⟨p0, hp⟩ := hp
  refine b12_does_146 p0 ?_
  exact ih101 x3 x4 (x5 + 1) (wr M 20 xs2.toNatClampNeg (xs1 + xs0)) hp
def F_12_does_145 (k101 : Int32 → Int32 → Int32 → Mem → Int32 × Mem) (x3 : Int32) (x4 : Int32) (x5 : Int32) (xs0 : Int32) (xs1 : Int32) (M : Mem) : Int32 × Mem := F_12_does_146 k101 x3 x4 x5 0 xs0 xs1 M
def P_12_does_145 (pk101 : Int32 → Int32 → Int32 → Mem → Prop) (x3 : Int32) (x4 : Int32) (x5 : Int32) (xs0 : Int32) (xs1 : Int32) (M : Mem) : Prop := (P_12_does_146 pk101 x3 x4 x5 0 xs0 xs1 M)
theorem T_12_does_145 {g : Gl} (k101 : Int32 → Int32 → Int32 → Mem → Int32 × Mem) (pk101 : Int32 → Int32 → Int32 → Mem → Prop) (ih101 : ∀ (x3 : Int32) (x4 : Int32) (x5 : Int32) (M : Mem), pk101 x3 x4 x5 M → Rn g 6 m12_does 101 [some (.ref 0), some (.ref 20), none, some (.int x3), some (.int x4), some (.int x5)] [] M (some (.int (k101 x3 x4 x5 M).1)) ((k101 x3 x4 x5 M).2)) (x3 : Int32) (x4 : Int32) (x5 : Int32) (xs0 : Int32) (xs1 : Int32) (M : Mem) (hp : P_12_does_145 pk101 x3 x4 x5 xs0 xs1 M) : Rn g 6 m12_does 145 [some (.ref 0), some (.ref 20), none, some (.int x3), some (.int x4), some (.int x5)] [.int xs0, .int xs1, .ref 20] M (some (.int (F_12_does_145 k101 x3 x4 x5 xs0 xs1 M).1)) ((F_12_does_145 k101 x3 x4 x5 xs0 xs1 M).2) := by
  rw [F_12_does_145]
  rw [P_12_does_145] at hp
  refine b12_does_145  ?_
  exact T_12_does_146 k101 pk101 ih101 x3 x4 x5 0 xs0 xs1 M hp
def F_12_does_101  : Nat → Int32 → Int32 → Int32 → Mem → Int32 × Mem
  | 0, _, _, _, M => (0, M)
  | n + 1, x3, x4, x5, M => if (rd M 4 ((2 : Int32).toNatClampNeg)) ≤ x5 then ((1, M)) else (if x5 = x3 then (F_12_does_145 (F_12_does_101 n) x3 x4 x5 (rd M 20 ((54 : Int32).toNatClampNeg)) 54 M) else (if (rd M 20 ((0 + x5).toNatClampNeg)) = (rd M (54 + x4.toNatClampNeg) ((1 : Int32).toNatClampNeg)) then (F_12_does_146 (F_12_does_101 n) x3 x4 x5 1 (rd M 20 ((54 : Int32).toNatClampNeg)) 54 M) else (F_12_does_145 (F_12_does_101 n) x3 x4 x5 (rd M 20 ((54 : Int32).toNatClampNeg)) 54 M)))
def P_12_does_101  : Nat → Int32 → Int32 → Int32 → Mem → Prop
  | 0, _, _, _, _ => False
  | n + 1, x3, x4, x5, M => (((rd M 4 ((2 : Int32).toNatClampNeg)) ≤ x5 → True) ∧ (¬ (rd M 4 ((2 : Int32).toNatClampNeg)) ≤ x5 → ((x5 = x3 → P_12_does_145 (P_12_does_101 n) x3 x4 x5 (rd M 20 ((54 : Int32).toNatClampNeg)) 54 M) ∧ (¬ x5 = x3 → (vp_in (0 + x5) 56) ∧ (vp_in x4 24) ∧ ((¬ (rd M 20 ((0 + x5).toNatClampNeg)) = (rd M (54 + x4.toNatClampNeg) ((1 : Int32).toNatClampNeg)) → P_12_does_145 (P_12_does_101 n) x3 x4 x5 (rd M 20 ((54 : Int32).toNatClampNeg)) 54 M) ∧ ((rd M 20 ((0 + x5).toNatClampNeg)) = (rd M (54 + x4.toNatClampNeg) ((1 : Int32).toNatClampNeg)) → (P_12_does_146 (P_12_does_101 n) x3 x4 x5 1 (rd M 20 ((54 : Int32).toNatClampNeg)) 54 M)))))))
theorem T_12_does_101 {g : Gl} : ∀ (n : Nat) (x3 : Int32) (x4 : Int32) (x5 : Int32) (M : Mem) (hp : P_12_does_101 n x3 x4 x5 M), Rn g 6 m12_does 101 [some (.ref 0), some (.ref 20), none, some (.int x3), some (.int x4), some (.int x5)] [] M (some (.int (F_12_does_101 n x3 x4 x5 M).1)) ((F_12_does_101 n x3 x4 x5 M).2) := by
  intro n
  induction n with
  | zero => intro x3 x4 x5 M hp; exact hp.elim
  | succ n ih =>
    intro x3 x4 x5 M hp
    rw [F_12_does_101]
    rw [P_12_does_101] at hp
    refine b12_does_101 (vpl (by decide)) (fun h => ?_) (fun h => ?_)
    · rw [if_pos h]
      exact b12_does_154  rfl rfl
    · rw [if_neg h]
      have hp := hp.2 h
      refine b12_does_112 (vpl (by decide)) (fun h => ?_) (fun h => ?_)
      · rw [if_pos h]
        have hp := hp.1 h
        exact T_12_does_145 (F_12_does_101 n) (P_12_does_101 n) ih x3 x4 x5 (rd M 20 ((54 : Int32).toNatClampNeg)) 54 M hp
      · rw [if_neg h]
        have hp := hp.2 h
        obtain ⟨p0, p1, hp⟩ := hp
        refine b12_does_123 p0 p1 (vpl (by decide)) (fun h => ?_) (fun h => ?_)
        · rw [if_neg h]
          have hp := hp.1 h
          exact T_12_does_145 (F_12_does_101 n) (P_12_does_101 n) ih x3 x4 x5 (rd M 20 ((54 : Int32).toNatClampNeg)) 54 M hp
        · rw [if_pos h]
          have hp := hp.2 h
          refine b12_does_141  ?_
          exact T_12_does_146 (F_12_does_101 n) (P_12_does_101 n) ih x3 x4 x5 1 (rd M 20 ((54 : Int32).toNatClampNeg)) 54 M hp
def F_12_does_68 (x3 : Int32) (x4 : Int32) (xs0 : Int32) (M : Mem) : Int32 × Mem := if xs0 = 0 then ((0, M)) else (F_12_does_101 FU x3 x4 0 (wr (wr M 20 ((0 + x3).toNatClampNeg) (rd M (54 + x4.toNatClampNeg) ((1 : Int32).toNatClampNeg))) 20 ((30 + x4).toNatClampNeg) ((rd (wr M 20 ((0 + x3).toNatClampNeg) (rd M (54 + x4.toNatClampNeg) ((1 : Int32).toNatClampNeg))) 20 ((30 + x4).toNatClampNeg)) + 1)))
def P_12_does_68 (x3 : Int32) (x4 : Int32) (xs0 : Int32) (M : Mem) : Prop := ((¬ xs0 = 0 → (vp_in x4 24) ∧ (vp_in (0 + x3) 56) ∧ (vp_in (30 + x4) 56) ∧ (P_12_does_101 FU x3 x4 0 (wr (wr M 20 ((0 + x3).toNatClampNeg) (rd M (54 + x4.toNatClampNeg) ((1 : Int32).toNatClampNeg))) 20 ((30 + x4).toNatClampNeg) ((rd (wr M 20 ((0 + x3).toNatClampNeg) (rd M (54 + x4.toNatClampNeg) ((1 : Int32).toNatClampNeg))) 20 ((30 + x4).toNatClampNeg)) + 1)))) ∧ (xs0 = 0 → True))
theorem T_12_does_68 {g : Gl} (x3 : Int32) (x4 : Int32) (xs0 : Int32) (M : Mem) (hp : P_12_does_68 x3 x4 xs0 M) : Rn g 6 m12_does 68 [some (.ref 0), some (.ref 20), none, some (.int x3), some (.int x4), none] [.int xs0] M (some (.int (F_12_does_68 x3 x4 xs0 M).1)) ((F_12_does_68 x3 x4 xs0 M).2) := by
  rw [F_12_does_68]
  rw [P_12_does_68] at hp
  refine b12_does_68  (fun h => ?_) (fun h => ?_)
  · rw [if_neg h]
    have hp := hp.1 h
    obtain ⟨p0, p1, p2, hp⟩ := hp
    refine b12_does_73 p0 (vpl (by decide)) p1 p2 ?_
    exact T_12_does_101 FU x3 x4 0 (wr (wr M 20 ((0 + x3).toNatClampNeg) (rd M (54 + x4.toNatClampNeg) ((1 : Int32).toNatClampNeg))) 20 ((30 + x4).toNatClampNeg) ((rd (wr M 20 ((0 + x3).toNatClampNeg) (rd M (54 + x4.toNatClampNeg) ((1 : Int32).toNatClampNeg))) 20 ((30 + x4).toNatClampNeg)) + 1)) hp
  · rw [if_pos h]
    exact b12_does_71  rfl rfl
def F_12_does_174 (q2 : Nat) (x4 : Int32) (xs0 : Int32) (xs1 : Int32) (M : Mem) : Int32 × Mem := if xs1 = xs0 then ((0, M)) else ((1, wr M 20 ((6 + x4).toNatClampNeg) (2 - (rd M (398 + q2) ((0 : Int32).toNatClampNeg)))))
def P_12_does_174 (q2 : Nat) (x4 : Int32) (xs0 : Int32) (xs1 : Int32) (M : Mem) : Prop := (q2 < 80) ∧ (((¬ xs1 = xs0 → (vp_in (6 + x4) 56)) ∧ (xs1 = xs0 → True)))
theorem T_12_does_174 {g : Gl} (q2 : Nat) (x4 : Int32) (xs0 : Int32) (xs1 : Int32) (M : Mem) (hp : P_12_does_174 q2 x4 xs0 xs1 M) : Rn g 6 m12_does 174 [none, some (.ref 20), some (.ref (398 + q2)), none, some (.int x4), none] [.int xs0, .int xs1] M (some (.int (F_12_does_174 q2 x4 xs0 xs1 M).1)) ((F_12_does_174 q2 x4 xs0 xs1 M).2) := by
  rw [F_12_does_174]
  rw [P_12_does_174] at hp
  obtain ⟨hq2, hp⟩ := hp
  refine b12_does_174 hq2 (fun h => ?_) (fun h => ?_)
  · rw [if_neg h]
    have hp := hp.1 h
    have p0 := hp
    exact b12_does_179 hq2 (vpl (by decide)) p0 rfl rfl
  · rw [if_pos h]
    exact b12_does_177  rfl rfl
def F_12_does_0 (q2 : Nat) (M : Mem) : Int32 × Mem := (if (rd M (398 + q2) ((0 : Int32).toNatClampNeg)) = 0 then (if (rd M 20 ((0 + (rd M (398 + q2) ((1 : Int32).toNatClampNeg))).toNatClampNeg)) = (rd M (54 + (rd M (398 + q2) ((2 : Int32).toNatClampNeg)).toNatClampNeg) ((0 : Int32).toNatClampNeg)) then (F_12_does_68 (rd M (398 + q2) ((1 : Int32).toNatClampNeg)) (rd M (398 + q2) ((2 : Int32).toNatClampNeg)) ((F_12_isOpenIn_0 (rd M (398 + q2) ((2 : Int32).toNatClampNeg)) (rd M 20 ((55 : Int32).toNatClampNeg)) M).1) ((F_12_isOpenIn_0 (rd M (398 + q2) ((2 : Int32).toNatClampNeg)) (rd M 20 ((55 : Int32).toNatClampNeg)) M).2)) else ((0, M))) else (if (rd M (398 + q2) ((0 : Int32).toNatClampNeg)) = 1 then (if (rd M (398 + q2) ((0 : Int32).toNatClampNeg)) = 1 then (F_12_does_174 q2 (rd M (398 + q2) ((2 : Int32).toNatClampNeg)) 1 (F_12_isBarred_0 M (rd M (398 + q2) ((2 : Int32).toNatClampNeg))) M) else (F_12_does_174 q2 (rd M (398 + q2) ((2 : Int32).toNatClampNeg)) 0 (F_12_isBarred_0 M (rd M (398 + q2) ((2 : Int32).toNatClampNeg))) M)) else (if (rd M (398 + q2) ((0 : Int32).toNatClampNeg)) = 2 then (if (rd M (398 + q2) ((0 : Int32).toNatClampNeg)) = 1 then (F_12_does_174 q2 (rd M (398 + q2) ((2 : Int32).toNatClampNeg)) 1 (F_12_isBarred_0 M (rd M (398 + q2) ((2 : Int32).toNatClampNeg))) M) else (F_12_does_174 q2 (rd M (398 + q2) ((2 : Int32).toNatClampNeg)) 0 (F_12_isBarred_0 M (rd M (398 + q2) ((2 : Int32).toNatClampNeg))) M)) else (if (rd M 20 ((55 : Int32).toNatClampNeg)) < 960 then ((1, wr M 20 ((55 : Int32).toNatClampNeg) ((rd M 20 ((55 : Int32).toNatClampNeg)) + 1))) else ((0, M))))))
def P_12_does_0 (q2 : Nat) (M : Mem) : Prop := (q2 < 80) ∧ ((((rd M (398 + q2) ((0 : Int32).toNatClampNeg)) = 0 → (vp_in (0 + (rd M (398 + q2) ((1 : Int32).toNatClampNeg))) 56) ∧ (vp_in (rd M (398 + q2) ((2 : Int32).toNatClampNeg)) 24) ∧ ((¬ (rd M 20 ((0 + (rd M (398 + q2) ((1 : Int32).toNatClampNeg))).toNatClampNeg)) = (rd M (54 + (rd M (398 + q2) ((2 : Int32).toNatClampNeg)).toNatClampNeg) ((0 : Int32).toNatClampNeg)) → True) ∧ ((rd M 20 ((0 + (rd M (398 + q2) ((1 : Int32).toNatClampNeg))).toNatClampNeg)) = (rd M (54 + (rd M (398 + q2) ((2 : Int32).toNatClampNeg)).toNatClampNeg) ((0 : Int32).toNatClampNeg)) → ((P_12_isOpenIn_0 (rd M (398 + q2) ((2 : Int32).toNatClampNeg)) (rd M 20 ((55 : Int32).toNatClampNeg)) M) ∧ (P_12_does_68 (rd M (398 + q2) ((1 : Int32).toNatClampNeg)) (rd M (398 + q2) ((2 : Int32).toNatClampNeg)) ((F_12_isOpenIn_0 (rd M (398 + q2) ((2 : Int32).toNatClampNeg)) (rd M 20 ((55 : Int32).toNatClampNeg)) M).1) ((F_12_isOpenIn_0 (rd M (398 + q2) ((2 : Int32).toNatClampNeg)) (rd M 20 ((55 : Int32).toNatClampNeg)) M).2)))))) ∧ ((rd M (398 + q2) ((0 : Int32).toNatClampNeg)) = 1 → ((P_12_isBarred_0 M (rd M (398 + q2) ((2 : Int32).toNatClampNeg))) ∧ (((¬ (rd M (398 + q2) ((0 : Int32).toNatClampNeg)) = 1 → (P_12_does_174 q2 (rd M (398 + q2) ((2 : Int32).toNatClampNeg)) 0 (F_12_isBarred_0 M (rd M (398 + q2) ((2 : Int32).toNatClampNeg))) M)) ∧ ((rd M (398 + q2) ((0 : Int32).toNatClampNeg)) = 1 → (P_12_does_174 q2 (rd M (398 + q2) ((2 : Int32).toNatClampNeg)) 1 (F_12_isBarred_0 M (rd M (398 + q2) ((2 : Int32).toNatClampNeg))) M)))))) ∧ ((rd M (398 + q2) ((0 : Int32).toNatClampNeg)) = 2 → ((P_12_isBarred_0 M (rd M (398 + q2) ((2 : Int32).toNatClampNeg))) ∧ (((¬ (rd M (398 + q2) ((0 : Int32).toNatClampNeg)) = 1 → (P_12_does_174 q2 (rd M (398 + q2) ((2 : Int32).toNatClampNeg)) 0 (F_12_isBarred_0 M (rd M (398 + q2) ((2 : Int32).toNatClampNeg))) M)) ∧ ((rd M (398 + q2) ((0 : Int32).toNatClampNeg)) = 1 → (P_12_does_174 q2 (rd M (398 + q2) ((2 : Int32).toNatClampNeg)) 1 (F_12_isBarred_0 M (rd M (398 + q2) ((2 : Int32).toNatClampNeg))) M)))))) ∧ (¬ (rd M (398 + q2) ((0 : Int32).toNatClampNeg)) = 0 ∧ ¬ (rd M (398 + q2) ((0 : Int32).toNatClampNeg)) = 1 ∧ ¬ (rd M (398 + q2) ((0 : Int32).toNatClampNeg)) = 2 → True)))
theorem T_12_does_0 {g : Gl} (q2 : Nat) (M : Mem) (hp : P_12_does_0 q2 M) : Rn g 6 m12_does 0 [some (.ref 0), some (.ref 20), some (.ref (398 + q2)), none, none, none] [] M (some (.int (F_12_does_0 q2 M).1)) ((F_12_does_0 q2 M).2) := by
  rw [F_12_does_0]
  rw [P_12_does_0] at hp
  obtain ⟨hq2, hp⟩ := hp
  by_cases h0 : (rd M (398 + q2) ((0 : Int32).toNatClampNeg)) = 0
  · rw [if_pos h0]
    have hp := hp.1 h0
    refine b12_does_0_c0 hq2 (vpl (by decide)) (vpl (by decide)) (vpl (by decide)) h0 ?_
    obtain ⟨p0, p1, hp⟩ := hp
    refine b12_does_40 p0 p1 (vpl (by decide)) (fun h => ?_) (fun h => ?_)
    · rw [if_neg h]
      exact b12_does_71  rfl rfl
    · rw [if_pos h]
      have hp := hp.2 h
      obtain ⟨hc, hp⟩ := hp
      refine b12_does_57 (vpl (by decide)) (C_12_isOpenIn (rd M (398 + q2) ((2 : Int32).toNatClampNeg)) (rd M 20 ((55 : Int32).toNatClampNeg)) M hc) (Nat.le_of_ble_eq_true rfl) ?_
      exact T_12_does_68 (rd M (398 + q2) ((1 : Int32).toNatClampNeg)) (rd M (398 + q2) ((2 : Int32).toNatClampNeg)) ((F_12_isOpenIn_0 (rd M (398 + q2) ((2 : Int32).toNatClampNeg)) (rd M 20 ((55 : Int32).toNatClampNeg)) M).1) ((F_12_isOpenIn_0 (rd M (398 + q2) ((2 : Int32).toNatClampNeg)) (rd M 20 ((55 : Int32).toNatClampNeg)) M).2) hp
  rw [if_neg h0]
  by_cases h1 : (rd M (398 + q2) ((0 : Int32).toNatClampNeg)) = 1
  · rw [if_pos h1]
    have hp := hp.2.1 h1
    refine b12_does_0_c1 hq2 (vpl (by decide)) (vpl (by decide)) (vpl (by decide)) h1 ?_
    obtain ⟨hc, hp⟩ := hp
    refine b12_does_156 hq2 (C_12_isBarred (rd M (398 + q2) ((2 : Int32).toNatClampNeg)) M hc) (Nat.le_of_ble_eq_true rfl) ?_
    refine b12_does_162 hq2 (vpl (by decide)) (fun h => ?_) (fun h => ?_)
    · rw [if_neg h]
      have hp := hp.1 h
      refine b12_does_173 hq2 ?_
      exact T_12_does_174 q2 (rd M (398 + q2) ((2 : Int32).toNatClampNeg)) 0 (F_12_isBarred_0 M (rd M (398 + q2) ((2 : Int32).toNatClampNeg))) M hp
    · rw [if_pos h]
      have hp := hp.2 h
      refine b12_does_169 hq2 ?_
      exact T_12_does_174 q2 (rd M (398 + q2) ((2 : Int32).toNatClampNeg)) 1 (F_12_isBarred_0 M (rd M (398 + q2) ((2 : Int32).toNatClampNeg))) M hp
  rw [if_neg h1]
  by_cases h2 : (rd M (398 + q2) ((0 : Int32).toNatClampNeg)) = 2
  · rw [if_pos h2]
    have hp := hp.2.2.1 h2
    refine b12_does_0_c2 hq2 (vpl (by decide)) (vpl (by decide)) (vpl (by decide)) h2 ?_
    obtain ⟨hc, hp⟩ := hp
    refine b12_does_156 hq2 (C_12_isBarred (rd M (398 + q2) ((2 : Int32).toNatClampNeg)) M hc) (Nat.le_of_ble_eq_true rfl) ?_
    refine b12_does_162 hq2 (vpl (by decide)) (fun h => ?_) (fun h => ?_)
    · rw [if_neg h]
      have hp := hp.1 h
      refine b12_does_173 hq2 ?_
      exact T_12_does_174 q2 (rd M (398 + q2) ((2 : Int32).toNatClampNeg)) 0 (F_12_isBarred_0 M (rd M (398 + q2) ((2 : Int32).toNatClampNeg))) M hp
    · rw [if_pos h]
      have hp := hp.2 h
      refine b12_does_169 hq2 ?_
      exact T_12_does_174 q2 (rd M (398 + q2) ((2 : Int32).toNatClampNeg)) 1 (F_12_isBarred_0 M (rd M (398 + q2) ((2 : Int32).toNatClampNeg))) M hp
  rw [if_neg h2]
  refine b12_does_0_d hq2 (vpl (by decide)) (vpl (by decide)) (vpl (by decide)) (sw_out (x := (rd M (398 + q2) ((0 : Int32).toNatClampNeg))) (lo := 0) (hi := 2) (by intro z ha hb e; rcases (show z = 0 ∨ z = 1 ∨ z = 2 by omega) with r | r | r <;> subst r <;> first | exact h0 (Int32.toInt_inj.mp (e.trans (by decide))) | exact h1 (Int32.toInt_inj.mp (e.trans (by decide))) | exact h2 (Int32.toInt_inj.mp (e.trans (by decide))))) ?_
  refine b12_does_193 (vpl (by decide)) (fun h => ?_) (fun h => ?_)
  · rw [if_pos h]
    exact b12_does_205 (vpl (by decide)) rfl rfl
  · rw [if_neg h]
    exact b12_does_203  rfl rfl
theorem C_12_does {g : Gl}  (q2 : Nat) (M : Mem) (hp : P_12_does_0 q2 M) : Ms g 6 m12_does [.ref 0, .ref 20, .ref (398 + q2)] M (some (.int (F_12_does_0 q2 M).1)) ((F_12_does_0 q2 M).2) := Ms.of okM_m12_does (Nat.le_of_ble_eq_true rfl) (R_wk (lc rfl (lc rfl (lc rfl (ln (ln (ln l0)))))) (T_12_does_0 q2 M hp))
def F_12_goes_80 (rF : Int32 → Int32 → Mem → Mem) (k2 : Int32 → Int32 → Mem → Mem) (k42 : Int32 → Int32 → Int32 → Mem → Mem) (x2 : Int32) (x3 : Int32) (x4 : Int32) (M : Mem) : Mem := k42 x2 x3 (x4 + 1) M
def P_12_goes_80 (rF : Int32 → Int32 → Mem → Mem) (rP : Int32 → Int32 → Mem → Prop) (pk2 : Int32 → Int32 → Mem → Prop) (pk42 : Int32 → Int32 → Int32 → Mem → Prop) (x2 : Int32) (x3 : Int32) (x4 : Int32) (M : Mem) : Prop := (pk42 x2 x3 (x4 + 1) M)
theorem T_12_goes_80 {g : Gl} (rF : Int32 → Int32 → Mem → Mem) (rP : Int32 → Int32 → Mem → Prop) (k2 : Int32 → Int32 → Mem → Mem) (k42 : Int32 → Int32 → Int32 → Mem → Mem) (pk2 : Int32 → Int32 → Mem → Prop) (pk42 : Int32 → Int32 → Int32 → Mem → Prop) {dr : Nat} (rT : ∀ (a0 : Int32) (a1 : Int32) (M : Mem), rP a0 a1 M → Ms g dr m12_goes [.ref 0, .int a0, .int a1] M (none) ((rF a0 a1 M))) (ih2 : ∀ (x2 : Int32) (x3 : Int32) (M : Mem), pk2 x2 x3 M → Rn g (dr + 7) m12_goes 2 [some (.ref 0), none, some (.int x2), some (.int x3), none] [] M (none) ((k2 x2 x3 M))) (ih42 : ∀ (x2 : Int32) (x3 : Int32) (x4 : Int32) (M : Mem), pk42 x2 x3 x4 M → Rn g (dr + 7) m12_goes 42 [some (.ref 0), none, some (.int x2), some (.int x3), some (.int x4)] [] M (none) ((k42 x2 x3 x4 M))) (x2 : Int32) (x3 : Int32) (x4 : Int32) (M : Mem) (hp : P_12_goes_80 rF rP pk2 pk42 x2 x3 x4 M) : Rn g (dr + 7) m12_goes 80 [some (.ref 0), none, some (.int x2), some (.int x3), some (.int x4)] [] M (none) ((F_12_goes_80 rF k2 k42 x2 x3 x4 M)) := by
  rw [F_12_goes_80]
  rw [P_12_goes_80] at hp
  refine b12_goes_80  ?_
  exact ih42 x2 x3 (x4 + 1) M hp
def F_12_goes_143 (rF : Int32 → Int32 → Mem → Mem) (k2 : Int32 → Int32 → Mem → Mem) (x2 : Int32) (x3 : Int32) (M : Mem) : Mem := k2 x2 (rd M (398 + x3.toNatClampNeg) ((3 : Int32).toNatClampNeg)) M
def P_12_goes_143 (rF : Int32 → Int32 → Mem → Mem) (rP : Int32 → Int32 → Mem → Prop) (pk2 : Int32 → Int32 → Mem → Prop) (x2 : Int32) (x3 : Int32) (M : Mem) : Prop := (vp_in x3 80) ∧ (pk2 x2 (rd M (398 + x3.toNatClampNeg) ((3 : Int32).toNatClampNeg)) M)
theorem T_12_goes_143 {g : Gl} (rF : Int32 → Int32 → Mem → Mem) (rP : Int32 → Int32 → Mem → Prop) (k2 : Int32 → Int32 → Mem → Mem) (pk2 : Int32 → Int32 → Mem → Prop) {dr : Nat} (rT : ∀ (a0 : Int32) (a1 : Int32) (M : Mem), rP a0 a1 M → Ms g dr m12_goes [.ref 0, .int a0, .int a1] M (none) ((rF a0 a1 M))) (ih2 : ∀ (x2 : Int32) (x3 : Int32) (M : Mem), pk2 x2 x3 M → Rn g (dr + 7) m12_goes 2 [some (.ref 0), none, some (.int x2), some (.int x3), none] [] M (none) ((k2 x2 x3 M))) (x2 : Int32) (x3 : Int32) (M : Mem) (hp : P_12_goes_143 rF rP pk2 x2 x3 M) : Rn g (dr + 7) m12_goes 143 [some (.ref 0), none, some (.int x2), some (.int x3), none] [] M (none) ((F_12_goes_143 rF k2 x2 x3 M)) := by
  rw [F_12_goes_143]
  rw [P_12_goes_143] at hp
  obtain ⟨p0, hp⟩ := hp
  refine b12_goes_143 p0 (vpl (by decide)) ?_
  exact ih2 x2 (rd M (398 + x3.toNatClampNeg) ((3 : Int32).toNatClampNeg)) M hp
def F_12_goes_86 (rF : Int32 → Int32 → Mem → Mem) (k2 : Int32 → Int32 → Mem → Mem) (x2 : Int32) (x3 : Int32) (M : Mem) : Mem := F_12_goes_143 rF k2 x2 x3 M
def P_12_goes_86 (rF : Int32 → Int32 → Mem → Mem) (rP : Int32 → Int32 → Mem → Prop) (pk2 : Int32 → Int32 → Mem → Prop) (x2 : Int32) (x3 : Int32) (M : Mem) : Prop := (P_12_goes_143 rF rP pk2 x2 x3 M)
theorem T_12_goes_86 {g : Gl} (rF : Int32 → Int32 → Mem → Mem) (rP : Int32 → Int32 → Mem → Prop) (k2 : Int32 → Int32 → Mem → Mem) (pk2 : Int32 → Int32 → Mem → Prop) {dr : Nat} (rT : ∀ (a0 : Int32) (a1 : Int32) (M : Mem), rP a0 a1 M → Ms g dr m12_goes [.ref 0, .int a0, .int a1] M (none) ((rF a0 a1 M))) (ih2 : ∀ (x2 : Int32) (x3 : Int32) (M : Mem), pk2 x2 x3 M → Rn g (dr + 7) m12_goes 2 [some (.ref 0), none, some (.int x2), some (.int x3), none] [] M (none) ((k2 x2 x3 M))) (x2 : Int32) (x3 : Int32) (M : Mem) (hp : P_12_goes_86 rF rP pk2 x2 x3 M) : Rn g (dr + 7) m12_goes 86 [some (.ref 0), none, some (.int x2), some (.int x3), none] [] M (none) ((F_12_goes_86 rF k2 x2 x3 M)) := by
  rw [F_12_goes_86]
  rw [P_12_goes_86] at hp
  refine b12_goes_86  ?_
  exact T_12_goes_143 rF rP k2 pk2 rT ih2 x2 x3 M hp
def F_12_goes_42 (rF : Int32 → Int32 → Mem → Mem) (k2 : Int32 → Int32 → Mem → Mem) : Nat → Int32 → Int32 → Int32 → Mem → Mem
  | 0, _, _, _, M => M
  | n + 1, x2, x3, x4, M => if (rd M (398 + x3.toNatClampNeg) ((1 : Int32).toNatClampNeg)) ≤ x4 then (F_12_goes_86 rF k2 x2 x3 M) else (if (200 : Int32) ≤ (rd M 0 40) then (F_12_goes_86 rF k2 x2 x3 M) else (F_12_goes_80 rF k2 (F_12_goes_42 rF k2 n) x2 x3 x4 (rF (x3 + 1) (rd M (398 + x3.toNatClampNeg) ((3 : Int32).toNatClampNeg)) M)))
def P_12_goes_42 (rF : Int32 → Int32 → Mem → Mem) (rP : Int32 → Int32 → Mem → Prop) (pk2 : Int32 → Int32 → Mem → Prop) : Nat → Int32 → Int32 → Int32 → Mem → Prop
  | 0, _, _, _, _ => False
  | n + 1, x2, x3, x4, M => (vp_in x3 80) ∧ (((rd M (398 + x3.toNatClampNeg) ((1 : Int32).toNatClampNeg)) ≤ x4 → P_12_goes_86 rF rP pk2 x2 x3 M) ∧ (¬ (rd M (398 + x3.toNatClampNeg) ((1 : Int32).toNatClampNeg)) ≤ x4 → (((200 : Int32) ≤ (rd M 0 40) → P_12_goes_86 rF rP pk2 x2 x3 M) ∧ (¬ (200 : Int32) ≤ (rd M 0 40) → (vp_in x3 80) ∧ ((rP (x3 + 1) (rd M (398 + x3.toNatClampNeg) ((3 : Int32).toNatClampNeg)) M) ∧ (P_12_goes_80 rF rP pk2 (P_12_goes_42 rF rP pk2 n) x2 x3 x4 (rF (x3 + 1) (rd M (398 + x3.toNatClampNeg) ((3 : Int32).toNatClampNeg)) M)))))))
theorem T_12_goes_42 {g : Gl} (rF : Int32 → Int32 → Mem → Mem) (rP : Int32 → Int32 → Mem → Prop) (k2 : Int32 → Int32 → Mem → Mem) (pk2 : Int32 → Int32 → Mem → Prop) {dr : Nat} (rT : ∀ (a0 : Int32) (a1 : Int32) (M : Mem), rP a0 a1 M → Ms g dr m12_goes [.ref 0, .int a0, .int a1] M (none) ((rF a0 a1 M))) (ih2 : ∀ (x2 : Int32) (x3 : Int32) (M : Mem), pk2 x2 x3 M → Rn g (dr + 7) m12_goes 2 [some (.ref 0), none, some (.int x2), some (.int x3), none] [] M (none) ((k2 x2 x3 M))) : ∀ (n : Nat) (x2 : Int32) (x3 : Int32) (x4 : Int32) (M : Mem) (hp : P_12_goes_42 rF rP pk2 n x2 x3 x4 M), Rn g (dr + 7) m12_goes 42 [some (.ref 0), none, some (.int x2), some (.int x3), some (.int x4)] [] M (none) ((F_12_goes_42 rF k2 n x2 x3 x4 M)) := by
  intro n
  induction n with
  | zero => intro x2 x3 x4 M hp; exact hp.elim
  | succ n ih =>
    intro x2 x3 x4 M hp
    rw [F_12_goes_42]
    rw [P_12_goes_42] at hp
    obtain ⟨p0, hp⟩ := hp
    refine b12_goes_42 p0 (vpl (by decide)) (fun h => ?_) (fun h => ?_)
    · rw [if_pos h]
      have hp := hp.1 h
      exact T_12_goes_86 rF rP k2 pk2 rT ih2 x2 x3 M hp
    · rw [if_neg h]
      have hp := hp.2 h
      refine b12_goes_55  (fun h => ?_) (fun h => ?_)
      · rw [if_pos h]
        have hp := hp.1 h
        exact T_12_goes_86 rF rP k2 pk2 rT ih2 x2 x3 M hp
      · rw [if_neg h]
        have hp := hp.2 h
        obtain ⟨p1, hp⟩ := hp
        obtain ⟨hc, hp⟩ := hp
        refine b12_goes_65 p1 (vpl (by decide)) (rT (x3 + 1) (rd M (398 + x3.toNatClampNeg) ((3 : Int32).toNatClampNeg)) M hc) (by omega) ?_
        exact T_12_goes_80 rF rP k2 (F_12_goes_42 rF k2 n) pk2 (P_12_goes_42 rF rP pk2 n) rT ih2 ih x2 x3 x4 (rF (x3 + 1) (rd M (398 + x3.toNatClampNeg) ((3 : Int32).toNatClampNeg)) M) hp
def F_12_goes_139 (rF : Int32 → Int32 → Mem → Mem) (k2 : Int32 → Int32 → Mem → Mem) (x2 : Int32) (x3 : Int32) (xs0 : Int32) (xs1 : Int32) (M : Mem) : Mem := F_12_goes_143 rF k2 x2 x3 (wr M 0 37 (xs1 + xs0))
def P_12_goes_139 (rF : Int32 → Int32 → Mem → Mem) (rP : Int32 → Int32 → Mem → Prop) (pk2 : Int32 → Int32 → Mem → Prop) (x2 : Int32) (x3 : Int32) (xs0 : Int32) (xs1 : Int32) (M : Mem) : Prop := (P_12_goes_143 rF rP pk2 x2 x3 (wr M 0 37 (xs1 + xs0)))
theorem T_12_goes_139 {g : Gl} (rF : Int32 → Int32 → Mem → Mem) (rP : Int32 → Int32 → Mem → Prop) (k2 : Int32 → Int32 → Mem → Mem) (pk2 : Int32 → Int32 → Mem → Prop) {dr : Nat} (rT : ∀ (a0 : Int32) (a1 : Int32) (M : Mem), rP a0 a1 M → Ms g dr m12_goes [.ref 0, .int a0, .int a1] M (none) ((rF a0 a1 M))) (ih2 : ∀ (x2 : Int32) (x3 : Int32) (M : Mem), pk2 x2 x3 M → Rn g (dr + 7) m12_goes 2 [some (.ref 0), none, some (.int x2), some (.int x3), none] [] M (none) ((k2 x2 x3 M))) (x2 : Int32) (x3 : Int32) (xs0 : Int32) (xs1 : Int32) (M : Mem) (hp : P_12_goes_139 rF rP pk2 x2 x3 xs0 xs1 M) : Rn g (dr + 7) m12_goes 139 [some (.ref 0), none, some (.int x2), some (.int x3), none] [.int xs0, .int xs1, .ref 0] M (none) ((F_12_goes_139 rF k2 x2 x3 xs0 xs1 M)) := by
  rw [F_12_goes_139]
  rw [P_12_goes_139] at hp
  refine b12_goes_139  ?_
  exact T_12_goes_143 rF rP k2 pk2 rT ih2 x2 x3 (wr M 0 37 (xs1 + xs0)) hp
def F_12_goes_120 (rF : Int32 → Int32 → Mem → Mem) (k2 : Int32 → Int32 → Mem → Mem) (x2 : Int32) (x3 : Int32) (x4 : Int32) (xs0 : Int32) (xs1 : Int32) (M : Mem) : Mem := if x4 = 0 then (F_12_goes_139 rF k2 x2 x3 1 (rd (wr M 0 41 (xs1 + xs0)) 0 37) (wr M 0 41 (xs1 + xs0))) else (F_12_goes_139 rF k2 x2 x3 0 (rd (wr M 0 41 (xs1 + xs0)) 0 37) (wr M 0 41 (xs1 + xs0)))
def P_12_goes_120 (rF : Int32 → Int32 → Mem → Mem) (rP : Int32 → Int32 → Mem → Prop) (pk2 : Int32 → Int32 → Mem → Prop) (x2 : Int32) (x3 : Int32) (x4 : Int32) (xs0 : Int32) (xs1 : Int32) (M : Mem) : Prop := ((x4 = 0 → (P_12_goes_139 rF rP pk2 x2 x3 1 (rd (wr M 0 41 (xs1 + xs0)) 0 37) (wr M 0 41 (xs1 + xs0)))) ∧ (¬ x4 = 0 → (P_12_goes_139 rF rP pk2 x2 x3 0 (rd (wr M 0 41 (xs1 + xs0)) 0 37) (wr M 0 41 (xs1 + xs0)))))
theorem T_12_goes_120 {g : Gl} (rF : Int32 → Int32 → Mem → Mem) (rP : Int32 → Int32 → Mem → Prop) (k2 : Int32 → Int32 → Mem → Mem) (pk2 : Int32 → Int32 → Mem → Prop) {dr : Nat} (rT : ∀ (a0 : Int32) (a1 : Int32) (M : Mem), rP a0 a1 M → Ms g dr m12_goes [.ref 0, .int a0, .int a1] M (none) ((rF a0 a1 M))) (ih2 : ∀ (x2 : Int32) (x3 : Int32) (M : Mem), pk2 x2 x3 M → Rn g (dr + 7) m12_goes 2 [some (.ref 0), none, some (.int x2), some (.int x3), none] [] M (none) ((k2 x2 x3 M))) (x2 : Int32) (x3 : Int32) (x4 : Int32) (xs0 : Int32) (xs1 : Int32) (M : Mem) (hp : P_12_goes_120 rF rP pk2 x2 x3 x4 xs0 xs1 M) : Rn g (dr + 7) m12_goes 120 [some (.ref 0), none, some (.int x2), some (.int x3), some (.int x4)] [.int xs0, .int xs1, .ref 0] M (none) ((F_12_goes_120 rF k2 x2 x3 x4 xs0 xs1 M)) := by
  rw [F_12_goes_120]
  rw [P_12_goes_120] at hp
  refine b12_goes_120  (fun h => ?_) (fun h => ?_)
  · rw [if_pos h]
    have hp := hp.1 h
    refine b12_goes_138  ?_
    exact T_12_goes_139 rF rP k2 pk2 rT ih2 x2 x3 1 (rd (wr M 0 41 (xs1 + xs0)) 0 37) (wr M 0 41 (xs1 + xs0)) hp
  · rw [if_neg h]
    have hp := hp.2 h
    refine b12_goes_134  ?_
    exact T_12_goes_139 rF rP k2 pk2 rT ih2 x2 x3 0 (rd (wr M 0 41 (xs1 + xs0)) 0 37) (wr M 0 41 (xs1 + xs0)) hp
def F_12_goes_103 (rF : Int32 → Int32 → Mem → Mem) (k2 : Int32 → Int32 → Mem → Mem) (x2 : Int32) (x3 : Int32) (xs0 : Int32) (M : Mem) : Mem := if xs0 = 0 then (F_12_goes_120 rF k2 x2 x3 xs0 0 (rd M 0 41) M) else (F_12_goes_120 rF k2 x2 x3 xs0 1 (rd M 0 41) M)
def P_12_goes_103 (rF : Int32 → Int32 → Mem → Mem) (rP : Int32 → Int32 → Mem → Prop) (pk2 : Int32 → Int32 → Mem → Prop) (x2 : Int32) (x3 : Int32) (xs0 : Int32) (M : Mem) : Prop := ((xs0 = 0 → (P_12_goes_120 rF rP pk2 x2 x3 xs0 0 (rd M 0 41) M)) ∧ (¬ xs0 = 0 → (P_12_goes_120 rF rP pk2 x2 x3 xs0 1 (rd M 0 41) M)))
theorem T_12_goes_103 {g : Gl} (rF : Int32 → Int32 → Mem → Mem) (rP : Int32 → Int32 → Mem → Prop) (k2 : Int32 → Int32 → Mem → Mem) (pk2 : Int32 → Int32 → Mem → Prop) {dr : Nat} (rT : ∀ (a0 : Int32) (a1 : Int32) (M : Mem), rP a0 a1 M → Ms g dr m12_goes [.ref 0, .int a0, .int a1] M (none) ((rF a0 a1 M))) (ih2 : ∀ (x2 : Int32) (x3 : Int32) (M : Mem), pk2 x2 x3 M → Rn g (dr + 7) m12_goes 2 [some (.ref 0), none, some (.int x2), some (.int x3), none] [] M (none) ((k2 x2 x3 M))) (x2 : Int32) (x3 : Int32) (xs0 : Int32) (M : Mem) (hp : P_12_goes_103 rF rP pk2 x2 x3 xs0 M) : Rn g (dr + 7) m12_goes 103 [some (.ref 0), none, some (.int x2), some (.int x3), none] [.int xs0] M (none) ((F_12_goes_103 rF k2 x2 x3 xs0 M)) := by
  rw [F_12_goes_103]
  rw [P_12_goes_103] at hp
  refine b12_goes_103  (fun h => ?_) (fun h => ?_)
  · rw [if_pos h]
    have hp := hp.1 h
    refine b12_goes_119  ?_
    exact T_12_goes_120 rF rP k2 pk2 rT ih2 x2 x3 xs0 0 (rd M 0 41) M hp
  · rw [if_neg h]
    have hp := hp.2 h
    refine b12_goes_115  ?_
    exact T_12_goes_120 rF rP k2 pk2 rT ih2 x2 x3 xs0 1 (rd M 0 41) M hp
def F_12_goes_2 (rF : Int32 → Int32 → Mem → Mem) : Nat → Int32 → Int32 → Mem → Mem
  | 0, _, _, M => M
  | n + 1, x2, x3, M => if x2 ≤ x3 then (M) else (if (200 : Int32) ≤ (rd M 0 40) then (M) else (if (rd (wr M 0 40 ((rd M 0 40) + 1)) (398 + x3.toNatClampNeg) ((0 : Int32).toNatClampNeg)) = 4 then (F_12_goes_42 rF (F_12_goes_2 rF n) FU x2 x3 0 (wr M 0 40 ((rd M 0 40) + 1))) else (F_12_goes_103 rF (F_12_goes_2 rF n) x2 x3 ((F_12_does_0 (x3.toNatClampNeg) (wr M 0 40 ((rd M 0 40) + 1))).1) ((F_12_does_0 (x3.toNatClampNeg) (wr M 0 40 ((rd M 0 40) + 1))).2))))
def P_12_goes_2 (rF : Int32 → Int32 → Mem → Mem) (rP : Int32 → Int32 → Mem → Prop) : Nat → Int32 → Int32 → Mem → Prop
  | 0, _, _, _ => False
  | n + 1, x2, x3, M => ((x2 ≤ x3 → True) ∧ (¬ x2 ≤ x3 → (((200 : Int32) ≤ (rd M 0 40) → True) ∧ (¬ (200 : Int32) ≤ (rd M 0 40) → (vp_in x3 80) ∧ ((¬ (rd (wr M 0 40 ((rd M 0 40) + 1)) (398 + x3.toNatClampNeg) ((0 : Int32).toNatClampNeg)) = 4 → (vp_in x3 80) ∧ ((P_12_does_0 (x3.toNatClampNeg) (wr M 0 40 ((rd M 0 40) + 1))) ∧ (P_12_goes_103 rF rP (P_12_goes_2 rF rP n) x2 x3 ((F_12_does_0 (x3.toNatClampNeg) (wr M 0 40 ((rd M 0 40) + 1))).1) ((F_12_does_0 (x3.toNatClampNeg) (wr M 0 40 ((rd M 0 40) + 1))).2)))) ∧ ((rd (wr M 0 40 ((rd M 0 40) + 1)) (398 + x3.toNatClampNeg) ((0 : Int32).toNatClampNeg)) = 4 → (P_12_goes_42 rF rP (P_12_goes_2 rF rP n) FU x2 x3 0 (wr M 0 40 ((rd M 0 40) + 1)))))))))
theorem T_12_goes_2 {g : Gl} (rF : Int32 → Int32 → Mem → Mem) (rP : Int32 → Int32 → Mem → Prop) {dr : Nat} (rT : ∀ (a0 : Int32) (a1 : Int32) (M : Mem), rP a0 a1 M → Ms g dr m12_goes [.ref 0, .int a0, .int a1] M (none) ((rF a0 a1 M))) : ∀ (n : Nat) (x2 : Int32) (x3 : Int32) (M : Mem) (hp : P_12_goes_2 rF rP n x2 x3 M), Rn g (dr + 7) m12_goes 2 [some (.ref 0), none, some (.int x2), some (.int x3), none] [] M (none) ((F_12_goes_2 rF n x2 x3 M)) := by
  intro n
  induction n with
  | zero => intro x2 x3 M hp; exact hp.elim
  | succ n ih =>
    intro x2 x3 M hp
    rw [F_12_goes_2]
    rw [P_12_goes_2] at hp
    refine b12_goes_2  (fun h => ?_) (fun h => ?_)
    · rw [if_pos h]
      exact b12_goes_155  rfl rfl
    · rw [if_neg h]
      have hp := hp.2 h
      refine b12_goes_7  (fun h => ?_) (fun h => ?_)
      · rw [if_pos h]
        exact b12_goes_155  rfl rfl
      · rw [if_neg h]
        have hp := hp.2 h
        obtain ⟨p0, hp⟩ := hp
        refine b12_goes_17 p0 (vpl (by decide)) (fun h => ?_) (fun h => ?_)
        · rw [if_neg h]
          have hp := hp.1 h
          obtain ⟨p1, hp⟩ := hp
          obtain ⟨hc, hp⟩ := hp
          refine b12_goes_89 p1 (C_12_does (x3.toNatClampNeg) (wr M 0 40 ((rd M 0 40) + 1)) hc) (by omega) ?_
          exact T_12_goes_103 rF rP (F_12_goes_2 rF n) (P_12_goes_2 rF rP n) rT ih x2 x3 ((F_12_does_0 (x3.toNatClampNeg) (wr M 0 40 ((rd M 0 40) + 1))).1) ((F_12_does_0 (x3.toNatClampNeg) (wr M 0 40 ((rd M 0 40) + 1))).2) hp
        · rw [if_pos h]
          have hp := hp.2 h
          refine b12_goes_39  ?_
          exact T_12_goes_42 rF rP (F_12_goes_2 rF n) (P_12_goes_2 rF rP n) rT ih FU x2 x3 0 (wr M 0 40 ((rd M 0 40) + 1)) hp
def F_12_goes_0 (rF : Int32 → Int32 → Mem → Mem) (x1 : Int32) (x2 : Int32) (M : Mem) : Mem := F_12_goes_2 rF FU x2 x1 M
def P_12_goes_0 (rF : Int32 → Int32 → Mem → Mem) (rP : Int32 → Int32 → Mem → Prop) (x1 : Int32) (x2 : Int32) (M : Mem) : Prop := (P_12_goes_2 rF rP FU x2 x1 M)
theorem T_12_goes_0 {g : Gl} (rF : Int32 → Int32 → Mem → Mem) (rP : Int32 → Int32 → Mem → Prop) {dr : Nat} (rT : ∀ (a0 : Int32) (a1 : Int32) (M : Mem), rP a0 a1 M → Ms g dr m12_goes [.ref 0, .int a0, .int a1] M (none) ((rF a0 a1 M))) (x1 : Int32) (x2 : Int32) (M : Mem) (hp : P_12_goes_0 rF rP x1 x2 M) : Rn g (dr + 7) m12_goes 0 [some (.ref 0), some (.int x1), some (.int x2), none, none] [] M (none) ((F_12_goes_0 rF x1 x2 M)) := by
  rw [F_12_goes_0]
  rw [P_12_goes_0] at hp
  refine b12_goes_0  ?_
  exact T_12_goes_2 rF rP rT FU x2 x1 M hp
theorem C_12_goes {g : Gl} (rF : Int32 → Int32 → Mem → Mem) (rP : Int32 → Int32 → Mem → Prop) {dr : Nat} (rT : ∀ (a0 : Int32) (a1 : Int32) (M : Mem), rP a0 a1 M → Ms g dr m12_goes [.ref 0, .int a0, .int a1] M (none) ((rF a0 a1 M))) (x1 : Int32) (x2 : Int32) (M : Mem) (hp : P_12_goes_0 rF rP x1 x2 M) : Ms g (dr + 7) m12_goes [.ref 0, .int x1, .int x2] M (none) ((F_12_goes_0 rF x1 x2 M)) := Ms.of okM_m12_goes (Nat.le_of_ble_eq_true rfl) (R_wk (lc rfl (lc rfl (lc rfl (ln (ln l0))))) (T_12_goes_0 rF rP rT x1 x2 M hp))
def G_12_goes  : Nat → Int32 → Int32 → Mem → Mem
  | 0, _, _, M => M
  | n + 1, a0, a1, M => F_12_goes_0 (G_12_goes n) a0 a1 M
def H_12_goes  : Nat → Int32 → Int32 → Mem → Prop
  | 0, _, _, _ => False
  | n + 1, a0, a1, M => P_12_goes_0 (G_12_goes n) (H_12_goes n) a0 a1 M
theorem D_12_goes {g : Gl}  : ∀ (n : Nat) (a0 : Int32) (a1 : Int32) (M : Mem), H_12_goes n a0 a1 M → Ms g (7 * n) m12_goes [.ref 0, .int a0, .int a1] M (none) ((G_12_goes n a0 a1 M)) := by
  intro n
  induction n with
  | zero => intro a0 a1 M hp; exact hp.elim
  | succ n ih =>
    intro a0 a1 M hp
    rw [G_12_goes]
    rw [H_12_goes] at hp
    exact C_12_goes (G_12_goes n) (H_12_goes n) ih a0 a1 M hp
def F_12_work_98 (k72 : Mem → Int32 × Mem) (M : Mem) : Int32 × Mem := k72 M
def P_12_work_98 (pk72 : Mem → Prop) (M : Mem) : Prop := (pk72 M)
theorem T_12_work_98 {g : Gl} (k72 : Mem → Int32 × Mem) (pk72 : Mem → Prop) (ih72 : ∀  (M : Mem), pk72 M → Rn g 57 m12_work 72 [some (.ref 0), none] [] M (some (.int (k72 M).1)) ((k72 M).2)) (M : Mem) (hp : P_12_work_98 pk72 M) : Rn g 57 m12_work 98 [some (.ref 0), none] [] M (some (.int (F_12_work_98 k72 M).1)) ((F_12_work_98 k72 M).2) := by
  rw [F_12_work_98]
  rw [P_12_work_98] at hp
  refine b12_work_98  ?_
  exact ih72 M hp
def F_12_work_94 (k72 : Mem → Int32 × Mem) (M : Mem) : Int32 × Mem := F_12_work_98 k72 (F_12_blanks_0 FU M)
def P_12_work_94 (pk72 : Mem → Prop) (M : Mem) : Prop := ((P_12_blanks_0 FU M) ∧ (P_12_work_98 pk72 (F_12_blanks_0 FU M)))
theorem T_12_work_94 {g : Gl} (k72 : Mem → Int32 × Mem) (pk72 : Mem → Prop) (ih72 : ∀  (M : Mem), pk72 M → Rn g 57 m12_work 72 [some (.ref 0), none] [] M (some (.int (k72 M).1)) ((k72 M).2)) (M : Mem) (hp : P_12_work_94 pk72 M) : Rn g 57 m12_work 94 [some (.ref 0), none] [] M (some (.int (F_12_work_94 k72 M).1)) ((F_12_work_94 k72 M).2) := by
  rw [F_12_work_94]
  rw [P_12_work_94] at hp
  obtain ⟨hc, hp⟩ := hp
  refine b12_work_94  (C_12_blanks  M hc) (Nat.le_of_ble_eq_true rfl) ?_
  exact T_12_work_98 k72 pk72 ih72 (F_12_blanks_0 FU M) hp
def F_12_work_112 (xs0 : Int32) (M : Mem) : Int32 × Mem := (xs0, M)
theorem T_12_work_112 {g : Gl} (xs0 : Int32) (M : Mem)  : Rn g 57 m12_work 112 [none, none] [.int xs0] M (some (.int (F_12_work_112 xs0 M).1)) ((F_12_work_112 xs0 M).2) := by
  rw [F_12_work_112]
  exact b12_work_112  rfl rfl
def F_12_work_168 (M : Mem) : Int32 × Mem := (rd M 0 41, M)
theorem T_12_work_168 {g : Gl} (M : Mem)  : Rn g 57 m12_work 168 [some (.ref 0), none] [] M (some (.int (F_12_work_168 M).1)) ((F_12_work_168 M).2) := by
  rw [F_12_work_168]
  exact b12_work_168  rfl rfl
def F_12_work_134 (M : Mem) : Int32 × Mem := F_12_work_168 (G_12_goes 8 0 (rd (wr (wr (wr (wr M 0 36 ((rd M 0 36) + 1)) 0 40 0) 0 41 0) 0 37 0) 0 30) (wr (wr (wr (wr M 0 36 ((rd M 0 36) + 1)) 0 40 0) 0 41 0) 0 37 0))
def P_12_work_134 (M : Mem) : Prop := ((H_12_goes 8 0 (rd (wr (wr (wr (wr M 0 36 ((rd M 0 36) + 1)) 0 40 0) 0 41 0) 0 37 0) 0 30) (wr (wr (wr (wr M 0 36 ((rd M 0 36) + 1)) 0 40 0) 0 41 0) 0 37 0)))
theorem T_12_work_134 {g : Gl} (M : Mem) (hp : P_12_work_134 M) : Rn g 57 m12_work 134 [some (.ref 0), none] [] M (some (.int (F_12_work_134 M).1)) ((F_12_work_134 M).2) := by
  rw [F_12_work_134]
  rw [P_12_work_134] at hp
  have hc := hp
  refine b12_work_134  (D_12_goes 8 0 (rd (wr (wr (wr (wr M 0 36 ((rd M 0 36) + 1)) 0 40 0) 0 41 0) 0 37 0) 0 30) (wr (wr (wr (wr M 0 36 ((rd M 0 36) + 1)) 0 40 0) 0 41 0) 0 37 0) hc) (Nat.le_of_ble_eq_true rfl) ?_
  exact T_12_work_168 (G_12_goes 8 0 (rd (wr (wr (wr (wr M 0 36 ((rd M 0 36) + 1)) 0 40 0) 0 41 0) 0 37 0) 0 30) (wr (wr (wr (wr M 0 36 ((rd M 0 36) + 1)) 0 40 0) 0 41 0) 0 37 0))
def F_12_work_101 (M : Mem) : Int32 × Mem := if (rd M 0 5) = 0 then (F_12_work_134 (F_12_copiesa_0 ((rd (wr M 0 3 (-1)) 0 36).toNatClampNeg) (wr M 0 3 (-1)))) else (F_12_work_112 ((F_12_ends2_0 M).1) ((F_12_ends2_0 M).2))
def P_12_work_101 (M : Mem) : Prop := (((rd M 0 5) = 0 → (vp_in (rd (wr M 0 3 (-1)) 0 36) 16) ∧ ((P_12_copiesa_0 ((rd (wr M 0 3 (-1)) 0 36).toNatClampNeg) (wr M 0 3 (-1))) ∧ (P_12_work_134 (F_12_copiesa_0 ((rd (wr M 0 3 (-1)) 0 36).toNatClampNeg) (wr M 0 3 (-1)))))) ∧ (¬ (rd M 0 5) = 0 → True))
theorem T_12_work_101 {g : Gl} (M : Mem) (hp : P_12_work_101 M) : Rn g 57 m12_work 101 [some (.ref 0), none] [] M (some (.int (F_12_work_101 M).1)) ((F_12_work_101 M).2) := by
  rw [F_12_work_101]
  rw [P_12_work_101] at hp
  refine b12_work_101  (fun h => ?_) (fun h => ?_)
  · rw [if_pos h]
    have hp := hp.1 h
    obtain ⟨p0, hp⟩ := hp
    obtain ⟨hc, hp⟩ := hp
    refine b12_work_113 p0 (C_12_copiesa ((rd (wr M 0 3 (-1)) 0 36).toNatClampNeg) (wr M 0 3 (-1)) hc) (Nat.le_of_ble_eq_true rfl) ?_
    exact T_12_work_134 (F_12_copiesa_0 ((rd (wr M 0 3 (-1)) 0 36).toNatClampNeg) (wr M 0 3 (-1))) hp
  · rw [if_neg h]
    refine b12_work_108  (C_12_ends2  M) (Nat.le_of_ble_eq_true rfl) ?_
    exact T_12_work_112 ((F_12_ends2_0 M).1) ((F_12_ends2_0 M).2)
def F_12_work_72  : Nat → Mem → Int32 × Mem
  | 0, M => (0, M)
  | n + 1, M => if (rd M 0 5) = 0 then (if (rd M 0 2) ≤ (rd M 0 4) then (F_12_work_101 M) else (F_12_work_94 (F_12_work_72 n) (G_12_readsStep 8 M))) else (F_12_work_101 M)
def P_12_work_72  : Nat → Mem → Prop
  | 0, _ => False
  | n + 1, M => ((¬ (rd M 0 5) = 0 → P_12_work_101 M) ∧ ((rd M 0 5) = 0 → (((rd M 0 2) ≤ (rd M 0 4) → P_12_work_101 M) ∧ (¬ (rd M 0 2) ≤ (rd M 0 4) → ((H_12_readsStep 8 M) ∧ (P_12_work_94 (P_12_work_72 n) (G_12_readsStep 8 M)))))))
theorem T_12_work_72 {g : Gl} : ∀ (n : Nat)  (M : Mem) (hp : P_12_work_72 n M), Rn g 57 m12_work 72 [some (.ref 0), none] [] M (some (.int (F_12_work_72 n M).1)) ((F_12_work_72 n M).2) := by
  intro n
  induction n with
  | zero => intro M hp; exact hp.elim
  | succ n ih =>
    intro M hp
    rw [F_12_work_72]
    rw [P_12_work_72] at hp
    refine b12_work_72  (fun h => ?_) (fun h => ?_)
    · rw [if_neg h]
      have hp := hp.1 h
      exact T_12_work_101 M hp
    · rw [if_pos h]
      have hp := hp.2 h
      refine b12_work_79  (fun h => ?_) (fun h => ?_)
      · rw [if_pos h]
        have hp := hp.1 h
        exact T_12_work_101 M hp
      · rw [if_neg h]
        have hp := hp.2 h
        obtain ⟨hc, hp⟩ := hp
        refine b12_work_90  (D_12_readsStep 8 M hc) (Nat.le_of_ble_eq_true rfl) ?_
        exact T_12_work_94 (F_12_work_72 n) (P_12_work_72 n) ih (G_12_readsStep 8 M) hp
def F_12_work_67 (M : Mem) : Int32 × Mem := F_12_work_72 FU (wr M 0 30 0)
def P_12_work_67 (M : Mem) : Prop := (P_12_work_72 FU (wr M 0 30 0))
theorem T_12_work_67 {g : Gl} (M : Mem) (hp : P_12_work_67 M) : Rn g 57 m12_work 67 [some (.ref 0), none] [] M (some (.int (F_12_work_67 M).1)) ((F_12_work_67 M).2) := by
  rw [F_12_work_67]
  rw [P_12_work_67] at hp
  refine b12_work_67  ?_
  exact T_12_work_72 FU (wr M 0 30 0) hp
def F_12_work_35 (x1 : Int32) (xs0 : Int32) (M : Mem) : Int32 × Mem := if xs0 = 0 then (if (rd M 0 36) = 16 then (((-20), wr (wr M 0 1 0) 0 3 (-1))) else (F_12_work_67 (F_12_starts_0 x1 M))) else ((0, M))
def P_12_work_35 (x1 : Int32) (xs0 : Int32) (M : Mem) : Prop := ((xs0 = 0 → ((¬ (rd M 0 36) = 16 → ((P_12_starts_0 x1 M) ∧ (P_12_work_67 (F_12_starts_0 x1 M)))) ∧ ((rd M 0 36) = 16 → True))) ∧ (¬ xs0 = 0 → True))
theorem T_12_work_35 {g : Gl} (x1 : Int32) (xs0 : Int32) (M : Mem) (hp : P_12_work_35 x1 xs0 M) : Rn g 57 m12_work 35 [some (.ref 0), some (.int x1)] [.int xs0] M (some (.int (F_12_work_35 x1 xs0 M).1)) ((F_12_work_35 x1 xs0 M).2) := by
  rw [F_12_work_35]
  rw [P_12_work_35] at hp
  refine b12_work_35  (fun h => ?_) (fun h => ?_)
  · rw [if_pos h]
    have hp := hp.1 h
    refine b12_work_40  (fun h => ?_) (fun h => ?_)
    · rw [if_neg h]
      have hp := hp.1 h
      obtain ⟨hc, hp⟩ := hp
      refine b12_work_62  (C_12_starts x1 M hc) (Nat.le_of_ble_eq_true rfl) ?_
      exact T_12_work_67 (F_12_starts_0 x1 M) hp
    · rw [if_pos h]
      exact b12_work_49  rfl rfl
  · rw [if_neg h]
    exact b12_work_38  rfl rfl
def F_12_work_30 (x1 : Int32) (xs0 : Int32) (M : Mem) : Int32 × Mem := F_12_work_35 x1 ((F_12_bad_0 xs0 1 1 M).1) ((F_12_bad_0 xs0 1 1 M).2)
def P_12_work_30 (x1 : Int32) (xs0 : Int32) (M : Mem) : Prop := ((P_12_bad_0 xs0 1 1 M) ∧ (P_12_work_35 x1 ((F_12_bad_0 xs0 1 1 M).1) ((F_12_bad_0 xs0 1 1 M).2)))
theorem T_12_work_30 {g : Gl} (x1 : Int32) (xs0 : Int32) (M : Mem) (hp : P_12_work_30 x1 xs0 M) : Rn g 57 m12_work 30 [some (.ref 0), some (.int x1)] [.int xs0, .ref 0] M (some (.int (F_12_work_30 x1 xs0 M).1)) ((F_12_work_30 x1 xs0 M).2) := by
  rw [F_12_work_30]
  rw [P_12_work_30] at hp
  obtain ⟨hc, hp⟩ := hp
  refine b12_work_30  (C_12_bad xs0 1 1 M hc) (Nat.le_of_ble_eq_true rfl) ?_
  exact T_12_work_35 x1 ((F_12_bad_0 xs0 1 1 M).1) ((F_12_bad_0 xs0 1 1 M).2) hp
def F_12_work_25 (x1 : Int32) (M : Mem) : Int32 × Mem := F_12_work_30 x1 1 M
def P_12_work_25 (x1 : Int32) (M : Mem) : Prop := (P_12_work_30 x1 1 M)
theorem T_12_work_25 {g : Gl} (x1 : Int32) (M : Mem) (hp : P_12_work_25 x1 M) : Rn g 57 m12_work 25 [some (.ref 0), some (.int x1)] [.ref 0] M (some (.int (F_12_work_25 x1 M).1)) ((F_12_work_25 x1 M).2) := by
  rw [F_12_work_25]
  rw [P_12_work_25] at hp
  refine b12_work_25  ?_
  exact T_12_work_30 x1 1 M hp
def F_12_work_0 (x1 : Int32) (M : Mem) : Int32 × Mem := if (F_12_in_0 (wr M 0 0 0) x1 0 (rd (wr M 0 0 0) 0 1)) = 0 then (F_12_work_25 x1 (wr M 0 0 0)) else (if x1 ≤ 150 then (F_12_work_30 x1 0 (wr M 0 0 0)) else (F_12_work_25 x1 (wr M 0 0 0)))
def P_12_work_0 (x1 : Int32) (M : Mem) : Prop := (((((F_12_in_0 (wr M 0 0 0) x1 0 (rd (wr M 0 0 0) 0 1)) = 0 → P_12_work_25 x1 (wr M 0 0 0)) ∧ (¬ (F_12_in_0 (wr M 0 0 0) x1 0 (rd (wr M 0 0 0) 0 1)) = 0 → ((x1 ≤ 150 → (P_12_work_30 x1 0 (wr M 0 0 0))) ∧ (¬ x1 ≤ 150 → P_12_work_25 x1 (wr M 0 0 0)))))))
theorem T_12_work_0 {g : Gl} (x1 : Int32) (M : Mem) (hp : P_12_work_0 x1 M) : Rn g 57 m12_work 0 [some (.ref 0), some (.int x1)] [] M (some (.int (F_12_work_0 x1 M).1)) ((F_12_work_0 x1 M).2) := by
  rw [F_12_work_0]
  rw [P_12_work_0] at hp
  refine b12_work_0  (C_12_in x1 0 (rd (wr M 0 0 0) 0 1) (wr M 0 0 0)) (Nat.le_of_ble_eq_true rfl) ?_
  refine b12_work_15  (fun h => ?_) (fun h => ?_)
  · rw [if_pos h]
    have hp := hp.1 h
    exact T_12_work_25 x1 (wr M 0 0 0) hp
  · rw [if_neg h]
    have hp := hp.2 h
    refine b12_work_18  (fun h => ?_) (fun h => ?_)
    · rw [if_pos h]
      have hp := hp.1 h
      refine b12_work_29  ?_
      exact T_12_work_30 x1 0 (wr M 0 0 0) hp
    · rw [if_neg h]
      have hp := hp.2 h
      exact T_12_work_25 x1 (wr M 0 0 0) hp
theorem C_12_work {g : Gl}  (x1 : Int32) (M : Mem) (hp : P_12_work_0 x1 M) : Ms g 57 m12_work [.ref 0, .int x1] M (some (.int (F_12_work_0 x1 M).1)) ((F_12_work_0 x1 M).2) := Ms.of okM_m12_work (Nat.le_of_ble_eq_true rfl) (R_wk (lc rfl (lc rfl l0)) (T_12_work_0 x1 M hp))
def F_12_undo_40 (M : Mem) : Int32 × Mem := (rd (wr M 0 37 0) 0 36, wr M 0 37 0)
theorem T_12_undo_40 {g : Gl} (M : Mem)  : Rn g 1 m12_undo 40 [some (.ref 0)] [] M (some (.int (F_12_undo_40 M).1)) ((F_12_undo_40 M).2) := by
  rw [F_12_undo_40]
  exact b12_undo_40  rfl rfl
def F_12_undo_0 (M : Mem) : Int32 × Mem := if (rd (wr M 0 0 0) 0 36) = 0 then (((-1), (wr M 0 0 0))) else (F_12_undo_40 (F_12_copiesb_0 (((rd (wr M 0 0 0) 0 36) - 1).toNatClampNeg) (wr (wr M 0 0 0) 0 36 ((rd (wr M 0 0 0) 0 36) - 1))))
def P_12_undo_0 (M : Mem) : Prop := ((¬ (rd (wr M 0 0 0) 0 36) = 0 → (vp_in ((rd (wr M 0 0 0) 0 36) - 1) 16) ∧ ((P_12_copiesb_0 (((rd (wr M 0 0 0) 0 36) - 1).toNatClampNeg) (wr (wr M 0 0 0) 0 36 ((rd (wr M 0 0 0) 0 36) - 1))))) ∧ ((rd (wr M 0 0 0) 0 36) = 0 → True))
theorem T_12_undo_0 {g : Gl} (M : Mem) (hp : P_12_undo_0 M) : Rn g 1 m12_undo 0 [some (.ref 0)] [] M (some (.int (F_12_undo_0 M).1)) ((F_12_undo_0 M).2) := by
  rw [F_12_undo_0]
  rw [P_12_undo_0] at hp
  refine b12_undo_0  (fun h => ?_) (fun h => ?_)
  · rw [if_neg h]
    have hp := hp.1 h
    obtain ⟨p0, hp⟩ := hp
    have hc := hp
    refine b12_undo_14 p0 (C_12_copiesb (((rd (wr M 0 0 0) 0 36) - 1).toNatClampNeg) (wr (wr M 0 0 0) 0 36 ((rd (wr M 0 0 0) 0 36) - 1)) hc) (Nat.le_of_ble_eq_true rfl) ?_
    exact T_12_undo_40 (F_12_copiesb_0 (((rd (wr M 0 0 0) 0 36) - 1).toNatClampNeg) (wr (wr M 0 0 0) 0 36 ((rd (wr M 0 0 0) 0 36) - 1)))
  · rw [if_pos h]
    exact b12_undo_12  rfl rfl
theorem C_12_undo {g : Gl}   (M : Mem) (hp : P_12_undo_0 M) : Ms g 1 m12_undo [.ref 0] M (some (.int (F_12_undo_0 M).1)) ((F_12_undo_0 M).2) := Ms.of okM_m12_undo (Nat.le_of_ble_eq_true rfl) (R_wk (lc rfl l0) (T_12_undo_0 M hp))
def F_12_sumOf_4 (M : Mem) : Nat → Int32 → Int32 → Int32 → Int32
  | 0, _, _, _ => 0
  | n + 1, x1, x2, x3 => if (rd M 4 ((1 : Int32).toNatClampNeg)) ≤ x3 then (x2) else ((F_12_sumOf_4 M n) x1 (x2 + (rd M 20 ((x1 + x3).toNatClampNeg))) (x3 + 1))
def P_12_sumOf_4 (M : Mem) : Nat → Int32 → Int32 → Int32 → Prop
  | 0, _, _, _ => False
  | n + 1, x1, x2, x3 => (((rd M 4 ((1 : Int32).toNatClampNeg)) ≤ x3 → True) ∧ (¬ (rd M 4 ((1 : Int32).toNatClampNeg)) ≤ x3 → (vp_in (x1 + x3) 56) ∧ ((P_12_sumOf_4 M n) x1 (x2 + (rd M 20 ((x1 + x3).toNatClampNeg))) (x3 + 1))))
theorem T_12_sumOf_4 {g : Gl} (M : Mem) : ∀ (n : Nat) (x1 : Int32) (x2 : Int32) (x3 : Int32) (hp : P_12_sumOf_4 M n x1 x2 x3), Rn g 0 m12_sumOf 4 [some (.ref 0), some (.int x1), some (.int x2), some (.int x3)] [] M (some (.int (F_12_sumOf_4 M n x1 x2 x3))) (M) := by
  intro n
  induction n with
  | zero => intro x1 x2 x3 hp; exact hp.elim
  | succ n ih =>
    intro x1 x2 x3 hp
    rw [F_12_sumOf_4]
    rw [P_12_sumOf_4] at hp
    refine b12_sumOf_4 (vpl (by decide)) (fun h => ?_) (fun h => ?_)
    · rw [if_pos h]
      exact b12_sumOf_31  rfl rfl
    · rw [if_neg h]
      have hp := hp.2 h
      obtain ⟨p0, hp⟩ := hp
      refine b12_sumOf_14 p0 ?_
      exact ih x1 (x2 + (rd M 20 ((x1 + x3).toNatClampNeg))) (x3 + 1) hp
def F_12_sumOf_0 (M : Mem) (x1 : Int32) : Int32 := F_12_sumOf_4 M FU x1 0 0
def P_12_sumOf_0 (M : Mem) (x1 : Int32) : Prop := (P_12_sumOf_4 M FU x1 0 0)
theorem T_12_sumOf_0 {g : Gl} (M : Mem) (x1 : Int32) (hp : P_12_sumOf_0 M x1) : Rn g 0 m12_sumOf 0 [some (.ref 0), some (.int x1), none, none] [] M (some (.int (F_12_sumOf_0 M x1))) (M) := by
  rw [F_12_sumOf_0]
  rw [P_12_sumOf_0] at hp
  refine b12_sumOf_0  ?_
  exact T_12_sumOf_4 _ FU x1 0 0 hp
theorem C_12_sumOf {g : Gl}  (x1 : Int32) (M : Mem) (hp : P_12_sumOf_0 M x1) : Ms g 0 m12_sumOf [.ref 0, .int x1] M (some (.int (F_12_sumOf_0 M x1))) (M) := Ms.of okM_m12_sumOf (Nat.le_of_ble_eq_true rfl) (R_wk (lc rfl (lc rfl (ln (ln l0)))) (T_12_sumOf_0 M x1 hp))
def F_12_told_138 (k103 : Int32 → Int32 → Mem → Int32 × Mem) (x3 : Int32) (xs0 : Int32) (xs1 : Int32) (M : Mem) : Int32 × Mem := k103 (xs1 + xs0) (x3 + 1) M
def P_12_told_138 (pk103 : Int32 → Int32 → Mem → Prop) (x3 : Int32) (xs0 : Int32) (xs1 : Int32) (M : Mem) : Prop := (pk103 (xs1 + xs0) (x3 + 1) M)
theorem T_12_told_138 {g : Gl} (k103 : Int32 → Int32 → Mem → Int32 × Mem) (pk103 : Int32 → Int32 → Mem → Prop) (ih103 : ∀ (x2 : Int32) (x3 : Int32) (M : Mem), pk103 x2 x3 M → Rn g 6 m12_told 103 [some (.ref 0), none, some (.int x2), some (.int x3)] [] M (some (.int (k103 x2 x3 M).1)) ((k103 x2 x3 M).2)) (x3 : Int32) (xs0 : Int32) (xs1 : Int32) (M : Mem) (hp : P_12_told_138 pk103 x3 xs0 xs1 M) : Rn g 6 m12_told 138 [some (.ref 0), none, none, some (.int x3)] [.int xs0, .int xs1] M (some (.int (F_12_told_138 k103 x3 xs0 xs1 M).1)) ((F_12_told_138 k103 x3 xs0 xs1 M).2) := by
  rw [F_12_told_138]
  rw [P_12_told_138] at hp
  refine b12_told_138  ?_
  exact ih103 (xs1 + xs0) (x3 + 1) M hp
def F_12_told_130 (k103 : Int32 → Int32 → Mem → Int32 × Mem) (x3 : Int32) (xs0 : Int32) (xs1 : Int32) (M : Mem) : Int32 × Mem := if xs0 = 0 then (F_12_told_138 k103 x3 0 xs1 M) else (F_12_told_138 k103 x3 1 xs1 M)
def P_12_told_130 (pk103 : Int32 → Int32 → Mem → Prop) (x3 : Int32) (xs0 : Int32) (xs1 : Int32) (M : Mem) : Prop := ((xs0 = 0 → (P_12_told_138 pk103 x3 0 xs1 M)) ∧ (¬ xs0 = 0 → (P_12_told_138 pk103 x3 1 xs1 M)))
theorem T_12_told_130 {g : Gl} (k103 : Int32 → Int32 → Mem → Int32 × Mem) (pk103 : Int32 → Int32 → Mem → Prop) (ih103 : ∀ (x2 : Int32) (x3 : Int32) (M : Mem), pk103 x2 x3 M → Rn g 6 m12_told 103 [some (.ref 0), none, some (.int x2), some (.int x3)] [] M (some (.int (k103 x2 x3 M).1)) ((k103 x2 x3 M).2)) (x3 : Int32) (xs0 : Int32) (xs1 : Int32) (M : Mem) (hp : P_12_told_130 pk103 x3 xs0 xs1 M) : Rn g 6 m12_told 130 [some (.ref 0), none, none, some (.int x3)] [.int xs0, .int xs1] M (some (.int (F_12_told_130 k103 x3 xs0 xs1 M).1)) ((F_12_told_130 k103 x3 xs0 xs1 M).2) := by
  rw [F_12_told_130]
  rw [P_12_told_130] at hp
  refine b12_told_130  (fun h => ?_) (fun h => ?_)
  · rw [if_pos h]
    have hp := hp.1 h
    refine b12_told_137  ?_
    exact T_12_told_138 k103 pk103 ih103 x3 0 xs1 M hp
  · rw [if_neg h]
    have hp := hp.2 h
    refine b12_told_133  ?_
    exact T_12_told_138 k103 pk103 ih103 x3 1 xs1 M hp
def F_12_told_103  : Nat → Int32 → Int32 → Mem → Int32 × Mem
  | 0, _, _, M => (0, M)
  | n + 1, x2, x3, M => if (rd M 4 ((1 : Int32).toNatClampNeg)) ≤ x3 then ((x2, M)) else (F_12_told_130 (F_12_told_103 n) x3 ((F_12_isOpenIn_0 x3 (rd M 20 ((55 : Int32).toNatClampNeg)) M).1) x2 ((F_12_isOpenIn_0 x3 (rd M 20 ((55 : Int32).toNatClampNeg)) M).2))
def P_12_told_103  : Nat → Int32 → Int32 → Mem → Prop
  | 0, _, _, _ => False
  | n + 1, x2, x3, M => (((rd M 4 ((1 : Int32).toNatClampNeg)) ≤ x3 → True) ∧ (¬ (rd M 4 ((1 : Int32).toNatClampNeg)) ≤ x3 → ((P_12_isOpenIn_0 x3 (rd M 20 ((55 : Int32).toNatClampNeg)) M) ∧ (P_12_told_130 (P_12_told_103 n) x3 ((F_12_isOpenIn_0 x3 (rd M 20 ((55 : Int32).toNatClampNeg)) M).1) x2 ((F_12_isOpenIn_0 x3 (rd M 20 ((55 : Int32).toNatClampNeg)) M).2)))))
theorem T_12_told_103 {g : Gl} : ∀ (n : Nat) (x2 : Int32) (x3 : Int32) (M : Mem) (hp : P_12_told_103 n x2 x3 M), Rn g 6 m12_told 103 [some (.ref 0), none, some (.int x2), some (.int x3)] [] M (some (.int (F_12_told_103 n x2 x3 M).1)) ((F_12_told_103 n x2 x3 M).2) := by
  intro n
  induction n with
  | zero => intro x2 x3 M hp; exact hp.elim
  | succ n ih =>
    intro x2 x3 M hp
    rw [F_12_told_103]
    rw [P_12_told_103] at hp
    refine b12_told_103 (vpl (by decide)) (fun h => ?_) (fun h => ?_)
    · rw [if_pos h]
      exact b12_told_146  rfl rfl
    · rw [if_neg h]
      have hp := hp.2 h
      obtain ⟨hc, hp⟩ := hp
      refine b12_told_113 (vpl (by decide)) (C_12_isOpenIn x3 (rd M 20 ((55 : Int32).toNatClampNeg)) M hc) (Nat.le_of_ble_eq_true rfl) ?_
      exact T_12_told_130 (F_12_told_103 n) (P_12_told_103 n) ih x3 ((F_12_isOpenIn_0 x3 (rd M 20 ((55 : Int32).toNatClampNeg)) M).1) x2 ((F_12_isOpenIn_0 x3 (rd M 20 ((55 : Int32).toNatClampNeg)) M).2) hp
def F_12_told_26 (x1 : Int32) (xs0 : Int32) (M : Mem) : Int32 × Mem := if xs0 = 0 then ((if x1 = 0 then (rd M 4 x1.toNatClampNeg, M) else (if x1 = 1 then (rd M 4 x1.toNatClampNeg, M) else (if x1 = 2 then (rd M 4 x1.toNatClampNeg, M) else (if x1 = 3 then (rd M 20 ((55 : Int32).toNatClampNeg), M) else (if x1 = 4 then (F_12_told_103 FU 0 0 M) else (if x1 = 5 then ((F_12_sumOf_0 M 6), M) else (if x1 = 6 then ((F_12_sumOf_0 M 30), M) else (if x1 = 7 then (rd M 20 ((54 : Int32).toNatClampNeg), M) else (if x1 = 8 then (rd M 0 35, M) else (rd M 0 37, M))))))))))) else ((0, M))
def P_12_told_26 (x1 : Int32) (xs0 : Int32) (M : Mem) : Prop := ((xs0 = 0 → ((x1 = 0 → (vp_in x1 4)) ∧ (x1 = 1 → (vp_in x1 4)) ∧ (x1 = 2 → (vp_in x1 4)) ∧ (x1 = 3 → True) ∧ (x1 = 4 → (P_12_told_103 FU 0 0 M)) ∧ (x1 = 5 → ((P_12_sumOf_0 M 6))) ∧ (x1 = 6 → ((P_12_sumOf_0 M 30))) ∧ (x1 = 7 → True) ∧ (x1 = 8 → True) ∧ (¬ x1 = 0 ∧ ¬ x1 = 1 ∧ ¬ x1 = 2 ∧ ¬ x1 = 3 ∧ ¬ x1 = 4 ∧ ¬ x1 = 5 ∧ ¬ x1 = 6 ∧ ¬ x1 = 7 ∧ ¬ x1 = 8 → True))) ∧ (¬ xs0 = 0 → True))
theorem T_12_told_26 {g : Gl} (x1 : Int32) (xs0 : Int32) (M : Mem) (hp : P_12_told_26 x1 xs0 M) : Rn g 6 m12_told 26 [some (.ref 0), some (.int x1), none, none] [.int xs0] M (some (.int (F_12_told_26 x1 xs0 M).1)) ((F_12_told_26 x1 xs0 M).2) := by
  rw [F_12_told_26]
  rw [P_12_told_26] at hp
  refine b12_told_26  (fun h => ?_) (fun h => ?_)
  · rw [if_pos h]
    have hp := hp.1 h
    by_cases h0 : x1 = 0
    · rw [if_pos h0]
      have hp := hp.1 h0
      refine b12_told_31_c0  h0 ?_
      have p0 := hp
      exact b12_told_84 p0 rfl rfl
    rw [if_neg h0]
    by_cases h1 : x1 = 1
    · rw [if_pos h1]
      have hp := hp.2.1 h1
      refine b12_told_31_c1  h1 ?_
      have p1 := hp
      exact b12_told_84 p1 rfl rfl
    rw [if_neg h1]
    by_cases h2 : x1 = 2
    · rw [if_pos h2]
      have hp := hp.2.2.1 h2
      refine b12_told_31_c2  h2 ?_
      have p2 := hp
      exact b12_told_84 p2 rfl rfl
    rw [if_neg h2]
    by_cases h3 : x1 = 3
    · rw [if_pos h3]
      refine b12_told_31_c3  h3 ?_
      exact b12_told_91 (vpl (by decide)) rfl rfl
    rw [if_neg h3]
    by_cases h4 : x1 = 4
    · rw [if_pos h4]
      have hp := hp.2.2.2.2.1 h4
      refine b12_told_31_c4  h4 ?_
      refine b12_told_99  ?_
      exact T_12_told_103 FU 0 0 M hp
    rw [if_neg h4]
    by_cases h5 : x1 = 5
    · rw [if_pos h5]
      have hp := hp.2.2.2.2.2.1 h5
      refine b12_told_31_c5  h5 ?_
      have hc := hp
      refine b12_told_148  (C_12_sumOf 6 M hc) (Nat.le_of_ble_eq_true rfl) ?_
      exact b12_told_154  rfl rfl
    rw [if_neg h5]
    by_cases h6 : x1 = 6
    · rw [if_pos h6]
      have hp := hp.2.2.2.2.2.2.1 h6
      refine b12_told_31_c6  h6 ?_
      have hc := hp
      refine b12_told_155  (C_12_sumOf 30 M hc) (Nat.le_of_ble_eq_true rfl) ?_
      exact b12_told_161  rfl rfl
    rw [if_neg h6]
    by_cases h7 : x1 = 7
    · rw [if_pos h7]
      refine b12_told_31_c7  h7 ?_
      exact b12_told_162 (vpl (by decide)) rfl rfl
    rw [if_neg h7]
    by_cases h8 : x1 = 8
    · rw [if_pos h8]
      refine b12_told_31_c8  h8 ?_
      exact b12_told_170  rfl rfl
    rw [if_neg h8]
    refine b12_told_31_d  (sw_out (x := x1) (lo := 0) (hi := 8) (by intro z ha hb e; rcases (show z = 0 ∨ z = 1 ∨ z = 2 ∨ z = 3 ∨ z = 4 ∨ z = 5 ∨ z = 6 ∨ z = 7 ∨ z = 8 by omega) with r | r | r | r | r | r | r | r | r <;> subst r <;> first | exact h0 (Int32.toInt_inj.mp (e.trans (by decide))) | exact h1 (Int32.toInt_inj.mp (e.trans (by decide))) | exact h2 (Int32.toInt_inj.mp (e.trans (by decide))) | exact h3 (Int32.toInt_inj.mp (e.trans (by decide))) | exact h4 (Int32.toInt_inj.mp (e.trans (by decide))) | exact h5 (Int32.toInt_inj.mp (e.trans (by decide))) | exact h6 (Int32.toInt_inj.mp (e.trans (by decide))) | exact h7 (Int32.toInt_inj.mp (e.trans (by decide))) | exact h8 (Int32.toInt_inj.mp (e.trans (by decide))))) ?_
    exact b12_told_175  rfl rfl
  · rw [if_neg h]
    exact b12_told_29  rfl rfl
def F_12_told_21 (x1 : Int32) (xs0 : Int32) (M : Mem) : Int32 × Mem := F_12_told_26 x1 ((F_12_bad_0 xs0 1 1 M).1) ((F_12_bad_0 xs0 1 1 M).2)
def P_12_told_21 (x1 : Int32) (xs0 : Int32) (M : Mem) : Prop := ((P_12_bad_0 xs0 1 1 M) ∧ (P_12_told_26 x1 ((F_12_bad_0 xs0 1 1 M).1) ((F_12_bad_0 xs0 1 1 M).2)))
theorem T_12_told_21 {g : Gl} (x1 : Int32) (xs0 : Int32) (M : Mem) (hp : P_12_told_21 x1 xs0 M) : Rn g 6 m12_told 21 [some (.ref 0), some (.int x1), none, none] [.int xs0, .ref 0] M (some (.int (F_12_told_21 x1 xs0 M).1)) ((F_12_told_21 x1 xs0 M).2) := by
  rw [F_12_told_21]
  rw [P_12_told_21] at hp
  obtain ⟨hc, hp⟩ := hp
  refine b12_told_21  (C_12_bad xs0 1 1 M hc) (Nat.le_of_ble_eq_true rfl) ?_
  exact T_12_told_26 x1 ((F_12_bad_0 xs0 1 1 M).1) ((F_12_bad_0 xs0 1 1 M).2) hp
def F_12_told_0 (x1 : Int32) (M : Mem) : Int32 × Mem := if (F_12_in_0 (wr M 0 0 0) x1 0 9) = 0 then (F_12_told_21 x1 1 (wr M 0 0 0)) else (F_12_told_21 x1 0 (wr M 0 0 0))
def P_12_told_0 (x1 : Int32) (M : Mem) : Prop := ((((¬ (F_12_in_0 (wr M 0 0 0) x1 0 9) = 0 → (P_12_told_21 x1 0 (wr M 0 0 0))) ∧ ((F_12_in_0 (wr M 0 0 0) x1 0 9) = 0 → (P_12_told_21 x1 1 (wr M 0 0 0))))))
theorem T_12_told_0 {g : Gl} (x1 : Int32) (M : Mem) (hp : P_12_told_0 x1 M) : Rn g 6 m12_told 0 [some (.ref 0), some (.int x1), none, none] [] M (some (.int (F_12_told_0 x1 M).1)) ((F_12_told_0 x1 M).2) := by
  rw [F_12_told_0]
  rw [P_12_told_0] at hp
  refine b12_told_0  (C_12_in x1 0 9 (wr M 0 0 0)) (Nat.le_of_ble_eq_true rfl) ?_
  refine b12_told_13  (fun h => ?_) (fun h => ?_)
  · rw [if_neg h]
    have hp := hp.1 h
    refine b12_told_20  ?_
    exact T_12_told_21 x1 0 (wr M 0 0 0) hp
  · rw [if_pos h]
    have hp := hp.2 h
    refine b12_told_16  ?_
    exact T_12_told_21 x1 1 (wr M 0 0 0) hp
theorem C_12_told {g : Gl}  (x1 : Int32) (M : Mem) (hp : P_12_told_0 x1 M) : Ms g 6 m12_told [.ref 0, .int x1] M (some (.int (F_12_told_0 x1 M).1)) ((F_12_told_0 x1 M).2) := Ms.of okM_m12_told (Nat.le_of_ble_eq_true rfl) (R_wk (lc rfl (lc rfl (ln (ln l0)))) (T_12_told_0 x1 M hp))
def F_12_isRoom_0 (M : Mem) (x1 : Int32) : Int32 := (F_12_in_0 M x1 0 ((rd M 4 ((0 : Int32).toNatClampNeg)) - 1))
def P_12_isRoom_0 (M : Mem) (x1 : Int32) : Prop := (((narrow .boolean (.int (F_12_in_0 M x1 0 ((rd M 4 ((0 : Int32).toNatClampNeg)) - 1))) = .int (F_12_in_0 M x1 0 ((rd M 4 ((0 : Int32).toNatClampNeg)) - 1)))))
theorem T_12_isRoom_0 {g : Gl} (M : Mem) (x1 : Int32) (hp : P_12_isRoom_0 M x1) : Rn g 1 m12_isRoom 0 [some (.ref 0), some (.int x1)] [] M (some (.int (F_12_isRoom_0 M x1))) (M) := by
  rw [F_12_isRoom_0]
  rw [P_12_isRoom_0] at hp
  refine b12_isRoom_0 (vpl (by decide)) (C_12_in x1 0 ((rd M 4 ((0 : Int32).toNatClampNeg)) - 1) M) (Nat.le_of_ble_eq_true rfl) ?_
  have p0 := hp
  exact b12_isRoom_13  rfl rfl p0
theorem C_12_isRoom {g : Gl}  (x1 : Int32) (M : Mem) (hp : P_12_isRoom_0 M x1) : Ms g 1 m12_isRoom [.ref 0, .int x1] M (some (.int (F_12_isRoom_0 M x1))) (M) := Ms.of okM_m12_isRoom (Nat.le_of_ble_eq_true rfl) (R_wk (lc rfl (lc rfl l0)) (T_12_isRoom_0 M x1 hp))
def F_12_isDoor_0 (M : Mem) (x1 : Int32) : Int32 := (F_12_in_0 M x1 0 ((rd M 4 ((1 : Int32).toNatClampNeg)) - 1))
def P_12_isDoor_0 (M : Mem) (x1 : Int32) : Prop := (((narrow .boolean (.int (F_12_in_0 M x1 0 ((rd M 4 ((1 : Int32).toNatClampNeg)) - 1))) = .int (F_12_in_0 M x1 0 ((rd M 4 ((1 : Int32).toNatClampNeg)) - 1)))))
theorem T_12_isDoor_0 {g : Gl} (M : Mem) (x1 : Int32) (hp : P_12_isDoor_0 M x1) : Rn g 1 m12_isDoor 0 [some (.ref 0), some (.int x1)] [] M (some (.int (F_12_isDoor_0 M x1))) (M) := by
  rw [F_12_isDoor_0]
  rw [P_12_isDoor_0] at hp
  refine b12_isDoor_0 (vpl (by decide)) (C_12_in x1 0 ((rd M 4 ((1 : Int32).toNatClampNeg)) - 1) M) (Nat.le_of_ble_eq_true rfl) ?_
  have p0 := hp
  exact b12_isDoor_13  rfl rfl p0
theorem C_12_isDoor {g : Gl}  (x1 : Int32) (M : Mem) (hp : P_12_isDoor_0 M x1) : Ms g 1 m12_isDoor [.ref 0, .int x1] M (some (.int (F_12_isDoor_0 M x1))) (M) := Ms.of okM_m12_isDoor (Nat.le_of_ble_eq_true rfl) (R_wk (lc rfl (lc rfl l0)) (T_12_isDoor_0 M x1 hp))
def F_12_toursIn_32 (k4 : Int32 → Int32 → Int32 → Int32) (M : Mem) (x1 : Int32) (x3 : Int32) (xs0 : Int32) (xs1 : Int32) : Int32 := k4 x1 (xs1 + xs0) (x3 + 1)
def P_12_toursIn_32 (pk4 : Int32 → Int32 → Int32 → Prop) (M : Mem) (x1 : Int32) (x3 : Int32) (xs0 : Int32) (xs1 : Int32) : Prop := (pk4 x1 (xs1 + xs0) (x3 + 1))
theorem T_12_toursIn_32 {g : Gl} (k4 : Int32 → Int32 → Int32 → Int32) (pk4 : Int32 → Int32 → Int32 → Prop) (M : Mem) (ih4 : ∀ (x1 : Int32) (x2 : Int32) (x3 : Int32), pk4 x1 x2 x3 → Rn g 0 m12_toursIn 4 [some (.ref 0), some (.int x1), some (.int x2), some (.int x3)] [] M (some (.int (k4 x1 x2 x3))) (M)) (x1 : Int32) (x3 : Int32) (xs0 : Int32) (xs1 : Int32) (hp : P_12_toursIn_32 pk4 M x1 x3 xs0 xs1) : Rn g 0 m12_toursIn 32 [some (.ref 0), some (.int x1), none, some (.int x3)] [.int xs0, .int xs1] M (some (.int (F_12_toursIn_32 k4 M x1 x3 xs0 xs1))) (M) := by
  rw [F_12_toursIn_32]
  rw [P_12_toursIn_32] at hp
  refine b12_toursIn_32  ?_
  exact ih4 x1 (xs1 + xs0) (x3 + 1) hp
def F_12_toursIn_4 (M : Mem) : Nat → Int32 → Int32 → Int32 → Int32
  | 0, _, _, _ => 0
  | n + 1, x1, x2, x3 => if (rd M 4 ((2 : Int32).toNatClampNeg)) ≤ x3 then (x2) else (if (rd M 20 ((0 + x3).toNatClampNeg)) = x1 then (F_12_toursIn_32 (F_12_toursIn_4 M n) M x1 x3 1 x2) else (F_12_toursIn_32 (F_12_toursIn_4 M n) M x1 x3 0 x2))
def P_12_toursIn_4 (M : Mem) : Nat → Int32 → Int32 → Int32 → Prop
  | 0, _, _, _ => False
  | n + 1, x1, x2, x3 => (((rd M 4 ((2 : Int32).toNatClampNeg)) ≤ x3 → True) ∧ (¬ (rd M 4 ((2 : Int32).toNatClampNeg)) ≤ x3 → (vp_in (0 + x3) 56) ∧ ((¬ (rd M 20 ((0 + x3).toNatClampNeg)) = x1 → (P_12_toursIn_32 (P_12_toursIn_4 M n) M x1 x3 0 x2)) ∧ ((rd M 20 ((0 + x3).toNatClampNeg)) = x1 → (P_12_toursIn_32 (P_12_toursIn_4 M n) M x1 x3 1 x2)))))
theorem T_12_toursIn_4 {g : Gl} (M : Mem) : ∀ (n : Nat) (x1 : Int32) (x2 : Int32) (x3 : Int32) (hp : P_12_toursIn_4 M n x1 x2 x3), Rn g 0 m12_toursIn 4 [some (.ref 0), some (.int x1), some (.int x2), some (.int x3)] [] M (some (.int (F_12_toursIn_4 M n x1 x2 x3))) (M) := by
  intro n
  induction n with
  | zero => intro x1 x2 x3 hp; exact hp.elim
  | succ n ih =>
    intro x1 x2 x3 hp
    rw [F_12_toursIn_4]
    rw [P_12_toursIn_4] at hp
    refine b12_toursIn_4 (vpl (by decide)) (fun h => ?_) (fun h => ?_)
    · rw [if_pos h]
      exact b12_toursIn_40  rfl rfl
    · rw [if_neg h]
      have hp := hp.2 h
      obtain ⟨p0, hp⟩ := hp
      refine b12_toursIn_14 p0 (fun h => ?_) (fun h => ?_)
      · rw [if_neg h]
        have hp := hp.1 h
        refine b12_toursIn_31  ?_
        exact T_12_toursIn_32 (F_12_toursIn_4 M n) (P_12_toursIn_4 M n) _ ih x1 x3 0 x2 hp
      · rw [if_pos h]
        have hp := hp.2 h
        refine b12_toursIn_27  ?_
        exact T_12_toursIn_32 (F_12_toursIn_4 M n) (P_12_toursIn_4 M n) _ ih x1 x3 1 x2 hp
def F_12_toursIn_0 (M : Mem) (x1 : Int32) : Int32 := F_12_toursIn_4 M FU x1 0 0
def P_12_toursIn_0 (M : Mem) (x1 : Int32) : Prop := (P_12_toursIn_4 M FU x1 0 0)
theorem T_12_toursIn_0 {g : Gl} (M : Mem) (x1 : Int32) (hp : P_12_toursIn_0 M x1) : Rn g 0 m12_toursIn 0 [some (.ref 0), some (.int x1), none, none] [] M (some (.int (F_12_toursIn_0 M x1))) (M) := by
  rw [F_12_toursIn_0]
  rw [P_12_toursIn_0] at hp
  refine b12_toursIn_0  ?_
  exact T_12_toursIn_4 _ FU x1 0 0 hp
theorem C_12_toursIn {g : Gl}  (x1 : Int32) (M : Mem) (hp : P_12_toursIn_0 M x1) : Ms g 0 m12_toursIn [.ref 0, .int x1] M (some (.int (F_12_toursIn_0 M x1))) (M) := Ms.of okM_m12_toursIn (Nat.le_of_ble_eq_true rfl) (R_wk (lc rfl (lc rfl (ln (ln l0)))) (T_12_toursIn_0 M x1 hp))
def F_12_doorsOf_51 (k6 : Int32 → Int32 → Int32 → Int32 → Int32 → Mem → Int32 × Mem) (x1 : Int32) (x2 : Int32) (x3 : Int32) (x5 : Int32) (xs0 : Int32) (xs1 : Int32) (M : Mem) : Int32 × Mem := k6 x1 x2 x3 (xs1 + xs0) (x5 + 1) M
def P_12_doorsOf_51 (pk6 : Int32 → Int32 → Int32 → Int32 → Int32 → Mem → Prop) (x1 : Int32) (x2 : Int32) (x3 : Int32) (x5 : Int32) (xs0 : Int32) (xs1 : Int32) (M : Mem) : Prop := (pk6 x1 x2 x3 (xs1 + xs0) (x5 + 1) M)
theorem T_12_doorsOf_51 {g : Gl} (k6 : Int32 → Int32 → Int32 → Int32 → Int32 → Mem → Int32 × Mem) (pk6 : Int32 → Int32 → Int32 → Int32 → Int32 → Mem → Prop) (ih6 : ∀ (x1 : Int32) (x2 : Int32) (x3 : Int32) (x4 : Int32) (x5 : Int32) (M : Mem), pk6 x1 x2 x3 x4 x5 M → Rn g 6 m12_doorsOf 6 [some (.ref 0), some (.int x1), some (.int x2), some (.int x3), some (.int x4), some (.int x5)] [] M (some (.int (k6 x1 x2 x3 x4 x5 M).1)) ((k6 x1 x2 x3 x4 x5 M).2)) (x1 : Int32) (x2 : Int32) (x3 : Int32) (x5 : Int32) (xs0 : Int32) (xs1 : Int32) (M : Mem) (hp : P_12_doorsOf_51 pk6 x1 x2 x3 x5 xs0 xs1 M) : Rn g 6 m12_doorsOf 51 [some (.ref 0), some (.int x1), some (.int x2), some (.int x3), none, some (.int x5)] [.int xs0, .int xs1] M (some (.int (F_12_doorsOf_51 k6 x1 x2 x3 x5 xs0 xs1 M).1)) ((F_12_doorsOf_51 k6 x1 x2 x3 x5 xs0 xs1 M).2) := by
  rw [F_12_doorsOf_51]
  rw [P_12_doorsOf_51] at hp
  refine b12_doorsOf_51  ?_
  exact ih6 x1 x2 x3 (xs1 + xs0) (x5 + 1) M hp
def F_12_doorsOf_50 (k6 : Int32 → Int32 → Int32 → Int32 → Int32 → Mem → Int32 × Mem) (x1 : Int32) (x2 : Int32) (x3 : Int32) (x5 : Int32) (xs0 : Int32) (M : Mem) : Int32 × Mem := F_12_doorsOf_51 k6 x1 x2 x3 x5 0 xs0 M
def P_12_doorsOf_50 (pk6 : Int32 → Int32 → Int32 → Int32 → Int32 → Mem → Prop) (x1 : Int32) (x2 : Int32) (x3 : Int32) (x5 : Int32) (xs0 : Int32) (M : Mem) : Prop := (P_12_doorsOf_51 pk6 x1 x2 x3 x5 0 xs0 M)
theorem T_12_doorsOf_50 {g : Gl} (k6 : Int32 → Int32 → Int32 → Int32 → Int32 → Mem → Int32 × Mem) (pk6 : Int32 → Int32 → Int32 → Int32 → Int32 → Mem → Prop) (ih6 : ∀ (x1 : Int32) (x2 : Int32) (x3 : Int32) (x4 : Int32) (x5 : Int32) (M : Mem), pk6 x1 x2 x3 x4 x5 M → Rn g 6 m12_doorsOf 6 [some (.ref 0), some (.int x1), some (.int x2), some (.int x3), some (.int x4), some (.int x5)] [] M (some (.int (k6 x1 x2 x3 x4 x5 M).1)) ((k6 x1 x2 x3 x4 x5 M).2)) (x1 : Int32) (x2 : Int32) (x3 : Int32) (x5 : Int32) (xs0 : Int32) (M : Mem) (hp : P_12_doorsOf_50 pk6 x1 x2 x3 x5 xs0 M) : Rn g 6 m12_doorsOf 50 [some (.ref 0), some (.int x1), some (.int x2), some (.int x3), none, some (.int x5)] [.int xs0] M (some (.int (F_12_doorsOf_50 k6 x1 x2 x3 x5 xs0 M).1)) ((F_12_doorsOf_50 k6 x1 x2 x3 x5 xs0 M).2) := by
  rw [F_12_doorsOf_50]
  rw [P_12_doorsOf_50] at hp
  refine b12_doorsOf_50  ?_
  exact T_12_doorsOf_51 k6 pk6 ih6 x1 x2 x3 x5 0 xs0 M hp
def F_12_doorsOf_43 (k6 : Int32 → Int32 → Int32 → Int32 → Int32 → Mem → Int32 × Mem) (x1 : Int32) (x2 : Int32) (x3 : Int32) (x5 : Int32) (xs0 : Int32) (xs1 : Int32) (M : Mem) : Int32 × Mem := if xs0 = 0 then (F_12_doorsOf_50 k6 x1 x2 x3 x5 xs1 M) else (F_12_doorsOf_51 k6 x1 x2 x3 x5 1 xs1 M)
def P_12_doorsOf_43 (pk6 : Int32 → Int32 → Int32 → Int32 → Int32 → Mem → Prop) (x1 : Int32) (x2 : Int32) (x3 : Int32) (x5 : Int32) (xs0 : Int32) (xs1 : Int32) (M : Mem) : Prop := ((xs0 = 0 → P_12_doorsOf_50 pk6 x1 x2 x3 x5 xs1 M) ∧ (¬ xs0 = 0 → (P_12_doorsOf_51 pk6 x1 x2 x3 x5 1 xs1 M)))
theorem T_12_doorsOf_43 {g : Gl} (k6 : Int32 → Int32 → Int32 → Int32 → Int32 → Mem → Int32 × Mem) (pk6 : Int32 → Int32 → Int32 → Int32 → Int32 → Mem → Prop) (ih6 : ∀ (x1 : Int32) (x2 : Int32) (x3 : Int32) (x4 : Int32) (x5 : Int32) (M : Mem), pk6 x1 x2 x3 x4 x5 M → Rn g 6 m12_doorsOf 6 [some (.ref 0), some (.int x1), some (.int x2), some (.int x3), some (.int x4), some (.int x5)] [] M (some (.int (k6 x1 x2 x3 x4 x5 M).1)) ((k6 x1 x2 x3 x4 x5 M).2)) (x1 : Int32) (x2 : Int32) (x3 : Int32) (x5 : Int32) (xs0 : Int32) (xs1 : Int32) (M : Mem) (hp : P_12_doorsOf_43 pk6 x1 x2 x3 x5 xs0 xs1 M) : Rn g 6 m12_doorsOf 43 [some (.ref 0), some (.int x1), some (.int x2), some (.int x3), none, some (.int x5)] [.int xs0, .int xs1] M (some (.int (F_12_doorsOf_43 k6 x1 x2 x3 x5 xs0 xs1 M).1)) ((F_12_doorsOf_43 k6 x1 x2 x3 x5 xs0 xs1 M).2) := by
  rw [F_12_doorsOf_43]
  rw [P_12_doorsOf_43] at hp
  refine b12_doorsOf_43  (fun h => ?_) (fun h => ?_)
  · rw [if_pos h]
    have hp := hp.1 h
    exact T_12_doorsOf_50 k6 pk6 ih6 x1 x2 x3 x5 xs1 M hp
  · rw [if_neg h]
    have hp := hp.2 h
    refine b12_doorsOf_46  ?_
    exact T_12_doorsOf_51 k6 pk6 ih6 x1 x2 x3 x5 1 xs1 M hp
def F_12_doorsOf_6  : Nat → Int32 → Int32 → Int32 → Int32 → Int32 → Mem → Int32 × Mem
  | 0, _, _, _, _, _, M => (0, M)
  | n + 1, x1, x2, x3, x4, x5, M => if (rd M 4 ((1 : Int32).toNatClampNeg)) ≤ x5 then ((x4, M)) else (if (rd M (54 + x5.toNatClampNeg) x2.toNatClampNeg) = x1 then (F_12_doorsOf_43 (F_12_doorsOf_6 n) x1 x2 x3 x5 ((F_12_isOpenIn_0 x5 x3 M).1) x4 ((F_12_isOpenIn_0 x5 x3 M).2)) else (F_12_doorsOf_50 (F_12_doorsOf_6 n) x1 x2 x3 x5 x4 M))
def P_12_doorsOf_6  : Nat → Int32 → Int32 → Int32 → Int32 → Int32 → Mem → Prop
  | 0, _, _, _, _, _, _ => False
  | n + 1, x1, x2, x3, x4, x5, M => (((rd M 4 ((1 : Int32).toNatClampNeg)) ≤ x5 → True) ∧ (¬ (rd M 4 ((1 : Int32).toNatClampNeg)) ≤ x5 → (vp_in x5 24) ∧ (vp_in x2 4) ∧ ((¬ (rd M (54 + x5.toNatClampNeg) x2.toNatClampNeg) = x1 → P_12_doorsOf_50 (P_12_doorsOf_6 n) x1 x2 x3 x5 x4 M) ∧ ((rd M (54 + x5.toNatClampNeg) x2.toNatClampNeg) = x1 → ((P_12_isOpenIn_0 x5 x3 M) ∧ (P_12_doorsOf_43 (P_12_doorsOf_6 n) x1 x2 x3 x5 ((F_12_isOpenIn_0 x5 x3 M).1) x4 ((F_12_isOpenIn_0 x5 x3 M).2)))))))
theorem T_12_doorsOf_6 {g : Gl} : ∀ (n : Nat) (x1 : Int32) (x2 : Int32) (x3 : Int32) (x4 : Int32) (x5 : Int32) (M : Mem) (hp : P_12_doorsOf_6 n x1 x2 x3 x4 x5 M), Rn g 6 m12_doorsOf 6 [some (.ref 0), some (.int x1), some (.int x2), some (.int x3), some (.int x4), some (.int x5)] [] M (some (.int (F_12_doorsOf_6 n x1 x2 x3 x4 x5 M).1)) ((F_12_doorsOf_6 n x1 x2 x3 x4 x5 M).2) := by
  intro n
  induction n with
  | zero => intro x1 x2 x3 x4 x5 M hp; exact hp.elim
  | succ n ih =>
    intro x1 x2 x3 x4 x5 M hp
    rw [F_12_doorsOf_6]
    rw [P_12_doorsOf_6] at hp
    refine b12_doorsOf_6 (vpl (by decide)) (fun h => ?_) (fun h => ?_)
    · rw [if_pos h]
      exact b12_doorsOf_60  rfl rfl
    · rw [if_neg h]
      have hp := hp.2 h
      obtain ⟨p0, p1, hp⟩ := hp
      refine b12_doorsOf_17 p0 p1 (fun h => ?_) (fun h => ?_)
      · rw [if_neg h]
        have hp := hp.1 h
        exact T_12_doorsOf_50 (F_12_doorsOf_6 n) (P_12_doorsOf_6 n) ih x1 x2 x3 x5 x4 M hp
      · rw [if_pos h]
        have hp := hp.2 h
        obtain ⟨hc, hp⟩ := hp
        refine b12_doorsOf_32  (C_12_isOpenIn x5 x3 M hc) (Nat.le_of_ble_eq_true rfl) ?_
        exact T_12_doorsOf_43 (F_12_doorsOf_6 n) (P_12_doorsOf_6 n) ih x1 x2 x3 x5 ((F_12_isOpenIn_0 x5 x3 M).1) x4 ((F_12_isOpenIn_0 x5 x3 M).2) hp
def F_12_doorsOf_0 (x1 : Int32) (x2 : Int32) (x3 : Int32) (M : Mem) : Int32 × Mem := F_12_doorsOf_6 FU x1 x2 x3 0 0 M
def P_12_doorsOf_0 (x1 : Int32) (x2 : Int32) (x3 : Int32) (M : Mem) : Prop := (P_12_doorsOf_6 FU x1 x2 x3 0 0 M)
theorem T_12_doorsOf_0 {g : Gl} (x1 : Int32) (x2 : Int32) (x3 : Int32) (M : Mem) (hp : P_12_doorsOf_0 x1 x2 x3 M) : Rn g 6 m12_doorsOf 0 [some (.ref 0), some (.int x1), some (.int x2), some (.int x3), none, none] [] M (some (.int (F_12_doorsOf_0 x1 x2 x3 M).1)) ((F_12_doorsOf_0 x1 x2 x3 M).2) := by
  rw [F_12_doorsOf_0]
  rw [P_12_doorsOf_0] at hp
  refine b12_doorsOf_0  ?_
  exact T_12_doorsOf_6 FU x1 x2 x3 0 0 M hp
theorem C_12_doorsOf {g : Gl}  (x1 : Int32) (x2 : Int32) (x3 : Int32) (M : Mem) (hp : P_12_doorsOf_0 x1 x2 x3 M) : Ms g 6 m12_doorsOf [.ref 0, .int x1, .int x2, .int x3] M (some (.int (F_12_doorsOf_0 x1 x2 x3 M).1)) ((F_12_doorsOf_0 x1 x2 x3 M).2) := Ms.of okM_m12_doorsOf (Nat.le_of_ble_eq_true rfl) (R_wk (lc rfl (lc rfl (lc rfl (lc rfl (ln (ln l0)))))) (T_12_doorsOf_0 x1 x2 x3 M hp))
