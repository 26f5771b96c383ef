def F_11_status_0 (M : Mem) (x1 : Int32) : Int32 := if x1 = 0 then ((rd M 1558 3)) else (if x1 = 1 then ((rd M 1558 4)) else ((-1)))
theorem T_11_status_0 {g : Gl} (M : Mem) (x1 : Int32)  : Rn g 0 m11_status 0 [some (.ref 1558), some (.int x1)] [] M (some (.int (F_11_status_0 M x1))) (M) := by
  rw [F_11_status_0]
  refine b11_status_0  (fun h => ?_) (fun h => ?_)
  · rw [if_neg h]
    refine b11_status_9  (fun h => ?_) (fun h => ?_)
    · rw [if_neg h]
      refine b11_status_21  ?_
      exact b11_status_22  rfl rfl
    · rw [if_pos h]
      refine b11_status_14  ?_
      exact b11_status_22  rfl rfl
  · rw [if_pos h]
    exact b11_status_4  rfl rfl
theorem C_11_status {g : Gl}  (x1 : Int32) (M : Mem)  : Ms g 0 m11_status [.ref 1558, .int x1] M (some (.int (F_11_status_0 M x1))) (M) := Ms.of okM_m11_status (Nat.le_of_ble_eq_true rfl) (R_wk (lc rfl (lc rfl l0)) (T_11_status_0 M x1))
def F_11_count_0 (M : Mem) (x1 : Int32) : Int32 := (if x1 = 0 then (rd M 1558 14) else (if x1 = 1 then (rd M 1558 1) else (if x1 = 2 then (rd M 1614 2) else (-1))))
theorem T_11_count_0 {g : Gl} (M : Mem) (x1 : Int32)  : Rn g 0 m11_count 0 [some (.ref 1558), some (.int x1)] [] M (some (.int (F_11_count_0 M x1))) (M) := by
  rw [F_11_count_0]
  by_cases h0 : x1 = 0
  · rw [if_pos h0]
    refine b11_count_0_c0  h0 ?_
    exact b11_count_28  rfl rfl
  rw [if_neg h0]
  by_cases h1 : x1 = 1
  · rw [if_pos h1]
    refine b11_count_0_c1  h1 ?_
    exact b11_count_33  rfl rfl
  rw [if_neg h1]
  by_cases h2 : x1 = 2
  · rw [if_pos h2]
    refine b11_count_0_c2  h2 ?_
    exact b11_count_38  rfl rfl
  rw [if_neg h2]
  refine b11_count_0_d  (sw_out (x := x1) (lo := 0) (hi := 2) (by intro z ha hb e; rcases (show z = 0 ∨ z = 1 ∨ z = 2 by omega) with r | r | r <;> subst r <;> first | exact h0 (Int32.toInt_inj.mp (e.trans (by decide))) | exact h1 (Int32.toInt_inj.mp (e.trans (by decide))) | exact h2 (Int32.toInt_inj.mp (e.trans (by decide))))) ?_
  exact b11_count_46  rfl rfl
theorem C_11_count {g : Gl}  (x1 : Int32) (M : Mem)  : Ms g 0 m11_count [.ref 1558, .int x1] M (some (.int (F_11_count_0 M x1))) (M) := Ms.of okM_m11_count (Nat.le_of_ble_eq_true rfl) (R_wk (lc rfl (lc rfl l0)) (T_11_count_0 M x1))
