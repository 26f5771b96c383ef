/-! THE FOUR THAT ASK -/
theorem C_needRoom {g : Gl} (x : Int32) (M : Mem) : MsX g 6 1 m11_needRoom [.ref 1558, .int x] M (if 0 ≤ x ∧ x < rd M 1561 0 then .inl (none, M) else .inr ("java/util/NoSuchElementException", wr M 1558 3 (rd M 1558 3 + 1))) := by
  refine MsX.of okM_m11_needRoom (Nat.le_of_ble_eq_true rfl) ?_
  refine b11_needRoom_0 (fun h => ?_) (fun h => ?_)
  · rw [if_neg (fun q => absurd h (Int32.not_lt.mpr q.1))]
    exact b11_needRoom_15 (Nat.le_refl _) rfl
  · refine b11_needRoom_4 (fun h2 => ?_) (fun h2 => ?_)
    · rw [if_pos ⟨Int32.not_lt.mp h, h2⟩]
      exact b11_needRoom_36 rfl
    · rw [if_neg (fun q => h2 q.2)]
      exact b11_needRoom_15 (Nat.le_refl _) rfl
theorem C_needDoor {g : Gl} (x : Int32) (M : Mem) : MsX g 6 1 m11_needDoor [.ref 1558, .int x] M (if 0 ≤ x ∧ x < rd M 1561 1 then .inl (none, M) else .inr ("java/util/NoSuchElementException", wr M 1558 3 (rd M 1558 3 + 1))) := by
  refine MsX.of okM_m11_needDoor (Nat.le_of_ble_eq_true rfl) ?_
  refine b11_needDoor_0 (fun h => ?_) (fun h => ?_)
  · rw [if_neg (fun q => absurd h (Int32.not_lt.mpr q.1))]
    exact b11_needDoor_15 (Nat.le_refl _) rfl
  · refine b11_needDoor_4 (fun h2 => ?_) (fun h2 => ?_)
    · rw [if_pos ⟨Int32.not_lt.mp h, h2⟩]
      exact b11_needDoor_36 rfl
    · rw [if_neg (fun q => h2 q.2)]
      exact b11_needDoor_15 (Nat.le_refl _) rfl
theorem C_needWithin {g : Gl} (x y z : Int32) (M : Mem) : MsX g 6 1 m11_needWithin [.ref 1558, .int x, .int y, .int z] M (if y ≤ x ∧ x ≤ z then .inl (none, M) else .inr ("java/lang/IllegalArgumentException", wr M 1558 4 (rd M 1558 4 + 1))) := by
  refine MsX.of okM_m11_needWithin (Nat.le_of_ble_eq_true rfl) ?_
  refine b11_needWithin_0 (fun h => ?_) (fun h => ?_)
  · rw [if_neg (fun q => absurd h (Int32.not_lt.mpr q.1))]
    exact b11_needWithin_10 (Nat.le_refl _) rfl
  · refine b11_needWithin_5 (fun h2 => ?_) (fun h2 => ?_)
    · rw [if_pos ⟨Int32.not_lt.mp h, h2⟩]
      exact b11_needWithin_31 rfl
    · rw [if_neg (fun q => h2 q.2)]
      exact b11_needWithin_10 (Nat.le_refl _) rfl
theorem C_needBytes {g : Gl} (x y : Int32) (M : Mem) : MsX g 7 1 m11_needBytes [.ref 1558, .int x, .int y] M (if 0 ≤ x ∧ x ≤ (if rd M 1558 1 < y then rd M 1558 1 else y) then .inl (none, M) else .inr ("java/lang/IllegalArgumentException", wr M 1558 4 (rd M 1558 4 + 1))) := by
  refine MsX.of okM_m11_needBytes (Nat.le_of_ble_eq_true rfl) ?_
  refine b11_needBytes_0 (fun h => ?_) (fun h => ?_)
  · rw [if_neg (c := rd M 1558 1 < y) (Int32.not_lt.mpr h)]
    refine b11_needBytes_18 (b11_needBytes_19 (C_needWithin x 0 y M) (Nat.le_refl _) (fun q => ?_) (fun q => ?_))
    · rw [if_pos q]
      exact b11_needBytes_22 rfl
    · rw [if_neg q]
  · rw [if_pos (c := rd M 1558 1 < y) (Int32.not_le.mp h)]
    refine b11_needBytes_11 (b11_needBytes_19 (C_needWithin x 0 (rd M 1558 1) M) (Nat.le_refl _) (fun q => ?_) (fun q => ?_))
    · rw [if_pos q]
      exact b11_needBytes_22 rfl
    · rw [if_neg q]
/-! A STATE OVER ANOTHER -/
def stW (a b : Nat) (M : Mem) (j : Nat) : Mem := wr M a j (rd M b j)
def stCopy (a b : Nat) (M : Mem) : Mem := cpM (cpM (stW a b (stW a b (stW a b M 0) 1) 2) (b + 1) 0 (a + 1) 0 24) (b + 2) 0 (a + 2) 0 6
section RG
variable {g : Gl} {k : Nat} {md : MD} {pc : Nat} {lv : List (Option Value)} {st : List Value} {M : Mem} {o : Oc} {cx : Nat}
theorem R_getI {i ci j w c : Nat} (ho : md.1 < 17) (hd : decode md.2.2.1 pc = .ok (.getfield i, 3)) (hf : lk (flT md.1) i = some (ci, j, w)) (hq : frq ci j = false) (hc : oF c ci) (hn : Rc g k cx md (pc + 3) lv (.int (rd M c j) :: st) M o) : Rc g k cx md pc lv (.ref c :: st) M o := by
  refine R_getfield ho hd hf hc ?_
  rw [hq]
  exact hn
theorem R_getR {i ci j w c t : Nat} (ho : md.1 < 17) (hd : decode md.2.2.1 pc = .ok (.getfield i, 3)) (hf : lk (flT md.1) i = some (ci, j, w)) (hq : frq ci j = true) (hr : rf c j = t) (hc : oF c ci) (hn : Rc g k cx md (pc + 3) lv (.ref t :: st) M o) : Rc g k cx md pc lv (.ref c :: st) M o := by
  refine R_getfield ho hd hf hc ?_
  rw [hq, hr]
  exact hn
end RG
theorem isS.o {c : Nat} (h : isS c) : oF c 7 := ⟨by have := h.1; omega, h.2.1⟩
theorem C_stCopy {g : Gl} (a b : Nat) (M : Mem) (h : isS a ∧ isS b) : Ms g 1 m7_copyFrom [.ref a, .ref b] M none (stCopy a b M) := by
  obtain ⟨ha, hb⟩ := h
  refine Ms.of okM_m7_copyFrom (Nat.le_of_ble_eq_true rfl) ?_
  refine R_aload_n (n := 0) (x := a) (by decide +kernel) rfl ?_
  refine R_aload_n (n := 1) (x := b) (by decide +kernel) rfl ?_
  refine R_getI (i := 9) (ci := 7) (j := 0) (Nat.le_of_ble_eq_true rfl) (by decide +kernel) rfl rfl hb.o ?_
  refine R_putfield (i := 9) (ci := 7) (j := 0) (Nat.le_of_ble_eq_true rfl) (by decide +kernel) rfl rfl ha.o ?_
  refine R_aload_n (n := 0) (x := a) (by decide +kernel) rfl ?_
  refine R_aload_n (n := 1) (x := b) (by decide +kernel) rfl ?_
  refine R_getI (i := 15) (ci := 7) (j := 1) (Nat.le_of_ble_eq_true rfl) (by decide +kernel) rfl rfl hb.o ?_
  refine R_putfield (i := 15) (ci := 7) (j := 1) (Nat.le_of_ble_eq_true rfl) (by decide +kernel) rfl rfl ha.o ?_
  refine R_aload_n (n := 0) (x := a) (by decide +kernel) rfl ?_
  refine R_aload_n (n := 1) (x := b) (by decide +kernel) rfl ?_
  refine R_getI (i := 18) (ci := 7) (j := 2) (Nat.le_of_ble_eq_true rfl) (by decide +kernel) rfl rfl hb.o ?_
  refine R_putfield (i := 18) (ci := 7) (j := 2) (Nat.le_of_ble_eq_true rfl) (by decide +kernel) rfl rfl ha.o ?_
  refine R_aload_n (n := 1) (x := b) (by decide +kernel) rfl ?_
  refine R_getR (i := 21) (ci := 7) (j := 3) (Nat.le_of_ble_eq_true rfl) (by decide +kernel) rfl rfl hb.2.2.2.2.1 hb.o ?_
  refine R_iconst (n := 0) (by decide +kernel) ?_
  refine R_aload_n (n := 0) (x := a) (by decide +kernel) rfl ?_
  refine R_getR (i := 21) (ci := 7) (j := 3) (Nat.le_of_ble_eq_true rfl) (by decide +kernel) rfl rfl ha.2.2.2.2.1 ha.o ?_
  refine R_iconst (n := 0) (by decide +kernel) ?_
  refine R_bipush (n := 24) (by decide +kernel) ?_
  refine R_copy (i := 31) (na := 24) (nb := 24) (by decide +kernel) (inT3 (i := 35) rfl rfl) (Nat.le_refl _) (Nat.zero_le _) (by have := hb.1; omega) hb.2.2.1 (by have := ha.1; omega) ha.2.2.1 (by decide) (by decide) (by decide) (by decide) (by decide) ?_
  refine R_aload_n (n := 1) (x := b) (by decide +kernel) rfl ?_
  refine R_getR (i := 25) (ci := 7) (j := 4) (Nat.le_of_ble_eq_true rfl) (by decide +kernel) rfl rfl hb.2.2.2.2.2 hb.o ?_
  refine R_iconst (n := 0) (by decide +kernel) ?_
  refine R_aload_n (n := 0) (x := a) (by decide +kernel) rfl ?_
  refine R_getR (i := 25) (ci := 7) (j := 4) (Nat.le_of_ble_eq_true rfl) (by decide +kernel) rfl rfl ha.2.2.2.2.2 ha.o ?_
  refine R_iconst (n := 0) (by decide +kernel) ?_
  refine R_bipush (n := 6) (by decide +kernel) ?_
  refine R_copy (i := 31) (na := 6) (nb := 6) (by decide +kernel) (inT3 (i := 35) rfl rfl) (Nat.le_refl _) (Nat.zero_le _) hb.1 hb.2.2.2.1 ha.1 ha.2.2.2.1 (by decide) (by decide) (by decide) (by decide) (by decide) ?_
  exact R_vret (by decide +kernel) rfl
