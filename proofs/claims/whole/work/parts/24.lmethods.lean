/-! THE LAW's METHODS THAT CATCH: a call's answer in the row out, or which throw it was -/
def covB (b : ByteArray) (lo hi : Nat) : Bool := (List.range b.size).all (fun pc => match decode b pc with
  | .ok (.invokevirtual _, _) => decide (lo ≤ pc) && decide (pc < hi)
  | _ => true)
theorem covB_ok {b : ByteArray} {lo hi : Nat} (h : covB b lo hi = true) : ∀ pc i, pc < b.size → decode b pc = .ok (.invokevirtual i, 3) → lo ≤ pc ∧ pc < hi := by
  intro pc i hp hd
  have h1 := List.all_eq_true.mp h pc (List.mem_range.mpr hp)
  rw [hd] at h1
  simpa using h1
def newB (b : ByteArray) : Bool := (List.range b.size).all (fun pc => match decode b pc with
  | .ok (.new _, _) => false
  | _ => true)
theorem newB_ok {b : ByteArray} (h : newB b = true) : ∀ pc ik, pc < b.size → decode b pc ≠ .ok (.new ik, 3) := by
  intro pc i hp hd
  have h1 := List.all_eq_true.mp h pc (List.mem_range.mpr hp)
  rw [hd] at h1
  exact Bool.noConfusion h1
def wOutI (a b : Int32) (o : Oc) : Int32 × Mem := match o with
  | .inl (some (.int r), M1) => (0, wl M1 1557 0 r.toInt64)
  | .inl (_, M1) => (0, M1)
  | .inr (E, M1) => (if E = "java/util/NoSuchElementException" then a else b, M1)
def wOutZ (a b : Int32) (o : Oc) : Int32 × Mem := match o with
  | .inl (some (.int r), M1) => (0, wl M1 1557 0 (if r = 0 then 0 else 1))
  | .inl (_, M1) => (0, M1)
  | .inr (E, M1) => (if E = "java/util/NoSuchElementException" then a else b, M1)
def wOutL (a b : Int32) (o : Oc) : Int32 × Mem := match o with
  | .inl (some (.long r), M1) => (0, wl M1 1557 0 r)
  | .inl (_, M1) => (0, M1)
  | .inr (E, M1) => (if E = "java/util/NoSuchElementException" then a else b, M1)
/-- an answer is an int, or the throw is one of those that are caught -/
def okI (n e : Bool) (o : Oc) : Prop := (∃ r M1, o = .inl (some (.int r), M1)) ∨ (n = true ∧ ∃ M1, o = .inr ("java/util/NoSuchElementException", M1)) ∨ (e = true ∧ ∃ M1, o = .inr ("java/lang/IllegalArgumentException", M1))
def okL (n e : Bool) (o : Oc) : Prop := (∃ r M1, o = .inl (some (.long r), M1)) ∨ (n = true ∧ ∃ M1, o = .inr ("java/util/NoSuchElementException", M1)) ∨ (e = true ∧ ∃ M1, o = .inr ("java/lang/IllegalArgumentException", M1))
theorem w_lnkN : Cond.classLink "LostMuseumLaw" 31 "java/util/NoSuchElementException" ∈ WD := inT5 (i := 90) rfl rfl
theorem w_lnkI : Cond.classLink "LostMuseumLaw" 13 "java/lang/IllegalArgumentException" ∈ WD := inT3 (i := 140) rfl rfl
abbrev cL_museum : ByteArray := method_3_code
def yL_museum : MethodName := ⟨"LostMuseumLaw", "museum", "(LLostMuseum;I[J)I"⟩
def mL_museum : MD := (16, yL_museum, cL_museum, 4, some .int)
def hL_museum : HT := [(0, 9, 12, 13)]
theorem okW_museum : okW mL_museum hL_museum := ⟨by decide +kernel, rfl, (Nat.le_of_ble_eq_true rfl), inT3 (i := 139) rfl rfl, rfl⟩
theorem V16_7 : okV 16 7 1 m11_museum := ⟨Nat.le_of_ble_eq_true rfl, okM_m11_museum, ⟨by decide +kernel, by decide +kernel, by decide +kernel⟩, inT3 (i := 141) rfl rfl, inT1 (i := 1) rfl rfl, inT3 (i := 142) rfl rfl, inT3 (i := 143) rfl rfl⟩
theorem cat_museum_e : catOK mL_museum hL_museum "java/lang/IllegalArgumentException" 1 := ⟨[], (0, 9, 12, 13), [], 3, 13, rfl, Or.inl rfl, by decide, w_lnkI, by decide +kernel, (Nat.le_of_ble_eq_true rfl), covB_ok (by decide +kernel), Or.inr ⟨3, by decide +kernel, rfl, rfl⟩, by decide +kernel, by decide +kernel⟩
def W_museum (x1 : Int32) (M : Mem) : Int32 × Mem := wOutI 0 1 (F_11_museum_0 x1 M)
def Q_museum (x1 : Int32) (M : Mem) : Prop := (P_11_museum_0 x1 M) ∧ okI false true (F_11_museum_0 x1 M)
theorem pre_museum {g : Gl} {k c1 : Nat} {o o1 : Oc} {M : Mem} {x1 : Int32} {d : Nat} (hX : MsX g d c1 m11_museum [.ref 1558, .int x1] M o1) (hk : d + 1 ≤ k) (hr : ∀ w M1, o1 = .inl (w, M1) → Rc g k 0 mL_museum 7 [some (.ref 1558), some (.int x1), some (.ref 1557), none] (w.toList ++ [.int 0, .ref 1557]) M1 o) (ht : ∀ E M1, o1 = .inr (E, M1) → o = .inr (E, M1)) : Rc g k (0 + c1) mL_museum 0 [some (.ref 1558), some (.int x1), some (.ref 1557), none] [] M o :=
  R_blk (lv1 := [some (.ref 1558), some (.int x1), some (.ref 1557), none]) (st1 := [.int x1, .ref 1558, .int 0, .ref 1557]) (M1 := M) (P := True) (pc1 := 4) [.aload_n 2, .iconst 0, .aload_n 0, .iload_n 1] (Nat.le_of_ble_eq_true rfl) (by decide +kernel) rfl trivial rfl (R_callX (As := [.int x1]) (rest := [.int 0, .ref 1557]) (by decide +kernel) V16_7 hX hk ⟨Nat.le_of_ble_eq_true rfl, rfl⟩ rfl rfl (Nat.le_of_ble_eq_true rfl) hr ht)
theorem post_museum {g : Gl} {k : Nat} {M1 : Mem} {x1 : Int32} {r : Int32} : Rc g k 0 mL_museum 7 [some (.ref 1558), some (.int x1), some (.ref 1557), none] [.int r, .int 0, .ref 1557] M1 (.inl (some (.int 0), wl M1 1557 0 r.toInt64)) :=
  R_blk (lv1 := [some (.ref 1558), some (.int x1), some (.ref 1557), none]) (st1 := []) (M1 := wl M1 1557 0 r.toInt64) (P := oA 4 1557 0 ∧ True) (pc1 := 9) [.i2l, .lastore] (Nat.le_of_ble_eq_true rfl) (by decide +kernel) rfl ⟨⟨Nat.le_of_ble_eq_true rfl, rfl, vpl (by decide)⟩, trivial⟩ rfl (R_goto (off := 6) (tgt := 15) (by decide +kernel) (by decide) (R_blk (lv1 := [some (.ref 1558), some (.int x1), some (.ref 1557), none]) (st1 := [.int 0]) (M1 := wl M1 1557 0 r.toInt64) (P := True) (pc1 := 16) [.iconst 0] (Nat.le_of_ble_eq_true rfl) (by decide +kernel) rfl trivial rfl (R_iret (by decide +kernel) rfl)))
theorem CW_museum {g : Gl} (x1 : Int32) (M : Mem) (hp : Q_museum x1 M) : MsW g 9 1 mL_museum hL_museum [.ref 1558, .int x1, .ref 1557] M (W_museum x1 M).1 (W_museum x1 M).2 := by
  have hX : MsX g 8 1 m11_museum [.ref 1558, .int x1] M (F_11_museum_0 x1 M) := C_11_museum x1 M hp.1
  have hs := hp.2
  rw [W_museum]
  generalize F_11_museum_0 x1 M = o1 at hX hs ⊢
  rcases hs with ⟨r, M1, rfl⟩ | ⟨hf, M1, rfl⟩ | ⟨hf, M1, rfl⟩
  · refine MsW.of okW_museum (Nat.le_of_ble_eq_true rfl) (newB_ok (by decide +kernel)) (R_cw (cx := 0 + 1) (by omega) (pre_museum hX (Nat.le_refl _) (fun w M2 h => ?_) (fun E M2 h => by cases h))) (Or.inl rfl)
    cases h
    exact post_museum
  · cases hf
  · exact MsW.of okW_museum (Nat.le_of_ble_eq_true rfl) (newB_ok (by decide +kernel)) (R_cw (cx := 0 + 1) (by omega) (pre_museum hX (Nat.le_refl _) (fun w M2 h => by cases h) (fun E M2 h => by cases h; rfl))) (Or.inr ⟨_, rfl, cat_museum_e⟩)
abbrev cL_law : ByteArray := method_4_code
def yL_law : MethodName := ⟨"LostMuseumLaw", "law", "(LLostMuseum;I[J)I"⟩
def mL_law : MD := (16, yL_law, cL_law, 4, some .int)
def hL_law : HT := [(0, 9, 12, 13)]
theorem okW_law : okW mL_law hL_law := ⟨by decide +kernel, rfl, (Nat.le_of_ble_eq_true rfl), inT4 (i := 137) rfl rfl, rfl⟩
theorem V16_15 : okV 16 15 1 m11_law := ⟨Nat.le_of_ble_eq_true rfl, okM_m11_law, ⟨by decide +kernel, by decide +kernel, by decide +kernel⟩, inT4 (i := 138) rfl rfl, inT1 (i := 1) rfl rfl, inT4 (i := 139) rfl rfl, inT4 (i := 140) rfl rfl⟩
theorem cat_law_e : catOK mL_law hL_law "java/lang/IllegalArgumentException" 1 := ⟨[], (0, 9, 12, 13), [], 3, 13, rfl, Or.inl rfl, by decide, w_lnkI, by decide +kernel, (Nat.le_of_ble_eq_true rfl), covB_ok (by decide +kernel), Or.inr ⟨3, by decide +kernel, rfl, rfl⟩, by decide +kernel, by decide +kernel⟩
def W_law (x1 : Int32) (M : Mem) : Int32 × Mem := wOutI 0 1 (F_11_law_0 x1 M)
def Q_law (x1 : Int32) (M : Mem) : Prop := (P_11_law_0 x1 M) ∧ okI false true (F_11_law_0 x1 M)
theorem pre_law {g : Gl} {k c1 : Nat} {o o1 : Oc} {M : Mem} {x1 : Int32} {d : Nat} (hX : MsX g d c1 m11_law [.ref 1558, .int x1] M o1) (hk : d + 1 ≤ k) (hr : ∀ w M1, o1 = .inl (w, M1) → Rc g k 0 mL_law 7 [some (.ref 1558), some (.int x1), some (.ref 1557), none] (w.toList ++ [.int 0, .ref 1557]) M1 o) (ht : ∀ E M1, o1 = .inr (E, M1) → o = .inr (E, M1)) : Rc g k (0 + c1) mL_law 0 [some (.ref 1558), some (.int x1), some (.ref 1557), none] [] M o :=
  R_blk (lv1 := [some (.ref 1558), some (.int x1), some (.ref 1557), none]) (st1 := [.int x1, .ref 1558, .int 0, .ref 1557]) (M1 := M) (P := True) (pc1 := 4) [.aload_n 2, .iconst 0, .aload_n 0, .iload_n 1] (Nat.le_of_ble_eq_true rfl) (by decide +kernel) rfl trivial rfl (R_callX (As := [.int x1]) (rest := [.int 0, .ref 1557]) (by decide +kernel) V16_15 hX hk ⟨Nat.le_of_ble_eq_true rfl, rfl⟩ rfl rfl (Nat.le_of_ble_eq_true rfl) hr ht)
theorem post_law {g : Gl} {k : Nat} {M1 : Mem} {x1 : Int32} {r : Int32} : Rc g k 0 mL_law 7 [some (.ref 1558), some (.int x1), some (.ref 1557), none] [.int r, .int 0, .ref 1557] M1 (.inl (some (.int 0), wl M1 1557 0 r.toInt64)) :=
  R_blk (lv1 := [some (.ref 1558), some (.int x1), some (.ref 1557), none]) (st1 := []) (M1 := wl M1 1557 0 r.toInt64) (P := oA 4 1557 0 ∧ True) (pc1 := 9) [.i2l, .lastore] (Nat.le_of_ble_eq_true rfl) (by decide +kernel) rfl ⟨⟨Nat.le_of_ble_eq_true rfl, rfl, vpl (by decide)⟩, trivial⟩ rfl (R_goto (off := 6) (tgt := 15) (by decide +kernel) (by decide) (R_blk (lv1 := [some (.ref 1558), some (.int x1), some (.ref 1557), none]) (st1 := [.int 0]) (M1 := wl M1 1557 0 r.toInt64) (P := True) (pc1 := 16) [.iconst 0] (Nat.le_of_ble_eq_true rfl) (by decide +kernel) rfl trivial rfl (R_iret (by decide +kernel) rfl)))
theorem CW_law {g : Gl} (x1 : Int32) (M : Mem) (hp : Q_law x1 M) : MsW g 67 1 mL_law hL_law [.ref 1558, .int x1, .ref 1557] M (W_law x1 M).1 (W_law x1 M).2 := by
  have hX : MsX g 66 1 m11_law [.ref 1558, .int x1] M (F_11_law_0 x1 M) := C_11_law x1 M hp.1
  have hs := hp.2
  rw [W_law]
  generalize F_11_law_0 x1 M = o1 at hX hs ⊢
  rcases hs with ⟨r, M1, rfl⟩ | ⟨hf, M1, rfl⟩ | ⟨hf, M1, rfl⟩
  · refine MsW.of okW_law (Nat.le_of_ble_eq_true rfl) (newB_ok (by decide +kernel)) (R_cw (cx := 0 + 1) (by omega) (pre_law hX (Nat.le_refl _) (fun w M2 h => ?_) (fun E M2 h => by cases h))) (Or.inl rfl)
    cases h
    exact post_law
  · cases hf
  · exact MsW.of okW_law (Nat.le_of_ble_eq_true rfl) (newB_ok (by decide +kernel)) (R_cw (cx := 0 + 1) (by omega) (pre_law hX (Nat.le_refl _) (fun w M2 h => by cases h) (fun E M2 h => by cases h; rfl))) (Or.inr ⟨_, rfl, cat_law_e⟩)
abbrev cL_work : ByteArray := method_5_code
def yL_work : MethodName := ⟨"LostMuseumLaw", "work", "(LLostMuseum;I[J)I"⟩
def mL_work : MD := (16, yL_work, cL_work, 4, some .int)
def hL_work : HT := [(0, 9, 12, 13)]
theorem okW_work : okW mL_work hL_work := ⟨by decide +kernel, rfl, (Nat.le_of_ble_eq_true rfl), inT4 (i := 201) rfl rfl, rfl⟩
theorem V16_18 : okV 16 18 1 m11_work := ⟨Nat.le_of_ble_eq_true rfl, okM_m11_work, ⟨by decide +kernel, by decide +kernel, by decide +kernel⟩, inT4 (i := 202) rfl rfl, inT1 (i := 1) rfl rfl, inT4 (i := 203) rfl rfl, inT4 (i := 204) rfl rfl⟩
theorem cat_work_e : catOK mL_work hL_work "java/lang/IllegalArgumentException" 1 := ⟨[], (0, 9, 12, 13), [], 3, 13, rfl, Or.inl rfl, by decide, w_lnkI, by decide +kernel, (Nat.le_of_ble_eq_true rfl), covB_ok (by decide +kernel), Or.inr ⟨3, by decide +kernel, rfl, rfl⟩, by decide +kernel, by decide +kernel⟩
def W_work (x1 : Int32) (M : Mem) : Int32 × Mem := wOutI 0 1 (F_11_work_0 x1 M)
def Q_work (x1 : Int32) (M : Mem) : Prop := (P_11_work_0 x1 M) ∧ okI false true (F_11_work_0 x1 M)
theorem pre_work {g : Gl} {k c1 : Nat} {o o1 : Oc} {M : Mem} {x1 : Int32} {d : Nat} (hX : MsX g d c1 m11_work [.ref 1558, .int x1] M o1) (hk : d + 1 ≤ k) (hr : ∀ w M1, o1 = .inl (w, M1) → Rc g k 0 mL_work 7 [some (.ref 1558), some (.int x1), some (.ref 1557), none] (w.toList ++ [.int 0, .ref 1557]) M1 o) (ht : ∀ E M1, o1 = .inr (E, M1) → o = .inr (E, M1)) : Rc g k (0 + c1) mL_work 0 [some (.ref 1558), some (.int x1), some (.ref 1557), none] [] M o :=
  R_blk (lv1 := [some (.ref 1558), some (.int x1), some (.ref 1557), none]) (st1 := [.int x1, .ref 1558, .int 0, .ref 1557]) (M1 := M) (P := True) (pc1 := 4) [.aload_n 2, .iconst 0, .aload_n 0, .iload_n 1] (Nat.le_of_ble_eq_true rfl) (by decide +kernel) rfl trivial rfl (R_callX (As := [.int x1]) (rest := [.int 0, .ref 1557]) (by decide +kernel) V16_18 hX hk ⟨Nat.le_of_ble_eq_true rfl, rfl⟩ rfl rfl (Nat.le_of_ble_eq_true rfl) hr ht)
theorem post_work {g : Gl} {k : Nat} {M1 : Mem} {x1 : Int32} {r : Int32} : Rc g k 0 mL_work 7 [some (.ref 1558), some (.int x1), some (.ref 1557), none] [.int r, .int 0, .ref 1557] M1 (.inl (some (.int 0), wl M1 1557 0 r.toInt64)) :=
  R_blk (lv1 := [some (.ref 1558), some (.int x1), some (.ref 1557), none]) (st1 := []) (M1 := wl M1 1557 0 r.toInt64) (P := oA 4 1557 0 ∧ True) (pc1 := 9) [.i2l, .lastore] (Nat.le_of_ble_eq_true rfl) (by decide +kernel) rfl ⟨⟨Nat.le_of_ble_eq_true rfl, rfl, vpl (by decide)⟩, trivial⟩ rfl (R_goto (off := 6) (tgt := 15) (by decide +kernel) (by decide) (R_blk (lv1 := [some (.ref 1558), some (.int x1), some (.ref 1557), none]) (st1 := [.int 0]) (M1 := wl M1 1557 0 r.toInt64) (P := True) (pc1 := 16) [.iconst 0] (Nat.le_of_ble_eq_true rfl) (by decide +kernel) rfl trivial rfl (R_iret (by decide +kernel) rfl)))
theorem CW_work {g : Gl} (x1 : Int32) (M : Mem) (hp : Q_work x1 M) : MsW g 51 1 mL_work hL_work [.ref 1558, .int x1, .ref 1557] M (W_work x1 M).1 (W_work x1 M).2 := by
  have hX : MsX g 50 1 m11_work [.ref 1558, .int x1] M (F_11_work_0 x1 M) := C_11_work x1 M hp.1
  have hs := hp.2
  rw [W_work]
  generalize F_11_work_0 x1 M = o1 at hX hs ⊢
  rcases hs with ⟨r, M1, rfl⟩ | ⟨hf, M1, rfl⟩ | ⟨hf, M1, rfl⟩
  · refine MsW.of okW_work (Nat.le_of_ble_eq_true rfl) (newB_ok (by decide +kernel)) (R_cw (cx := 0 + 1) (by omega) (pre_work hX (Nat.le_refl _) (fun w M2 h => ?_) (fun E M2 h => by cases h))) (Or.inl rfl)
    cases h
    exact post_work
  · cases hf
  · exact MsW.of okW_work (Nat.le_of_ble_eq_true rfl) (newB_ok (by decide +kernel)) (R_cw (cx := 0 + 1) (by omega) (pre_work hX (Nat.le_refl _) (fun w M2 h => by cases h) (fun E M2 h => by cases h; rfl))) (Or.inr ⟨_, rfl, cat_work_e⟩)
abbrev cL_walk : ByteArray := method_6_code
def yL_walk : MethodName := ⟨"LostMuseumLaw", "walk", "(LLostMuseum;I[J)I"⟩
def mL_walk : MD := (16, yL_walk, cL_walk, 4, some .int)
def hL_walk : HT := [(0, 9, 12, 13)]
theorem okW_walk : okW mL_walk hL_walk := ⟨by decide +kernel, rfl, (Nat.le_of_ble_eq_true rfl), inT5 (i := 56) rfl rfl, rfl⟩
theorem V16_21 : okV 16 21 1 m11_walk := ⟨Nat.le_of_ble_eq_true rfl, okM_m11_walk, ⟨by decide +kernel, by decide +kernel, by decide +kernel⟩, inT5 (i := 57) rfl rfl, inT1 (i := 1) rfl rfl, inT5 (i := 58) rfl rfl, inT5 (i := 59) rfl rfl⟩
theorem cat_walk_e : catOK mL_walk hL_walk "java/lang/IllegalArgumentException" 1 := ⟨[], (0, 9, 12, 13), [], 3, 13, rfl, Or.inl rfl, by decide, w_lnkI, by decide +kernel, (Nat.le_of_ble_eq_true rfl), covB_ok (by decide +kernel), Or.inr ⟨3, by decide +kernel, rfl, rfl⟩, by decide +kernel, by decide +kernel⟩
def W_walk (x1 : Int32) (M : Mem) : Int32 × Mem := wOutI 0 1 (F_11_walk_0 x1 M)
def Q_walk (x1 : Int32) (M : Mem) : Prop := (P_11_walk_0 x1 M) ∧ okI false true (F_11_walk_0 x1 M)
theorem pre_walk {g : Gl} {k c1 : Nat} {o o1 : Oc} {M : Mem} {x1 : Int32} {d : Nat} (hX : MsX g d c1 m11_walk [.ref 1558, .int x1] M o1) (hk : d + 1 ≤ k) (hr : ∀ w M1, o1 = .inl (w, M1) → Rc g k 0 mL_walk 7 [some (.ref 1558), some (.int x1), some (.ref 1557), none] (w.toList ++ [.int 0, .ref 1557]) M1 o) (ht : ∀ E M1, o1 = .inr (E, M1) → o = .inr (E, M1)) : Rc g k (0 + c1) mL_walk 0 [some (.ref 1558), some (.int x1), some (.ref 1557), none] [] M o :=
  R_blk (lv1 := [some (.ref 1558), some (.int x1), some (.ref 1557), none]) (st1 := [.int x1, .ref 1558, .int 0, .ref 1557]) (M1 := M) (P := True) (pc1 := 4) [.aload_n 2, .iconst 0, .aload_n 0, .iload_n 1] (Nat.le_of_ble_eq_true rfl) (by decide +kernel) rfl trivial rfl (R_callX (As := [.int x1]) (rest := [.int 0, .ref 1557]) (by decide +kernel) V16_21 hX hk ⟨Nat.le_of_ble_eq_true rfl, rfl⟩ rfl rfl (Nat.le_of_ble_eq_true rfl) hr ht)
theorem post_walk {g : Gl} {k : Nat} {M1 : Mem} {x1 : Int32} {r : Int32} : Rc g k 0 mL_walk 7 [some (.ref 1558), some (.int x1), some (.ref 1557), none] [.int r, .int 0, .ref 1557] M1 (.inl (some (.int 0), wl M1 1557 0 r.toInt64)) :=
  R_blk (lv1 := [some (.ref 1558), some (.int x1), some (.ref 1557), none]) (st1 := []) (M1 := wl M1 1557 0 r.toInt64) (P := oA 4 1557 0 ∧ True) (pc1 := 9) [.i2l, .lastore] (Nat.le_of_ble_eq_true rfl) (by decide +kernel) rfl ⟨⟨Nat.le_of_ble_eq_true rfl, rfl, vpl (by decide)⟩, trivial⟩ rfl (R_goto (off := 6) (tgt := 15) (by decide +kernel) (by decide) (R_blk (lv1 := [some (.ref 1558), some (.int x1), some (.ref 1557), none]) (st1 := [.int 0]) (M1 := wl M1 1557 0 r.toInt64) (P := True) (pc1 := 16) [.iconst 0] (Nat.le_of_ble_eq_true rfl) (by decide +kernel) rfl trivial rfl (R_iret (by decide +kernel) rfl)))
theorem CW_walk {g : Gl} (x1 : Int32) (M : Mem) (hp : Q_walk x1 M) : MsW g 9 1 mL_walk hL_walk [.ref 1558, .int x1, .ref 1557] M (W_walk x1 M).1 (W_walk x1 M).2 := by
  have hX : MsX g 8 1 m11_walk [.ref 1558, .int x1] M (F_11_walk_0 x1 M) := C_11_walk x1 M hp.1
  have hs := hp.2
  rw [W_walk]
  generalize F_11_walk_0 x1 M = o1 at hX hs ⊢
  rcases hs with ⟨r, M1, rfl⟩ | ⟨hf, M1, rfl⟩ | ⟨hf, M1, rfl⟩
  · refine MsW.of okW_walk (Nat.le_of_ble_eq_true rfl) (newB_ok (by decide +kernel)) (R_cw (cx := 0 + 1) (by omega) (pre_walk hX (Nat.le_refl _) (fun w M2 h => ?_) (fun E M2 h => by cases h))) (Or.inl rfl)
    cases h
    exact post_walk
  · cases hf
  · exact MsW.of okW_walk (Nat.le_of_ble_eq_true rfl) (newB_ok (by decide +kernel)) (R_cw (cx := 0 + 1) (by omega) (pre_walk hX (Nat.le_refl _) (fun w M2 h => by cases h) (fun E M2 h => by cases h; rfl))) (Or.inr ⟨_, rfl, cat_walk_e⟩)
abbrev cL_told : ByteArray := method_7_code
def yL_told : MethodName := ⟨"LostMuseumLaw", "told", "(LLostMuseum;I[J)I"⟩
def mL_told : MD := (16, yL_told, cL_told, 4, some .int)
def hL_told : HT := [(0, 9, 12, 13)]
theorem okW_told : okW mL_told hL_told := ⟨by decide +kernel, rfl, (Nat.le_of_ble_eq_true rfl), inT5 (i := 72) rfl rfl, rfl⟩
theorem V16_24 : okV 16 24 1 m11_told := ⟨Nat.le_of_ble_eq_true rfl, okM_m11_told, ⟨by decide +kernel, by decide +kernel, by decide +kernel⟩, inT5 (i := 73) rfl rfl, inT1 (i := 1) rfl rfl, inT5 (i := 74) rfl rfl, inT5 (i := 75) rfl rfl⟩
theorem cat_told_e : catOK mL_told hL_told "java/lang/IllegalArgumentException" 1 := ⟨[], (0, 9, 12, 13), [], 3, 13, rfl, Or.inl rfl, by decide, w_lnkI, by decide +kernel, (Nat.le_of_ble_eq_true rfl), covB_ok (by decide +kernel), Or.inr ⟨3, by decide +kernel, rfl, rfl⟩, by decide +kernel, by decide +kernel⟩
def W_told (x1 : Int32) (M : Mem) : Int32 × Mem := wOutI 0 1 (F_11_told_0 x1 M)
def Q_told (x1 : Int32) (M : Mem) : Prop := (P_11_told_0 x1 M) ∧ okI false true (F_11_told_0 x1 M)
theorem pre_told {g : Gl} {k c1 : Nat} {o o1 : Oc} {M : Mem} {x1 : Int32} {d : Nat} (hX : MsX g d c1 m11_told [.ref 1558, .int x1] M o1) (hk : d + 1 ≤ k) (hr : ∀ w M1, o1 = .inl (w, M1) → Rc g k 0 mL_told 7 [some (.ref 1558), some (.int x1), some (.ref 1557), none] (w.toList ++ [.int 0, .ref 1557]) M1 o) (ht : ∀ E M1, o1 = .inr (E, M1) → o = .inr (E, M1)) : Rc g k (0 + c1) mL_told 0 [some (.ref 1558), some (.int x1), some (.ref 1557), none] [] M o :=
  R_blk (lv1 := [some (.ref 1558), some (.int x1), some (.ref 1557), none]) (st1 := [.int x1, .ref 1558, .int 0, .ref 1557]) (M1 := M) (P := True) (pc1 := 4) [.aload_n 2, .iconst 0, .aload_n 0, .iload_n 1] (Nat.le_of_ble_eq_true rfl) (by decide +kernel) rfl trivial rfl (R_callX (As := [.int x1]) (rest := [.int 0, .ref 1557]) (by decide +kernel) V16_24 hX hk ⟨Nat.le_of_ble_eq_true rfl, rfl⟩ rfl rfl (Nat.le_of_ble_eq_true rfl) hr ht)
theorem post_told {g : Gl} {k : Nat} {M1 : Mem} {x1 : Int32} {r : Int32} : Rc g k 0 mL_told 7 [some (.ref 1558), some (.int x1), some (.ref 1557), none] [.int r, .int 0, .ref 1557] M1 (.inl (some (.int 0), wl M1 1557 0 r.toInt64)) :=
  R_blk (lv1 := [some (.ref 1558), some (.int x1), some (.ref 1557), none]) (st1 := []) (M1 := wl M1 1557 0 r.toInt64) (P := oA 4 1557 0 ∧ True) (pc1 := 9) [.i2l, .lastore] (Nat.le_of_ble_eq_true rfl) (by decide +kernel) rfl ⟨⟨Nat.le_of_ble_eq_true rfl, rfl, vpl (by decide)⟩, trivial⟩ rfl (R_goto (off := 6) (tgt := 15) (by decide +kernel) (by decide) (R_blk (lv1 := [some (.ref 1558), some (.int x1), some (.ref 1557), none]) (st1 := [.int 0]) (M1 := wl M1 1557 0 r.toInt64) (P := True) (pc1 := 16) [.iconst 0] (Nat.le_of_ble_eq_true rfl) (by decide +kernel) rfl trivial rfl (R_iret (by decide +kernel) rfl)))
theorem CW_told {g : Gl} (x1 : Int32) (M : Mem) (hp : Q_told x1 M) : MsW g 8 1 mL_told hL_told [.ref 1558, .int x1, .ref 1557] M (W_told x1 M).1 (W_told x1 M).2 := by
  have hX : MsX g 7 1 m11_told [.ref 1558, .int x1] M (F_11_told_0 x1 M) := C_11_told x1 M hp.1
  have hs := hp.2
  rw [W_told]
  generalize F_11_told_0 x1 M = o1 at hX hs ⊢
  rcases hs with ⟨r, M1, rfl⟩ | ⟨hf, M1, rfl⟩ | ⟨hf, M1, rfl⟩
  · refine MsW.of okW_told (Nat.le_of_ble_eq_true rfl) (newB_ok (by decide +kernel)) (R_cw (cx := 0 + 1) (by omega) (pre_told hX (Nat.le_refl _) (fun w M2 h => ?_) (fun E M2 h => by cases h))) (Or.inl rfl)
    cases h
    exact post_told
  · cases hf
  · exact MsW.of okW_told (Nat.le_of_ble_eq_true rfl) (newB_ok (by decide +kernel)) (R_cw (cx := 0 + 1) (by omega) (pre_told hX (Nat.le_refl _) (fun w M2 h => by cases h) (fun E M2 h => by cases h; rfl))) (Or.inr ⟨_, rfl, cat_told_e⟩)
abbrev cL_room : ByteArray := method_8_code
def yL_room : MethodName := ⟨"LostMuseumLaw", "room", "(LLostMuseum;II[J)I"⟩
def mL_room : MD := (16, yL_room, cL_room, 5, some .int)
def hL_room : HT := [(0, 10, 13, 31), (0, 10, 17, 13)]
theorem okW_room : okW mL_room hL_room := ⟨by decide +kernel, rfl, (Nat.le_of_ble_eq_true rfl), inT5 (i := 89) rfl rfl, rfl⟩
theorem V16_27 : okV 16 27 2 m11_room := ⟨Nat.le_of_ble_eq_true rfl, okM_m11_room, ⟨by decide +kernel, by decide +kernel, by decide +kernel⟩, inT5 (i := 91) rfl rfl, inT1 (i := 1) rfl rfl, inT5 (i := 92) rfl rfl, inT5 (i := 93) rfl rfl⟩
theorem cat_room_n : catOK mL_room hL_room "java/util/NoSuchElementException" 1 := ⟨[], (0, 10, 13, 31), [(0, 10, 17, 13)], 4, 15, rfl, Or.inl rfl, by decide, w_lnkN, by decide +kernel, (Nat.le_of_ble_eq_true rfl), covB_ok (by decide +kernel), Or.inl ⟨by decide +kernel, rfl⟩, by decide +kernel, by decide +kernel⟩
theorem cat_room_e : catOK mL_room hL_room "java/lang/IllegalArgumentException" 2 := ⟨[(0, 10, 13, 31)], (0, 10, 17, 13), [], 4, 19, rfl, Or.inr ⟨rfl, fun z hz => by cases List.mem_singleton.mp hz; exact ⟨by decide, w_lnkN⟩⟩, by decide, w_lnkI, by decide +kernel, (Nat.le_of_ble_eq_true rfl), covB_ok (by decide +kernel), Or.inl ⟨by decide +kernel, rfl⟩, by decide +kernel, by decide +kernel⟩
def W_room (x1 : Int32) (x2 : Int32) (M : Mem) : Int32 × Mem := wOutI 1 2 (F_11_room_0 x1 x2 M)
def Q_room (x1 : Int32) (x2 : Int32) (M : Mem) : Prop := (P_11_room_0 x1 x2 M) ∧ okI true true (F_11_room_0 x1 x2 M)
theorem pre_room {g : Gl} {k c1 : Nat} {o o1 : Oc} {M : Mem} {x1 x2 : Int32} {d : Nat} (hX : MsX g d c1 m11_room [.ref 1558, .int x1, .int x2] M o1) (hk : d + 1 ≤ k) (hr : ∀ w M1, o1 = .inl (w, M1) → Rc g k 0 mL_room 8 [some (.ref 1558), some (.int x1), some (.int x2), some (.ref 1557), none] (w.toList ++ [.int 0, .ref 1557]) M1 o) (ht : ∀ E M1, o1 = .inr (E, M1) → o = .inr (E, M1)) : Rc g k (0 + c1) mL_room 0 [some (.ref 1558), some (.int x1), some (.int x2), some (.ref 1557), none] [] M o :=
  R_blk (lv1 := [some (.ref 1558), some (.int x1), some (.int x2), some (.ref 1557), none]) (st1 := [.int x2, .int x1, .ref 1558, .int 0, .ref 1557]) (M1 := M) (P := True) (pc1 := 5) [.aload_n 3, .iconst 0, .aload_n 0, .iload_n 1, .iload_n 2] (Nat.le_of_ble_eq_true rfl) (by decide +kernel) rfl trivial rfl (R_callX (As := [.int x1, .int x2]) (rest := [.int 0, .ref 1557]) (by decide +kernel) V16_27 hX hk ⟨Nat.le_of_ble_eq_true rfl, rfl⟩ rfl rfl (Nat.le_of_ble_eq_true rfl) hr ht)
theorem post_room {g : Gl} {k : Nat} {M1 : Mem} {x1 x2 : Int32} {r : Int32} : Rc g k 0 mL_room 8 [some (.ref 1558), some (.int x1), some (.int x2), some (.ref 1557), none] [.int r, .int 0, .ref 1557] M1 (.inl (some (.int 0), wl M1 1557 0 r.toInt64)) :=
  R_blk (lv1 := [some (.ref 1558), some (.int x1), some (.int x2), some (.ref 1557), none]) (st1 := []) (M1 := wl M1 1557 0 r.toInt64) (P := oA 4 1557 0 ∧ True) (pc1 := 10) [.i2l, .lastore] (Nat.le_of_ble_eq_true rfl) (by decide +kernel) rfl ⟨⟨Nat.le_of_ble_eq_true rfl, rfl, vpl (by decide)⟩, trivial⟩ rfl (R_goto (off := 11) (tgt := 21) (by decide +kernel) (by decide) (R_blk (lv1 := [some (.ref 1558), some (.int x1), some (.int x2), some (.ref 1557), none]) (st1 := [.int 0]) (M1 := wl M1 1557 0 r.toInt64) (P := True) (pc1 := 22) [.iconst 0] (Nat.le_of_ble_eq_true rfl) (by decide +kernel) rfl trivial rfl (R_iret (by decide +kernel) rfl)))
theorem CW_room {g : Gl} (x1 : Int32) (x2 : Int32) (M : Mem) (hp : Q_room x1 x2 M) : MsW g 8 2 mL_room hL_room [.ref 1558, .int x1, .int x2, .ref 1557] M (W_room x1 x2 M).1 (W_room x1 x2 M).2 := by
  have hX : MsX g 7 2 m11_room [.ref 1558, .int x1, .int x2] M (F_11_room_0 x1 x2 M) := C_11_room x1 x2 M hp.1
  have hs := hp.2
  rw [W_room]
  generalize F_11_room_0 x1 x2 M = o1 at hX hs ⊢
  rcases hs with ⟨r, M1, rfl⟩ | ⟨hf, M1, rfl⟩ | ⟨hf, M1, rfl⟩
  · refine MsW.of okW_room (Nat.le_of_ble_eq_true rfl) (newB_ok (by decide +kernel)) (R_cw (cx := 0 + 2) (by omega) (pre_room hX (Nat.le_refl _) (fun w M2 h => ?_) (fun E M2 h => by cases h))) (Or.inl rfl)
    cases h
    exact post_room
  · exact MsW.of okW_room (Nat.le_of_ble_eq_true rfl) (newB_ok (by decide +kernel)) (R_cw (cx := 0 + 2) (by omega) (pre_room hX (Nat.le_refl _) (fun w M2 h => by cases h) (fun E M2 h => by cases h; rfl))) (Or.inr ⟨_, rfl, cat_room_n⟩)
  · exact MsW.of okW_room (Nat.le_of_ble_eq_true rfl) (newB_ok (by decide +kernel)) (R_cw (cx := 0 + 2) (by omega) (pre_room hX (Nat.le_refl _) (fun w M2 h => by cases h) (fun E M2 h => by cases h; rfl))) (Or.inr ⟨_, rfl, cat_room_e⟩)
abbrev cL_door : ByteArray := method_9_code
def yL_door : MethodName := ⟨"LostMuseumLaw", "door", "(LLostMuseum;II[J)I"⟩
def mL_door : MD := (16, yL_door, cL_door, 5, some .int)
def hL_door : HT := [(0, 10, 13, 31), (0, 10, 17, 13)]
theorem okW_door : okW mL_door hL_door := ⟨by decide +kernel, rfl, (Nat.le_of_ble_eq_true rfl), inT5 (i := 118) rfl rfl, rfl⟩
theorem V16_33 : okV 16 33 2 m11_door := ⟨Nat.le_of_ble_eq_true rfl, okM_m11_door, ⟨by decide +kernel, by decide +kernel, by decide +kernel⟩, inT5 (i := 119) rfl rfl, inT1 (i := 1) rfl rfl, inT5 (i := 120) rfl rfl, inT5 (i := 121) rfl rfl⟩
theorem cat_door_n : catOK mL_door hL_door "java/util/NoSuchElementException" 1 := ⟨[], (0, 10, 13, 31), [(0, 10, 17, 13)], 4, 15, rfl, Or.inl rfl, by decide, w_lnkN, by decide +kernel, (Nat.le_of_ble_eq_true rfl), covB_ok (by decide +kernel), Or.inl ⟨by decide +kernel, rfl⟩, by decide +kernel, by decide +kernel⟩
theorem cat_door_e : catOK mL_door hL_door "java/lang/IllegalArgumentException" 2 := ⟨[(0, 10, 13, 31)], (0, 10, 17, 13), [], 4, 19, rfl, Or.inr ⟨rfl, fun z hz => by cases List.mem_singleton.mp hz; exact ⟨by decide, w_lnkN⟩⟩, by decide, w_lnkI, by decide +kernel, (Nat.le_of_ble_eq_true rfl), covB_ok (by decide +kernel), Or.inl ⟨by decide +kernel, rfl⟩, by decide +kernel, by decide +kernel⟩
def W_door (x1 : Int32) (x2 : Int32) (M : Mem) : Int32 × Mem := wOutI 1 2 (F_11_door_0 x1 x2 M)
def Q_door (x1 : Int32) (x2 : Int32) (M : Mem) : Prop := (P_11_door_0 x1 x2 M) ∧ okI true true (F_11_door_0 x1 x2 M)
theorem pre_door {g : Gl} {k c1 : Nat} {o o1 : Oc} {M : Mem} {x1 x2 : Int32} {d : Nat} (hX : MsX g d c1 m11_door [.ref 1558, .int x1, .int x2] M o1) (hk : d + 1 ≤ k) (hr : ∀ w M1, o1 = .inl (w, M1) → Rc g k 0 mL_door 8 [some (.ref 1558), some (.int x1), some (.int x2), some (.ref 1557), none] (w.toList ++ [.int 0, .ref 1557]) M1 o) (ht : ∀ E M1, o1 = .inr (E, M1) → o = .inr (E, M1)) : Rc g k (0 + c1) mL_door 0 [some (.ref 1558), some (.int x1), some (.int x2), some (.ref 1557), none] [] M o :=
  R_blk (lv1 := [some (.ref 1558), some (.int x1), some (.int x2), some (.ref 1557), none]) (st1 := [.int x2, .int x1, .ref 1558, .int 0, .ref 1557]) (M1 := M) (P := True) (pc1 := 5) [.aload_n 3, .iconst 0, .aload_n 0, .iload_n 1, .iload_n 2] (Nat.le_of_ble_eq_true rfl) (by decide +kernel) rfl trivial rfl (R_callX (As := [.int x1, .int x2]) (rest := [.int 0, .ref 1557]) (by decide +kernel) V16_33 hX hk ⟨Nat.le_of_ble_eq_true rfl, rfl⟩ rfl rfl (Nat.le_of_ble_eq_true rfl) hr ht)
theorem post_door {g : Gl} {k : Nat} {M1 : Mem} {x1 x2 : Int32} {r : Int32} : Rc g k 0 mL_door 8 [some (.ref 1558), some (.int x1), some (.int x2), some (.ref 1557), none] [.int r, .int 0, .ref 1557] M1 (.inl (some (.int 0), wl M1 1557 0 r.toInt64)) :=
  R_blk (lv1 := [some (.ref 1558), some (.int x1), some (.int x2), some (.ref 1557), none]) (st1 := []) (M1 := wl M1 1557 0 r.toInt64) (P := oA 4 1557 0 ∧ True) (pc1 := 10) [.i2l, .lastore] (Nat.le_of_ble_eq_true rfl) (by decide +kernel) rfl ⟨⟨Nat.le_of_ble_eq_true rfl, rfl, vpl (by decide)⟩, trivial⟩ rfl (R_goto (off := 11) (tgt := 21) (by decide +kernel) (by decide) (R_blk (lv1 := [some (.ref 1558), some (.int x1), some (.int x2), some (.ref 1557), none]) (st1 := [.int 0]) (M1 := wl M1 1557 0 r.toInt64) (P := True) (pc1 := 22) [.iconst 0] (Nat.le_of_ble_eq_true rfl) (by decide +kernel) rfl trivial rfl (R_iret (by decide +kernel) rfl)))
theorem CW_door {g : Gl} (x1 : Int32) (x2 : Int32) (M : Mem) (hp : Q_door x1 x2 M) : MsW g 8 2 mL_door hL_door [.ref 1558, .int x1, .int x2, .ref 1557] M (W_door x1 x2 M).1 (W_door x1 x2 M).2 := by
  have hX : MsX g 7 2 m11_door [.ref 1558, .int x1, .int x2] M (F_11_door_0 x1 x2 M) := C_11_door x1 x2 M hp.1
  have hs := hp.2
  rw [W_door]
  generalize F_11_door_0 x1 x2 M = o1 at hX hs ⊢
  rcases hs with ⟨r, M1, rfl⟩ | ⟨hf, M1, rfl⟩ | ⟨hf, M1, rfl⟩
  · refine MsW.of okW_door (Nat.le_of_ble_eq_true rfl) (newB_ok (by decide +kernel)) (R_cw (cx := 0 + 2) (by omega) (pre_door hX (Nat.le_refl _) (fun w M2 h => ?_) (fun E M2 h => by cases h))) (Or.inl rfl)
    cases h
    exact post_door
  · exact MsW.of okW_door (Nat.le_of_ble_eq_true rfl) (newB_ok (by decide +kernel)) (R_cw (cx := 0 + 2) (by omega) (pre_door hX (Nat.le_refl _) (fun w M2 h => by cases h) (fun E M2 h => by cases h; rfl))) (Or.inr ⟨_, rfl, cat_door_n⟩)
  · exact MsW.of okW_door (Nat.le_of_ble_eq_true rfl) (newB_ok (by decide +kernel)) (R_cw (cx := 0 + 2) (by omega) (pre_door hX (Nat.le_refl _) (fun w M2 h => by cases h) (fun E M2 h => by cases h; rfl))) (Or.inr ⟨_, rfl, cat_door_e⟩)
abbrev cL_tour : ByteArray := method_10_code
def yL_tour : MethodName := ⟨"LostMuseumLaw", "tour", "(LLostMuseum;I[J)I"⟩
def mL_tour : MD := (16, yL_tour, cL_tour, 4, some .int)
def hL_tour : HT := [(0, 9, 12, 31)]
theorem okW_tour : okW mL_tour hL_tour := ⟨by decide +kernel, rfl, (Nat.le_of_ble_eq_true rfl), inT5 (i := 131) rfl rfl, rfl⟩
theorem V16_36 : okV 16 36 1 m11_tour := ⟨Nat.le_of_ble_eq_true rfl, okM_m11_tour, ⟨by decide +kernel, by decide +kernel, by decide +kernel⟩, inT5 (i := 132) rfl rfl, inT1 (i := 1) rfl rfl, inT5 (i := 133) rfl rfl, inT5 (i := 134) rfl rfl⟩
theorem cat_tour_n : catOK mL_tour hL_tour "java/util/NoSuchElementException" 1 := ⟨[], (0, 9, 12, 31), [], 3, 13, rfl, Or.inl rfl, by decide, w_lnkN, by decide +kernel, (Nat.le_of_ble_eq_true rfl), covB_ok (by decide +kernel), Or.inr ⟨3, by decide +kernel, rfl, rfl⟩, by decide +kernel, by decide +kernel⟩
def W_tour (x1 : Int32) (M : Mem) : Int32 × Mem := wOutI 1 0 (F_11_tour_0 x1 M)
def Q_tour (x1 : Int32) (M : Mem) : Prop := (P_11_tour_0 x1 M) ∧ okI true false (F_11_tour_0 x1 M)
theorem pre_tour {g : Gl} {k c1 : Nat} {o o1 : Oc} {M : Mem} {x1 : Int32} {d : Nat} (hX : MsX g d c1 m11_tour [.ref 1558, .int x1] M o1) (hk : d + 1 ≤ k) (hr : ∀ w M1, o1 = .inl (w, M1) → Rc g k 0 mL_tour 7 [some (.ref 1558), some (.int x1), some (.ref 1557), none] (w.toList ++ [.int 0, .ref 1557]) M1 o) (ht : ∀ E M1, o1 = .inr (E, M1) → o = .inr (E, M1)) : Rc g k (0 + c1) mL_tour 0 [some (.ref 1558), some (.int x1), some (.ref 1557), none] [] M o :=
  R_blk (lv1 := [some (.ref 1558), some (.int x1), some (.ref 1557), none]) (st1 := [.int x1, .ref 1558, .int 0, .ref 1557]) (M1 := M) (P := True) (pc1 := 4) [.aload_n 2, .iconst 0, .aload_n 0, .iload_n 1] (Nat.le_of_ble_eq_true rfl) (by decide +kernel) rfl trivial rfl (R_callX (As := [.int x1]) (rest := [.int 0, .ref 1557]) (by decide +kernel) V16_36 hX hk ⟨Nat.le_of_ble_eq_true rfl, rfl⟩ rfl rfl (Nat.le_of_ble_eq_true rfl) hr ht)
theorem post_tour {g : Gl} {k : Nat} {M1 : Mem} {x1 : Int32} {r : Int32} : Rc g k 0 mL_tour 7 [some (.ref 1558), some (.int x1), some (.ref 1557), none] [.int r, .int 0, .ref 1557] M1 (.inl (some (.int 0), wl M1 1557 0 r.toInt64)) :=
  R_blk (lv1 := [some (.ref 1558), some (.int x1), some (.ref 1557), none]) (st1 := []) (M1 := wl M1 1557 0 r.toInt64) (P := oA 4 1557 0 ∧ True) (pc1 := 9) [.i2l, .lastore] (Nat.le_of_ble_eq_true rfl) (by decide +kernel) rfl ⟨⟨Nat.le_of_ble_eq_true rfl, rfl, vpl (by decide)⟩, trivial⟩ rfl (R_goto (off := 6) (tgt := 15) (by decide +kernel) (by decide) (R_blk (lv1 := [some (.ref 1558), some (.int x1), some (.ref 1557), none]) (st1 := [.int 0]) (M1 := wl M1 1557 0 r.toInt64) (P := True) (pc1 := 16) [.iconst 0] (Nat.le_of_ble_eq_true rfl) (by decide +kernel) rfl trivial rfl (R_iret (by decide +kernel) rfl)))
theorem CW_tour {g : Gl} (x1 : Int32) (M : Mem) (hp : Q_tour x1 M) : MsW g 7 1 mL_tour hL_tour [.ref 1558, .int x1, .ref 1557] M (W_tour x1 M).1 (W_tour x1 M).2 := by
  have hX : MsX g 6 1 m11_tour [.ref 1558, .int x1] M (F_11_tour_0 x1 M) := C_11_tour x1 M hp.1
  have hs := hp.2
  rw [W_tour]
  generalize F_11_tour_0 x1 M = o1 at hX hs ⊢
  rcases hs with ⟨r, M1, rfl⟩ | ⟨hf, M1, rfl⟩ | ⟨hf, M1, rfl⟩
  · refine MsW.of okW_tour (Nat.le_of_ble_eq_true rfl) (newB_ok (by decide +kernel)) (R_cw (cx := 0 + 1) (by omega) (pre_tour hX (Nat.le_refl _) (fun w M2 h => ?_) (fun E M2 h => by cases h))) (Or.inl rfl)
    cases h
    exact post_tour
  · exact MsW.of okW_tour (Nat.le_of_ble_eq_true rfl) (newB_ok (by decide +kernel)) (R_cw (cx := 0 + 1) (by omega) (pre_tour hX (Nat.le_refl _) (fun w M2 h => by cases h) (fun E M2 h => by cases h; rfl))) (Or.inr ⟨_, rfl, cat_tour_n⟩)
  · cases hf
abbrev cL_open : ByteArray := method_11_code
def yL_open : MethodName := ⟨"LostMuseumLaw", "open", "(LLostMuseum;III[J)I"⟩
def mL_open : MD := (16, yL_open, cL_open, 6, some .int)
def hL_open : HT := [(0, 19, 22, 31), (0, 19, 26, 13)]
theorem okW_open : okW mL_open hL_open := ⟨by decide +kernel, rfl, (Nat.le_of_ble_eq_true rfl), inT5 (i := 139) rfl rfl, rfl⟩
theorem V16_39 : okV 16 39 3 m11_open := ⟨Nat.le_of_ble_eq_true rfl, okM_m11_open, ⟨by decide +kernel, by decide +kernel, by decide +kernel⟩, inT5 (i := 140) rfl rfl, inT1 (i := 1) rfl rfl, inT5 (i := 141) rfl rfl, inT5 (i := 142) rfl rfl⟩
theorem cat_open_n : catOK mL_open hL_open "java/util/NoSuchElementException" 1 := ⟨[], (0, 19, 22, 31), [(0, 19, 26, 13)], 5, 24, rfl, Or.inl rfl, by decide, w_lnkN, by decide +kernel, (Nat.le_of_ble_eq_true rfl), covB_ok (by decide +kernel), Or.inl ⟨by decide +kernel, rfl⟩, by decide +kernel, by decide +kernel⟩
theorem cat_open_e : catOK mL_open hL_open "java/lang/IllegalArgumentException" 2 := ⟨[(0, 19, 22, 31)], (0, 19, 26, 13), [], 5, 28, rfl, Or.inr ⟨rfl, fun z hz => by cases List.mem_singleton.mp hz; exact ⟨by decide, w_lnkN⟩⟩, by decide, w_lnkI, by decide +kernel, (Nat.le_of_ble_eq_true rfl), covB_ok (by decide +kernel), Or.inl ⟨by decide +kernel, rfl⟩, by decide +kernel, by decide +kernel⟩
def W_open (x1 : Int32) (x2 : Int32) (x3 : Int32) (M : Mem) : Int32 × Mem := wOutZ 1 2 (F_11_open_0 x1 x2 x3 M)
def Q_open (x1 : Int32) (x2 : Int32) (x3 : Int32) (M : Mem) : Prop := (P_11_open_0 x1 x2 x3 M) ∧ okI true true (F_11_open_0 x1 x2 x3 M)
theorem pre_open {g : Gl} {k c1 : Nat} {o o1 : Oc} {M : Mem} {x1 x2 x3 : Int32} {d : Nat} (hX : MsX g d c1 m11_open [.ref 1558, .int x1, .int x2, .int x3] M o1) (hk : d + 1 ≤ k) (hr : ∀ w M1, o1 = .inl (w, M1) → Rc g k 0 mL_open 10 [some (.ref 1558), some (.int x1), some (.int x2), some (.int x3), some (.ref 1557), none] (w.toList ++ [.int 0, .ref 1557]) M1 o) (ht : ∀ E M1, o1 = .inr (E, M1) → o = .inr (E, M1)) : Rc g k (0 + c1) mL_open 0 [some (.ref 1558), some (.int x1), some (.int x2), some (.int x3), some (.ref 1557), none] [] M o :=
  R_blk (lv1 := [some (.ref 1558), some (.int x1), some (.int x2), some (.int x3), some (.ref 1557), none]) (st1 := [.int x3, .int x2, .int x1, .ref 1558, .int 0, .ref 1557]) (M1 := M) (P := True) (pc1 := 7) [.aload 4, .iconst 0, .aload_n 0, .iload_n 1, .iload_n 2, .iload_n 3] (Nat.le_of_ble_eq_true rfl) (by decide +kernel) rfl trivial rfl (R_callX (As := [.int x1, .int x2, .int x3]) (rest := [.int 0, .ref 1557]) (by decide +kernel) V16_39 hX hk ⟨Nat.le_of_ble_eq_true rfl, rfl⟩ rfl rfl (Nat.le_of_ble_eq_true rfl) hr ht)
theorem post_open {g : Gl} {k : Nat} {M1 : Mem} {x1 x2 x3 : Int32} {r : Int32} : Rc g k 0 mL_open 10 [some (.ref 1558), some (.int x1), some (.int x2), some (.int x3), some (.ref 1557), none] [.int r, .int 0, .ref 1557] M1 (.inl (some (.int 0), wl M1 1557 0 (if r = 0 then 0 else 1))) :=
  R_if_eq (off := 7) (tgt := 17) (by decide +kernel) (by decide) (fun h => by rw [if_pos h]; exact R_blk (lv1 := [some (.ref 1558), some (.int x1), some (.int x2), some (.int x3), some (.ref 1557), none]) (st1 := []) (M1 := wl M1 1557 0 0) (P := oA 4 1557 0 ∧ True) (pc1 := 19) [.lconst 0, .lastore] (Nat.le_of_ble_eq_true rfl) (by decide +kernel) rfl ⟨⟨Nat.le_of_ble_eq_true rfl, rfl, vpl (by decide)⟩, trivial⟩ rfl (R_goto (off := 11) (tgt := 30) (by decide +kernel) (by decide) (R_blk (lv1 := [some (.ref 1558), some (.int x1), some (.int x2), some (.int x3), some (.ref 1557), none]) (st1 := [.int 0]) (M1 := wl M1 1557 0 0) (P := True) (pc1 := 31) [.iconst 0] (Nat.le_of_ble_eq_true rfl) (by decide +kernel) rfl trivial rfl (R_iret (by decide +kernel) rfl)))) (fun h => by rw [if_neg h]; exact R_blk (lv1 := [some (.ref 1558), some (.int x1), some (.int x2), some (.int x3), some (.ref 1557), none]) (st1 := [.long 1, .int 0, .ref 1557]) (M1 := M1) (P := True) (pc1 := 14) [.lconst 1] (Nat.le_of_ble_eq_true rfl) (by decide +kernel) rfl trivial rfl (R_goto (off := 4) (tgt := 18) (by decide +kernel) (by decide) (R_blk (lv1 := [some (.ref 1558), some (.int x1), some (.int x2), some (.int x3), some (.ref 1557), none]) (st1 := []) (M1 := wl M1 1557 0 1) (P := oA 4 1557 0 ∧ True) (pc1 := 19) [.lastore] (Nat.le_of_ble_eq_true rfl) (by decide +kernel) rfl ⟨⟨Nat.le_of_ble_eq_true rfl, rfl, vpl (by decide)⟩, trivial⟩ rfl (R_goto (off := 11) (tgt := 30) (by decide +kernel) (by decide) (R_blk (lv1 := [some (.ref 1558), some (.int x1), some (.int x2), some (.int x3), some (.ref 1557), none]) (st1 := [.int 0]) (M1 := wl M1 1557 0 1) (P := True) (pc1 := 31) [.iconst 0] (Nat.le_of_ble_eq_true rfl) (by decide +kernel) rfl trivial rfl (R_iret (by decide +kernel) rfl))))))
theorem CW_open {g : Gl} (x1 : Int32) (x2 : Int32) (x3 : Int32) (M : Mem) (hp : Q_open x1 x2 x3 M) : MsW g 8 3 mL_open hL_open [.ref 1558, .int x1, .int x2, .int x3, .ref 1557] M (W_open x1 x2 x3 M).1 (W_open x1 x2 x3 M).2 := by
  have hX : MsX g 7 3 m11_open [.ref 1558, .int x1, .int x2, .int x3] M (F_11_open_0 x1 x2 x3 M) := C_11_open x1 x2 x3 M hp.1
  have hs := hp.2
  rw [W_open]
  generalize F_11_open_0 x1 x2 x3 M = o1 at hX hs ⊢
  rcases hs with ⟨r, M1, rfl⟩ | ⟨hf, M1, rfl⟩ | ⟨hf, M1, rfl⟩
  · refine MsW.of okW_open (Nat.le_of_ble_eq_true rfl) (newB_ok (by decide +kernel)) (R_cw (cx := 0 + 3) (by omega) (pre_open hX (Nat.le_refl _) (fun w M2 h => ?_) (fun E M2 h => by cases h))) (Or.inl rfl)
    cases h
    exact post_open
  · exact MsW.of okW_open (Nat.le_of_ble_eq_true rfl) (newB_ok (by decide +kernel)) (R_cw (cx := 0 + 3) (by omega) (pre_open hX (Nat.le_refl _) (fun w M2 h => by cases h) (fun E M2 h => by cases h; rfl))) (Or.inr ⟨_, rfl, cat_open_n⟩)
  · exact MsW.of okW_open (Nat.le_of_ble_eq_true rfl) (newB_ok (by decide +kernel)) (R_cw (cx := 0 + 3) (by omega) (pre_open hX (Nat.le_refl _) (fun w M2 h => by cases h) (fun E M2 h => by cases h; rfl))) (Or.inr ⟨_, rfl, cat_open_e⟩)
abbrev cL_slips : ByteArray := method_12_code
def yL_slips : MethodName := ⟨"LostMuseumLaw", "slips", "(LLostMuseum;I[J)I"⟩
def mL_slips : MD := (16, yL_slips, cL_slips, 4, some .int)
def hL_slips : HT := [(0, 9, 12, 13)]
theorem okW_slips : okW mL_slips hL_slips := ⟨by decide +kernel, rfl, (Nat.le_of_ble_eq_true rfl), inT5 (i := 146) rfl rfl, rfl⟩
theorem V16_43 : okV 16 43 1 m11_slips := ⟨Nat.le_of_ble_eq_true rfl, okM_m11_slips, ⟨by decide +kernel, by decide +kernel, by decide +kernel⟩, inT5 (i := 147) rfl rfl, inT1 (i := 1) rfl rfl, inT5 (i := 148) rfl rfl, inT5 (i := 149) rfl rfl⟩
theorem cat_slips_e : catOK mL_slips hL_slips "java/lang/IllegalArgumentException" 1 := ⟨[], (0, 9, 12, 13), [], 3, 13, rfl, Or.inl rfl, by decide, w_lnkI, by decide +kernel, (Nat.le_of_ble_eq_true rfl), covB_ok (by decide +kernel), Or.inr ⟨3, by decide +kernel, rfl, rfl⟩, by decide +kernel, by decide +kernel⟩
def W_slips (x1 : Int32) (M : Mem) : Int32 × Mem := wOutI 0 1 (F_11_slips_0 x1 M)
def Q_slips (x1 : Int32) (M : Mem) : Prop := (P_11_slips_0 x1 M) ∧ okI false true (F_11_slips_0 x1 M)
theorem pre_slips {g : Gl} {k c1 : Nat} {o o1 : Oc} {M : Mem} {x1 : Int32} {d : Nat} (hX : MsX g d c1 m11_slips [.ref 1558, .int x1] M o1) (hk : d + 1 ≤ k) (hr : ∀ w M1, o1 = .inl (w, M1) → Rc g k 0 mL_slips 7 [some (.ref 1558), some (.int x1), some (.ref 1557), none] (w.toList ++ [.int 0, .ref 1557]) M1 o) (ht : ∀ E M1, o1 = .inr (E, M1) → o = .inr (E, M1)) : Rc g k (0 + c1) mL_slips 0 [some (.ref 1558), some (.int x1), some (.ref 1557), none] [] M o :=
  R_blk (lv1 := [some (.ref 1558), some (.int x1), some (.ref 1557), none]) (st1 := [.int x1, .ref 1558, .int 0, .ref 1557]) (M1 := M) (P := True) (pc1 := 4) [.aload_n 2, .iconst 0, .aload_n 0, .iload_n 1] (Nat.le_of_ble_eq_true rfl) (by decide +kernel) rfl trivial rfl (R_callX (As := [.int x1]) (rest := [.int 0, .ref 1557]) (by decide +kernel) V16_43 hX hk ⟨Nat.le_of_ble_eq_true rfl, rfl⟩ rfl rfl (Nat.le_of_ble_eq_true rfl) hr ht)
theorem post_slips {g : Gl} {k : Nat} {M1 : Mem} {x1 : Int32} {r : Int32} : Rc g k 0 mL_slips 7 [some (.ref 1558), some (.int x1), some (.ref 1557), none] [.int r, .int 0, .ref 1557] M1 (.inl (some (.int 0), wl M1 1557 0 r.toInt64)) :=
  R_blk (lv1 := [some (.ref 1558), some (.int x1), some (.ref 1557), none]) (st1 := []) (M1 := wl M1 1557 0 r.toInt64) (P := oA 4 1557 0 ∧ True) (pc1 := 9) [.i2l, .lastore] (Nat.le_of_ble_eq_true rfl) (by decide +kernel) rfl ⟨⟨Nat.le_of_ble_eq_true rfl, rfl, vpl (by decide)⟩, trivial⟩ rfl (R_goto (off := 6) (tgt := 15) (by decide +kernel) (by decide) (R_blk (lv1 := [some (.ref 1558), some (.int x1), some (.ref 1557), none]) (st1 := [.int 0]) (M1 := wl M1 1557 0 r.toInt64) (P := True) (pc1 := 16) [.iconst 0] (Nat.le_of_ble_eq_true rfl) (by decide +kernel) rfl trivial rfl (R_iret (by decide +kernel) rfl)))
theorem CW_slips {g : Gl} (x1 : Int32) (M : Mem) (hp : Q_slips x1 M) : MsW g 8 1 mL_slips hL_slips [.ref 1558, .int x1, .ref 1557] M (W_slips x1 M).1 (W_slips x1 M).2 := by
  have hX : MsX g 7 1 m11_slips [.ref 1558, .int x1] M (F_11_slips_0 x1 M) := C_11_slips x1 M hp.1
  have hs := hp.2
  rw [W_slips]
  generalize F_11_slips_0 x1 M = o1 at hX hs ⊢
  rcases hs with ⟨r, M1, rfl⟩ | ⟨hf, M1, rfl⟩ | ⟨hf, M1, rfl⟩
  · refine MsW.of okW_slips (Nat.le_of_ble_eq_true rfl) (newB_ok (by decide +kernel)) (R_cw (cx := 0 + 1) (by omega) (pre_slips hX (Nat.le_refl _) (fun w M2 h => ?_) (fun E M2 h => by cases h))) (Or.inl rfl)
    cases h
    exact post_slips
  · cases hf
  · exact MsW.of okW_slips (Nat.le_of_ble_eq_true rfl) (newB_ok (by decide +kernel)) (R_cw (cx := 0 + 1) (by omega) (pre_slips hX (Nat.le_refl _) (fun w M2 h => by cases h) (fun E M2 h => by cases h; rfl))) (Or.inr ⟨_, rfl, cat_slips_e⟩)
abbrev cL_ends : ByteArray := method_13_code
def yL_ends : MethodName := ⟨"LostMuseumLaw", "ends", "(LLostMuseum;I[J)I"⟩
def mL_ends : MD := (16, yL_ends, cL_ends, 4, some .int)
def hL_ends : HT := [(0, 16, 19, 31)]
theorem okW_ends : okW mL_ends hL_ends := ⟨by decide +kernel, rfl, (Nat.le_of_ble_eq_true rfl), inT5 (i := 174) rfl rfl, rfl⟩
theorem V16_46 : okV 16 46 1 m11_ends := ⟨Nat.le_of_ble_eq_true rfl, okM_m11_ends, ⟨by decide +kernel, by decide +kernel, by decide +kernel⟩, inT5 (i := 175) rfl rfl, inT1 (i := 1) rfl rfl, inT5 (i := 176) rfl rfl, inT5 (i := 177) rfl rfl⟩
theorem cat_ends_n : catOK mL_ends hL_ends "java/util/NoSuchElementException" 1 := ⟨[], (0, 16, 19, 31), [], 3, 20, rfl, Or.inl rfl, by decide, w_lnkN, by decide +kernel, (Nat.le_of_ble_eq_true rfl), covB_ok (by decide +kernel), Or.inr ⟨3, by decide +kernel, rfl, rfl⟩, by decide +kernel, by decide +kernel⟩
def W_ends (x1 : Int32) (M : Mem) : Int32 × Mem := wOutZ 1 0 (F_11_ends_0 x1 M)
def Q_ends (x1 : Int32) (M : Mem) : Prop := (P_11_ends_0 x1 M) ∧ okI true false (F_11_ends_0 x1 M)
theorem pre_ends {g : Gl} {k c1 : Nat} {o o1 : Oc} {M : Mem} {x1 : Int32} {d : Nat} (hX : MsX g d c1 m11_ends [.ref 1558, .int x1] M o1) (hk : d + 1 ≤ k) (hr : ∀ w M1, o1 = .inl (w, M1) → Rc g k 0 mL_ends 7 [some (.ref 1558), some (.int x1), some (.ref 1557), none] (w.toList ++ [.int 0, .ref 1557]) M1 o) (ht : ∀ E M1, o1 = .inr (E, M1) → o = .inr (E, M1)) : Rc g k (0 + c1) mL_ends 0 [some (.ref 1558), some (.int x1), some (.ref 1557), none] [] M o :=
  R_blk (lv1 := [some (.ref 1558), some (.int x1), some (.ref 1557), none]) (st1 := [.int x1, .ref 1558, .int 0, .ref 1557]) (M1 := M) (P := True) (pc1 := 4) [.aload_n 2, .iconst 0, .aload_n 0, .iload_n 1] (Nat.le_of_ble_eq_true rfl) (by decide +kernel) rfl trivial rfl (R_callX (As := [.int x1]) (rest := [.int 0, .ref 1557]) (by decide +kernel) V16_46 hX hk ⟨Nat.le_of_ble_eq_true rfl, rfl⟩ rfl rfl (Nat.le_of_ble_eq_true rfl) hr ht)
theorem post_ends {g : Gl} {k : Nat} {M1 : Mem} {x1 : Int32} {r : Int32} : Rc g k 0 mL_ends 7 [some (.ref 1558), some (.int x1), some (.ref 1557), none] [.int r, .int 0, .ref 1557] M1 (.inl (some (.int 0), wl M1 1557 0 (if r = 0 then 0 else 1))) :=
  R_if_eq (off := 7) (tgt := 14) (by decide +kernel) (by decide) (fun h => by rw [if_pos h]; exact R_blk (lv1 := [some (.ref 1558), some (.int x1), some (.ref 1557), none]) (st1 := []) (M1 := wl M1 1557 0 0) (P := oA 4 1557 0 ∧ True) (pc1 := 16) [.lconst 0, .lastore] (Nat.le_of_ble_eq_true rfl) (by decide +kernel) rfl ⟨⟨Nat.le_of_ble_eq_true rfl, rfl, vpl (by decide)⟩, trivial⟩ rfl (R_goto (off := 6) (tgt := 22) (by decide +kernel) (by decide) (R_blk (lv1 := [some (.ref 1558), some (.int x1), some (.ref 1557), none]) (st1 := [.int 0]) (M1 := wl M1 1557 0 0) (P := True) (pc1 := 23) [.iconst 0] (Nat.le_of_ble_eq_true rfl) (by decide +kernel) rfl trivial rfl (R_iret (by decide +kernel) rfl)))) (fun h => by rw [if_neg h]; exact R_blk (lv1 := [some (.ref 1558), some (.int x1), some (.ref 1557), none]) (st1 := [.long 1, .int 0, .ref 1557]) (M1 := M1) (P := True) (pc1 := 11) [.lconst 1] (Nat.le_of_ble_eq_true rfl) (by decide +kernel) rfl trivial rfl (R_goto (off := 4) (tgt := 15) (by decide +kernel) (by decide) (R_blk (lv1 := [some (.ref 1558), some (.int x1), some (.ref 1557), none]) (st1 := []) (M1 := wl M1 1557 0 1) (P := oA 4 1557 0 ∧ True) (pc1 := 16) [.lastore] (Nat.le_of_ble_eq_true rfl) (by decide +kernel) rfl ⟨⟨Nat.le_of_ble_eq_true rfl, rfl, vpl (by decide)⟩, trivial⟩ rfl (R_goto (off := 6) (tgt := 22) (by decide +kernel) (by decide) (R_blk (lv1 := [some (.ref 1558), some (.int x1), some (.ref 1557), none]) (st1 := [.int 0]) (M1 := wl M1 1557 0 1) (P := True) (pc1 := 23) [.iconst 0] (Nat.le_of_ble_eq_true rfl) (by decide +kernel) rfl trivial rfl (R_iret (by decide +kernel) rfl))))))
theorem CW_ends {g : Gl} (x1 : Int32) (M : Mem) (hp : Q_ends x1 M) : MsW g 8 1 mL_ends hL_ends [.ref 1558, .int x1, .ref 1557] M (W_ends x1 M).1 (W_ends x1 M).2 := by
  have hX : MsX g 7 1 m11_ends [.ref 1558, .int x1] M (F_11_ends_0 x1 M) := C_11_ends x1 M hp.1
  have hs := hp.2
  rw [W_ends]
  generalize F_11_ends_0 x1 M = o1 at hX hs ⊢
  rcases hs with ⟨r, M1, rfl⟩ | ⟨hf, M1, rfl⟩ | ⟨hf, M1, rfl⟩
  · refine MsW.of okW_ends (Nat.le_of_ble_eq_true rfl) (newB_ok (by decide +kernel)) (R_cw (cx := 0 + 1) (by omega) (pre_ends hX (Nat.le_refl _) (fun w M2 h => ?_) (fun E M2 h => by cases h))) (Or.inl rfl)
    cases h
    exact post_ends
  · exact MsW.of okW_ends (Nat.le_of_ble_eq_true rfl) (newB_ok (by decide +kernel)) (R_cw (cx := 0 + 1) (by omega) (pre_ends hX (Nat.le_refl _) (fun w M2 h => by cases h) (fun E M2 h => by cases h; rfl))) (Or.inr ⟨_, rfl, cat_ends_n⟩)
  · cases hf
abbrev cL_soon : ByteArray := method_14_code
def yL_soon : MethodName := ⟨"LostMuseumLaw", "soon", "(LLostMuseum;II[J)I"⟩
def mL_soon : MD := (16, yL_soon, cL_soon, 5, some .int)
def hL_soon : HT := [(0, 10, 13, 31)]
theorem okW_soon : okW mL_soon hL_soon := ⟨by decide +kernel, rfl, (Nat.le_of_ble_eq_true rfl), inT5 (i := 181) rfl rfl, rfl⟩
theorem V16_50 : okV 16 50 2 m11_soon := ⟨Nat.le_of_ble_eq_true rfl, okM_m11_soon, ⟨by decide +kernel, by decide +kernel, by decide +kernel⟩, inT5 (i := 182) rfl rfl, inT1 (i := 1) rfl rfl, inT5 (i := 183) rfl rfl, inT5 (i := 184) rfl rfl⟩
theorem cat_soon_n : catOK mL_soon hL_soon "java/util/NoSuchElementException" 1 := ⟨[], (0, 10, 13, 31), [], 4, 15, rfl, Or.inl rfl, by decide, w_lnkN, by decide +kernel, (Nat.le_of_ble_eq_true rfl), covB_ok (by decide +kernel), Or.inl ⟨by decide +kernel, rfl⟩, by decide +kernel, by decide +kernel⟩
def W_soon (x1 : Int32) (x2 : Int32) (M : Mem) : Int32 × Mem := wOutI 1 0 (F_11_soon_0 x1 x2 M)
def Q_soon (x1 : Int32) (x2 : Int32) (M : Mem) : Prop := (P_11_soon_0 x1 x2 M) ∧ okI true false (F_11_soon_0 x1 x2 M)
theorem pre_soon {g : Gl} {k c1 : Nat} {o o1 : Oc} {M : Mem} {x1 x2 : Int32} {d : Nat} (hX : MsX g d c1 m11_soon [.ref 1558, .int x1, .int x2] M o1) (hk : d + 1 ≤ k) (hr : ∀ w M1, o1 = .inl (w, M1) → Rc g k 0 mL_soon 8 [some (.ref 1558), some (.int x1), some (.int x2), some (.ref 1557), none] (w.toList ++ [.int 0, .ref 1557]) M1 o) (ht : ∀ E M1, o1 = .inr (E, M1) → o = .inr (E, M1)) : Rc g k (0 + c1) mL_soon 0 [some (.ref 1558), some (.int x1), some (.int x2), some (.ref 1557), none] [] M o :=
  R_blk (lv1 := [some (.ref 1558), some (.int x1), some (.int x2), some (.ref 1557), none]) (st1 := [.int x2, .int x1, .ref 1558, .int 0, .ref 1557]) (M1 := M) (P := True) (pc1 := 5) [.aload_n 3, .iconst 0, .aload_n 0, .iload_n 1, .iload_n 2] (Nat.le_of_ble_eq_true rfl) (by decide +kernel) rfl trivial rfl (R_callX (As := [.int x1, .int x2]) (rest := [.int 0, .ref 1557]) (by decide +kernel) V16_50 hX hk ⟨Nat.le_of_ble_eq_true rfl, rfl⟩ rfl rfl (Nat.le_of_ble_eq_true rfl) hr ht)
theorem post_soon {g : Gl} {k : Nat} {M1 : Mem} {x1 x2 : Int32} {r : Int32} : Rc g k 0 mL_soon 8 [some (.ref 1558), some (.int x1), some (.int x2), some (.ref 1557), none] [.int r, .int 0, .ref 1557] M1 (.inl (some (.int 0), wl M1 1557 0 r.toInt64)) :=
  R_blk (lv1 := [some (.ref 1558), some (.int x1), some (.int x2), some (.ref 1557), none]) (st1 := []) (M1 := wl M1 1557 0 r.toInt64) (P := oA 4 1557 0 ∧ True) (pc1 := 10) [.i2l, .lastore] (Nat.le_of_ble_eq_true rfl) (by decide +kernel) rfl ⟨⟨Nat.le_of_ble_eq_true rfl, rfl, vpl (by decide)⟩, trivial⟩ rfl (R_goto (off := 7) (tgt := 17) (by decide +kernel) (by decide) (R_blk (lv1 := [some (.ref 1558), some (.int x1), some (.int x2), some (.ref 1557), none]) (st1 := [.int 0]) (M1 := wl M1 1557 0 r.toInt64) (P := True) (pc1 := 18) [.iconst 0] (Nat.le_of_ble_eq_true rfl) (by decide +kernel) rfl trivial rfl (R_iret (by decide +kernel) rfl)))
theorem CW_soon {g : Gl} (x1 : Int32) (x2 : Int32) (M : Mem) (hp : Q_soon x1 x2 M) : MsW g 8 2 mL_soon hL_soon [.ref 1558, .int x1, .int x2, .ref 1557] M (W_soon x1 x2 M).1 (W_soon x1 x2 M).2 := by
  have hX : MsX g 7 2 m11_soon [.ref 1558, .int x1, .int x2] M (F_11_soon_0 x1 x2 M) := C_11_soon x1 x2 M hp.1
  have hs := hp.2
  rw [W_soon]
  generalize F_11_soon_0 x1 x2 M = o1 at hX hs ⊢
  rcases hs with ⟨r, M1, rfl⟩ | ⟨hf, M1, rfl⟩ | ⟨hf, M1, rfl⟩
  · refine MsW.of okW_soon (Nat.le_of_ble_eq_true rfl) (newB_ok (by decide +kernel)) (R_cw (cx := 0 + 2) (by omega) (pre_soon hX (Nat.le_refl _) (fun w M2 h => ?_) (fun E M2 h => by cases h))) (Or.inl rfl)
    cases h
    exact post_soon
  · exact MsW.of okW_soon (Nat.le_of_ble_eq_true rfl) (newB_ok (by decide +kernel)) (R_cw (cx := 0 + 2) (by omega) (pre_soon hX (Nat.le_refl _) (fun w M2 h => by cases h) (fun E M2 h => by cases h; rfl))) (Or.inr ⟨_, rfl, cat_soon_n⟩)
  · cases hf
abbrev cL_within : ByteArray := method_15_code
def yL_within : MethodName := ⟨"LostMuseumLaw", "within", "(LLostMuseum;II[J)I"⟩
def mL_within : MD := (16, yL_within, cL_within, 5, some .int)
def hL_within : HT := [(0, 10, 13, 31), (0, 10, 17, 13)]
theorem okW_within : okW mL_within hL_within := ⟨by decide +kernel, rfl, (Nat.le_of_ble_eq_true rfl), inT5 (i := 196) rfl rfl, rfl⟩
theorem V16_53 : okV 16 53 2 m11_within := ⟨Nat.le_of_ble_eq_true rfl, okM_m11_within, ⟨by decide +kernel, by decide +kernel, by decide +kernel⟩, inT5 (i := 197) rfl rfl, inT1 (i := 1) rfl rfl, inT5 (i := 198) rfl rfl, inT5 (i := 199) rfl rfl⟩
theorem cat_within_n : catOK mL_within hL_within "java/util/NoSuchElementException" 1 := ⟨[], (0, 10, 13, 31), [(0, 10, 17, 13)], 4, 15, rfl, Or.inl rfl, by decide, w_lnkN, by decide +kernel, (Nat.le_of_ble_eq_true rfl), covB_ok (by decide +kernel), Or.inl ⟨by decide +kernel, rfl⟩, by decide +kernel, by decide +kernel⟩
theorem cat_within_e : catOK mL_within hL_within "java/lang/IllegalArgumentException" 2 := ⟨[(0, 10, 13, 31)], (0, 10, 17, 13), [], 4, 19, rfl, Or.inr ⟨rfl, fun z hz => by cases List.mem_singleton.mp hz; exact ⟨by decide, w_lnkN⟩⟩, by decide, w_lnkI, by decide +kernel, (Nat.le_of_ble_eq_true rfl), covB_ok (by decide +kernel), Or.inl ⟨by decide +kernel, rfl⟩, by decide +kernel, by decide +kernel⟩
def W_within (x1 : Int32) (x2 : Int32) (M : Mem) : Int32 × Mem := wOutI 1 2 (F_11_within_0 x1 x2 M)
def Q_within (x1 : Int32) (x2 : Int32) (M : Mem) : Prop := (P_11_within_0 x1 x2 M) ∧ okI true true (F_11_within_0 x1 x2 M)
theorem pre_within {g : Gl} {k c1 : Nat} {o o1 : Oc} {M : Mem} {x1 x2 : Int32} {d : Nat} (hX : MsX g d c1 m11_within [.ref 1558, .int x1, .int x2] M o1) (hk : d + 1 ≤ k) (hr : ∀ w M1, o1 = .inl (w, M1) → Rc g k 0 mL_within 8 [some (.ref 1558), some (.int x1), some (.int x2), some (.ref 1557), none] (w.toList ++ [.int 0, .ref 1557]) M1 o) (ht : ∀ E M1, o1 = .inr (E, M1) → o = .inr (E, M1)) : Rc g k (0 + c1) mL_within 0 [some (.ref 1558), some (.int x1), some (.int x2), some (.ref 1557), none] [] M o :=
  R_blk (lv1 := [some (.ref 1558), some (.int x1), some (.int x2), some (.ref 1557), none]) (st1 := [.int x2, .int x1, .ref 1558, .int 0, .ref 1557]) (M1 := M) (P := True) (pc1 := 5) [.aload_n 3, .iconst 0, .aload_n 0, .iload_n 1, .iload_n 2] (Nat.le_of_ble_eq_true rfl) (by decide +kernel) rfl trivial rfl (R_callX (As := [.int x1, .int x2]) (rest := [.int 0, .ref 1557]) (by decide +kernel) V16_53 hX hk ⟨Nat.le_of_ble_eq_true rfl, rfl⟩ rfl rfl (Nat.le_of_ble_eq_true rfl) hr ht)
theorem post_within {g : Gl} {k : Nat} {M1 : Mem} {x1 x2 : Int32} {r : Int32} : Rc g k 0 mL_within 8 [some (.ref 1558), some (.int x1), some (.int x2), some (.ref 1557), none] [.int r, .int 0, .ref 1557] M1 (.inl (some (.int 0), wl M1 1557 0 r.toInt64)) :=
  R_blk (lv1 := [some (.ref 1558), some (.int x1), some (.int x2), some (.ref 1557), none]) (st1 := []) (M1 := wl M1 1557 0 r.toInt64) (P := oA 4 1557 0 ∧ True) (pc1 := 10) [.i2l, .lastore] (Nat.le_of_ble_eq_true rfl) (by decide +kernel) rfl ⟨⟨Nat.le_of_ble_eq_true rfl, rfl, vpl (by decide)⟩, trivial⟩ rfl (R_goto (off := 11) (tgt := 21) (by decide +kernel) (by decide) (R_blk (lv1 := [some (.ref 1558), some (.int x1), some (.int x2), some (.ref 1557), none]) (st1 := [.int 0]) (M1 := wl M1 1557 0 r.toInt64) (P := True) (pc1 := 22) [.iconst 0] (Nat.le_of_ble_eq_true rfl) (by decide +kernel) rfl trivial rfl (R_iret (by decide +kernel) rfl)))
theorem CW_within {g : Gl} (x1 : Int32) (x2 : Int32) (M : Mem) (hp : Q_within x1 x2 M) : MsW g 8 2 mL_within hL_within [.ref 1558, .int x1, .int x2, .ref 1557] M (W_within x1 x2 M).1 (W_within x1 x2 M).2 := by
  have hX : MsX g 7 2 m11_within [.ref 1558, .int x1, .int x2] M (F_11_within_0 x1 x2 M) := C_11_within x1 x2 M hp.1
  have hs := hp.2
  rw [W_within]
  generalize F_11_within_0 x1 x2 M = o1 at hX hs ⊢
  rcases hs with ⟨r, M1, rfl⟩ | ⟨hf, M1, rfl⟩ | ⟨hf, M1, rfl⟩
  · refine MsW.of okW_within (Nat.le_of_ble_eq_true rfl) (newB_ok (by decide +kernel)) (R_cw (cx := 0 + 2) (by omega) (pre_within hX (Nat.le_refl _) (fun w M2 h => ?_) (fun E M2 h => by cases h))) (Or.inl rfl)
    cases h
    exact post_within
  · exact MsW.of okW_within (Nat.le_of_ble_eq_true rfl) (newB_ok (by decide +kernel)) (R_cw (cx := 0 + 2) (by omega) (pre_within hX (Nat.le_refl _) (fun w M2 h => by cases h) (fun E M2 h => by cases h; rfl))) (Or.inr ⟨_, rfl, cat_within_n⟩)
  · exact MsW.of okW_within (Nat.le_of_ble_eq_true rfl) (newB_ok (by decide +kernel)) (R_cw (cx := 0 + 2) (by omega) (pre_within hX (Nat.le_refl _) (fun w M2 h => by cases h) (fun E M2 h => by cases h; rfl))) (Or.inr ⟨_, rfl, cat_within_e⟩)
abbrev cL_out : ByteArray := method_16_code
def yL_out : MethodName := ⟨"LostMuseumLaw", "out", "(LLostMuseum;I[J)I"⟩
def mL_out : MD := (16, yL_out, cL_out, 4, some .int)
def hL_out : HT := [(0, 9, 12, 31)]
theorem okW_out : okW mL_out hL_out := ⟨by decide +kernel, rfl, (Nat.le_of_ble_eq_true rfl), inT5 (i := 207) rfl rfl, rfl⟩
theorem V16_56 : okV 16 56 1 m11_out := ⟨Nat.le_of_ble_eq_true rfl, okM_m11_out, ⟨by decide +kernel, by decide +kernel, by decide +kernel⟩, inT5 (i := 208) rfl rfl, inT1 (i := 1) rfl rfl, inT5 (i := 209) rfl rfl, inT5 (i := 210) rfl rfl⟩
theorem cat_out_n : catOK mL_out hL_out "java/util/NoSuchElementException" 1 := ⟨[], (0, 9, 12, 31), [], 3, 13, rfl, Or.inl rfl, by decide, w_lnkN, by decide +kernel, (Nat.le_of_ble_eq_true rfl), covB_ok (by decide +kernel), Or.inr ⟨3, by decide +kernel, rfl, rfl⟩, by decide +kernel, by decide +kernel⟩
def W_out (x1 : Int32) (M : Mem) : Int32 × Mem := wOutI 1 0 (F_11_out_0 x1 M)
def Q_out (x1 : Int32) (M : Mem) : Prop := (P_11_out_0 x1 M) ∧ okI true false (F_11_out_0 x1 M)
theorem pre_out {g : Gl} {k c1 : Nat} {o o1 : Oc} {M : Mem} {x1 : Int32} {d : Nat} (hX : MsX g d c1 m11_out [.ref 1558, .int x1] M o1) (hk : d + 1 ≤ k) (hr : ∀ w M1, o1 = .inl (w, M1) → Rc g k 0 mL_out 7 [some (.ref 1558), some (.int x1), some (.ref 1557), none] (w.toList ++ [.int 0, .ref 1557]) M1 o) (ht : ∀ E M1, o1 = .inr (E, M1) → o = .inr (E, M1)) : Rc g k (0 + c1) mL_out 0 [some (.ref 1558), some (.int x1), some (.ref 1557), none] [] M o :=
  R_blk (lv1 := [some (.ref 1558), some (.int x1), some (.ref 1557), none]) (st1 := [.int x1, .ref 1558, .int 0, .ref 1557]) (M1 := M) (P := True) (pc1 := 4) [.aload_n 2, .iconst 0, .aload_n 0, .iload_n 1] (Nat.le_of_ble_eq_true rfl) (by decide +kernel) rfl trivial rfl (R_callX (As := [.int x1]) (rest := [.int 0, .ref 1557]) (by decide +kernel) V16_56 hX hk ⟨Nat.le_of_ble_eq_true rfl, rfl⟩ rfl rfl (Nat.le_of_ble_eq_true rfl) hr ht)
theorem post_out {g : Gl} {k : Nat} {M1 : Mem} {x1 : Int32} {r : Int32} : Rc g k 0 mL_out 7 [some (.ref 1558), some (.int x1), some (.ref 1557), none] [.int r, .int 0, .ref 1557] M1 (.inl (some (.int 0), wl M1 1557 0 r.toInt64)) :=
  R_blk (lv1 := [some (.ref 1558), some (.int x1), some (.ref 1557), none]) (st1 := []) (M1 := wl M1 1557 0 r.toInt64) (P := oA 4 1557 0 ∧ True) (pc1 := 9) [.i2l, .lastore] (Nat.le_of_ble_eq_true rfl) (by decide +kernel) rfl ⟨⟨Nat.le_of_ble_eq_true rfl, rfl, vpl (by decide)⟩, trivial⟩ rfl (R_goto (off := 6) (tgt := 15) (by decide +kernel) (by decide) (R_blk (lv1 := [some (.ref 1558), some (.int x1), some (.ref 1557), none]) (st1 := [.int 0]) (M1 := wl M1 1557 0 r.toInt64) (P := True) (pc1 := 16) [.iconst 0] (Nat.le_of_ble_eq_true rfl) (by decide +kernel) rfl trivial rfl (R_iret (by decide +kernel) rfl)))
theorem CW_out {g : Gl} (x1 : Int32) (M : Mem) (hp : Q_out x1 M) : MsW g 8 1 mL_out hL_out [.ref 1558, .int x1, .ref 1557] M (W_out x1 M).1 (W_out x1 M).2 := by
  have hX : MsX g 7 1 m11_out [.ref 1558, .int x1] M (F_11_out_0 x1 M) := C_11_out x1 M hp.1
  have hs := hp.2
  rw [W_out]
  generalize F_11_out_0 x1 M = o1 at hX hs ⊢
  rcases hs with ⟨r, M1, rfl⟩ | ⟨hf, M1, rfl⟩ | ⟨hf, M1, rfl⟩
  · refine MsW.of okW_out (Nat.le_of_ble_eq_true rfl) (newB_ok (by decide +kernel)) (R_cw (cx := 0 + 1) (by omega) (pre_out hX (Nat.le_refl _) (fun w M2 h => ?_) (fun E M2 h => by cases h))) (Or.inl rfl)
    cases h
    exact post_out
  · exact MsW.of okW_out (Nat.le_of_ble_eq_true rfl) (newB_ok (by decide +kernel)) (R_cw (cx := 0 + 1) (by omega) (pre_out hX (Nat.le_refl _) (fun w M2 h => by cases h) (fun E M2 h => by cases h; rfl))) (Or.inr ⟨_, rfl, cat_out_n⟩)
  · cases hf
abbrev cL_string : ByteArray := method_17_code
def yL_string : MethodName := ⟨"LostMuseumLaw", "string", "(LLostMuseum;I[J)I"⟩
def mL_string : MD := (16, yL_string, cL_string, 4, some .int)
def hL_string : HT := [(0, 9, 12, 31)]
theorem okW_string : okW mL_string hL_string := ⟨by decide +kernel, rfl, (Nat.le_of_ble_eq_true rfl), inT5 (i := 214) rfl rfl, rfl⟩
theorem V16_59 : okV 16 59 1 m11_string := ⟨Nat.le_of_ble_eq_true rfl, okM_m11_string, ⟨by decide +kernel, by decide +kernel, by decide +kernel⟩, inT5 (i := 215) rfl rfl, inT1 (i := 1) rfl rfl, inT5 (i := 216) rfl rfl, inT5 (i := 217) rfl rfl⟩
theorem cat_string_n : catOK mL_string hL_string "java/util/NoSuchElementException" 1 := ⟨[], (0, 9, 12, 31), [], 3, 13, rfl, Or.inl rfl, by decide, w_lnkN, by decide +kernel, (Nat.le_of_ble_eq_true rfl), covB_ok (by decide +kernel), Or.inr ⟨3, by decide +kernel, rfl, rfl⟩, by decide +kernel, by decide +kernel⟩
def W_string (x1 : Int32) (M : Mem) : Int32 × Mem := wOutI 1 0 (F_11_string_0 x1 M)
def Q_string (x1 : Int32) (M : Mem) : Prop := (P_11_string_0 x1 M) ∧ okI true false (F_11_string_0 x1 M)
theorem pre_string {g : Gl} {k c1 : Nat} {o o1 : Oc} {M : Mem} {x1 : Int32} {d : Nat} (hX : MsX g d c1 m11_string [.ref 1558, .int x1] M o1) (hk : d + 1 ≤ k) (hr : ∀ w M1, o1 = .inl (w, M1) → Rc g k 0 mL_string 7 [some (.ref 1558), some (.int x1), some (.ref 1557), none] (w.toList ++ [.int 0, .ref 1557]) M1 o) (ht : ∀ E M1, o1 = .inr (E, M1) → o = .inr (E, M1)) : Rc g k (0 + c1) mL_string 0 [some (.ref 1558), some (.int x1), some (.ref 1557), none] [] M o :=
  R_blk (lv1 := [some (.ref 1558), some (.int x1), some (.ref 1557), none]) (st1 := [.int x1, .ref 1558, .int 0, .ref 1557]) (M1 := M) (P := True) (pc1 := 4) [.aload_n 2, .iconst 0, .aload_n 0, .iload_n 1] (Nat.le_of_ble_eq_true rfl) (by decide +kernel) rfl trivial rfl (R_callX (As := [.int x1]) (rest := [.int 0, .ref 1557]) (by decide +kernel) V16_59 hX hk ⟨Nat.le_of_ble_eq_true rfl, rfl⟩ rfl rfl (Nat.le_of_ble_eq_true rfl) hr ht)
theorem post_string {g : Gl} {k : Nat} {M1 : Mem} {x1 : Int32} {r : Int32} : Rc g k 0 mL_string 7 [some (.ref 1558), some (.int x1), some (.ref 1557), none] [.int r, .int 0, .ref 1557] M1 (.inl (some (.int 0), wl M1 1557 0 r.toInt64)) :=
  R_blk (lv1 := [some (.ref 1558), some (.int x1), some (.ref 1557), none]) (st1 := []) (M1 := wl M1 1557 0 r.toInt64) (P := oA 4 1557 0 ∧ True) (pc1 := 9) [.i2l, .lastore] (Nat.le_of_ble_eq_true rfl) (by decide +kernel) rfl ⟨⟨Nat.le_of_ble_eq_true rfl, rfl, vpl (by decide)⟩, trivial⟩ rfl (R_goto (off := 6) (tgt := 15) (by decide +kernel) (by decide) (R_blk (lv1 := [some (.ref 1558), some (.int x1), some (.ref 1557), none]) (st1 := [.int 0]) (M1 := wl M1 1557 0 r.toInt64) (P := True) (pc1 := 16) [.iconst 0] (Nat.le_of_ble_eq_true rfl) (by decide +kernel) rfl trivial rfl (R_iret (by decide +kernel) rfl)))
theorem CW_string {g : Gl} (x1 : Int32) (M : Mem) (hp : Q_string x1 M) : MsW g 8 1 mL_string hL_string [.ref 1558, .int x1, .ref 1557] M (W_string x1 M).1 (W_string x1 M).2 := by
  have hX : MsX g 7 1 m11_string [.ref 1558, .int x1] M (F_11_string_0 x1 M) := C_11_string x1 M hp.1
  have hs := hp.2
  rw [W_string]
  generalize F_11_string_0 x1 M = o1 at hX hs ⊢
  rcases hs with ⟨r, M1, rfl⟩ | ⟨hf, M1, rfl⟩ | ⟨hf, M1, rfl⟩
  · refine MsW.of okW_string (Nat.le_of_ble_eq_true rfl) (newB_ok (by decide +kernel)) (R_cw (cx := 0 + 1) (by omega) (pre_string hX (Nat.le_refl _) (fun w M2 h => ?_) (fun E M2 h => by cases h))) (Or.inl rfl)
    cases h
    exact post_string
  · exact MsW.of okW_string (Nat.le_of_ble_eq_true rfl) (newB_ok (by decide +kernel)) (R_cw (cx := 0 + 1) (by omega) (pre_string hX (Nat.le_refl _) (fun w M2 h => by cases h) (fun E M2 h => by cases h; rfl))) (Or.inr ⟨_, rfl, cat_string_n⟩)
  · cases hf
abbrev cL_longest : ByteArray := method_18_code
def yL_longest : MethodName := ⟨"LostMuseumLaw", "longest", "(LLostMuseum;I[J)I"⟩
def mL_longest : MD := (16, yL_longest, cL_longest, 4, some .int)
def hL_longest : HT := [(0, 9, 12, 13)]
theorem okW_longest : okW mL_longest hL_longest := ⟨by decide +kernel, rfl, (Nat.le_of_ble_eq_true rfl), inT5 (i := 226) rfl rfl, rfl⟩
theorem V16_62 : okV 16 62 1 m11_longest := ⟨Nat.le_of_ble_eq_true rfl, okM_m11_longest, ⟨by decide +kernel, by decide +kernel, by decide +kernel⟩, inT5 (i := 227) rfl rfl, inT1 (i := 1) rfl rfl, inT5 (i := 228) rfl rfl, inT5 (i := 229) rfl rfl⟩
theorem cat_longest_e : catOK mL_longest hL_longest "java/lang/IllegalArgumentException" 1 := ⟨[], (0, 9, 12, 13), [], 3, 13, rfl, Or.inl rfl, by decide, w_lnkI, by decide +kernel, (Nat.le_of_ble_eq_true rfl), covB_ok (by decide +kernel), Or.inr ⟨3, by decide +kernel, rfl, rfl⟩, by decide +kernel, by decide +kernel⟩
def W_longest (x1 : Int32) (M : Mem) : Int32 × Mem := wOutI 0 1 (F_11_longest_0 x1 M)
def Q_longest (x1 : Int32) (M : Mem) : Prop := (P_11_longest_0 x1 M) ∧ okI false true (F_11_longest_0 x1 M)
theorem pre_longest {g : Gl} {k c1 : Nat} {o o1 : Oc} {M : Mem} {x1 : Int32} {d : Nat} (hX : MsX g d c1 m11_longest [.ref 1558, .int x1] M o1) (hk : d + 1 ≤ k) (hr : ∀ w M1, o1 = .inl (w, M1) → Rc g k 0 mL_longest 7 [some (.ref 1558), some (.int x1), some (.ref 1557), none] (w.toList ++ [.int 0, .ref 1557]) M1 o) (ht : ∀ E M1, o1 = .inr (E, M1) → o = .inr (E, M1)) : Rc g k (0 + c1) mL_longest 0 [some (.ref 1558), some (.int x1), some (.ref 1557), none] [] M o :=
  R_blk (lv1 := [some (.ref 1558), some (.int x1), some (.ref 1557), none]) (st1 := [.int x1, .ref 1558, .int 0, .ref 1557]) (M1 := M) (P := True) (pc1 := 4) [.aload_n 2, .iconst 0, .aload_n 0, .iload_n 1] (Nat.le_of_ble_eq_true rfl) (by decide +kernel) rfl trivial rfl (R_callX (As := [.int x1]) (rest := [.int 0, .ref 1557]) (by decide +kernel) V16_62 hX hk ⟨Nat.le_of_ble_eq_true rfl, rfl⟩ rfl rfl (Nat.le_of_ble_eq_true rfl) hr ht)
theorem post_longest {g : Gl} {k : Nat} {M1 : Mem} {x1 : Int32} {r : Int32} : Rc g k 0 mL_longest 7 [some (.ref 1558), some (.int x1), some (.ref 1557), none] [.int r, .int 0, .ref 1557] M1 (.inl (some (.int 0), wl M1 1557 0 r.toInt64)) :=
  R_blk (lv1 := [some (.ref 1558), some (.int x1), some (.ref 1557), none]) (st1 := []) (M1 := wl M1 1557 0 r.toInt64) (P := oA 4 1557 0 ∧ True) (pc1 := 9) [.i2l, .lastore] (Nat.le_of_ble_eq_true rfl) (by decide +kernel) rfl ⟨⟨Nat.le_of_ble_eq_true rfl, rfl, vpl (by decide)⟩, trivial⟩ rfl (R_goto (off := 6) (tgt := 15) (by decide +kernel) (by decide) (R_blk (lv1 := [some (.ref 1558), some (.int x1), some (.ref 1557), none]) (st1 := [.int 0]) (M1 := wl M1 1557 0 r.toInt64) (P := True) (pc1 := 16) [.iconst 0] (Nat.le_of_ble_eq_true rfl) (by decide +kernel) rfl trivial rfl (R_iret (by decide +kernel) rfl)))
theorem CW_longest {g : Gl} (x1 : Int32) (M : Mem) (hp : Q_longest x1 M) : MsW g 8 1 mL_longest hL_longest [.ref 1558, .int x1, .ref 1557] M (W_longest x1 M).1 (W_longest x1 M).2 := by
  have hX : MsX g 7 1 m11_longest [.ref 1558, .int x1] M (F_11_longest_0 x1 M) := C_11_longest x1 M hp.1
  have hs := hp.2
  rw [W_longest]
  generalize F_11_longest_0 x1 M = o1 at hX hs ⊢
  rcases hs with ⟨r, M1, rfl⟩ | ⟨hf, M1, rfl⟩ | ⟨hf, M1, rfl⟩
  · refine MsW.of okW_longest (Nat.le_of_ble_eq_true rfl) (newB_ok (by decide +kernel)) (R_cw (cx := 0 + 1) (by omega) (pre_longest hX (Nat.le_refl _) (fun w M2 h => ?_) (fun E M2 h => by cases h))) (Or.inl rfl)
    cases h
    exact post_longest
  · cases hf
  · exact MsW.of okW_longest (Nat.le_of_ble_eq_true rfl) (newB_ok (by decide +kernel)) (R_cw (cx := 0 + 1) (by omega) (pre_longest hX (Nat.le_refl _) (fun w M2 h => by cases h) (fun E M2 h => by cases h; rfl))) (Or.inr ⟨_, rfl, cat_longest_e⟩)
abbrev cL_lost : ByteArray := method_19_code
def yL_lost : MethodName := ⟨"LostMuseumLaw", "lost", "(LLostMuseum;I[J)I"⟩
def mL_lost : MD := (16, yL_lost, cL_lost, 4, some .int)
def hL_lost : HT := [(0, 9, 12, 13)]
theorem okW_lost : okW mL_lost hL_lost := ⟨by decide +kernel, rfl, (Nat.le_of_ble_eq_true rfl), inT6 (i := 0) rfl rfl, rfl⟩
theorem V16_65 : okV 16 65 1 m11_lost := ⟨Nat.le_of_ble_eq_true rfl, okM_m11_lost, ⟨by decide +kernel, by decide +kernel, by decide +kernel⟩, inT6 (i := 1) rfl rfl, inT1 (i := 1) rfl rfl, inT6 (i := 2) rfl rfl, inT6 (i := 3) rfl rfl⟩
theorem cat_lost_e : catOK mL_lost hL_lost "java/lang/IllegalArgumentException" 1 := ⟨[], (0, 9, 12, 13), [], 3, 13, rfl, Or.inl rfl, by decide, w_lnkI, by decide +kernel, (Nat.le_of_ble_eq_true rfl), covB_ok (by decide +kernel), Or.inr ⟨3, by decide +kernel, rfl, rfl⟩, by decide +kernel, by decide +kernel⟩
def W_lost (x1 : Int32) (M : Mem) : Int32 × Mem := wOutI 0 1 (F_11_lost_0 x1 M)
def Q_lost (x1 : Int32) (M : Mem) : Prop := (P_11_lost_0 x1 M) ∧ okI false true (F_11_lost_0 x1 M)
theorem pre_lost {g : Gl} {k c1 : Nat} {o o1 : Oc} {M : Mem} {x1 : Int32} {d : Nat} (hX : MsX g d c1 m11_lost [.ref 1558, .int x1] M o1) (hk : d + 1 ≤ k) (hr : ∀ w M1, o1 = .inl (w, M1) → Rc g k 0 mL_lost 7 [some (.ref 1558), some (.int x1), some (.ref 1557), none] (w.toList ++ [.int 0, .ref 1557]) M1 o) (ht : ∀ E M1, o1 = .inr (E, M1) → o = .inr (E, M1)) : Rc g k (0 + c1) mL_lost 0 [some (.ref 1558), some (.int x1), some (.ref 1557), none] [] M o :=
  R_blk (lv1 := [some (.ref 1558), some (.int x1), some (.ref 1557), none]) (st1 := [.int x1, .ref 1558, .int 0, .ref 1557]) (M1 := M) (P := True) (pc1 := 4) [.aload_n 2, .iconst 0, .aload_n 0, .iload_n 1] (Nat.le_of_ble_eq_true rfl) (by decide +kernel) rfl trivial rfl (R_callX (As := [.int x1]) (rest := [.int 0, .ref 1557]) (by decide +kernel) V16_65 hX hk ⟨Nat.le_of_ble_eq_true rfl, rfl⟩ rfl rfl (Nat.le_of_ble_eq_true rfl) hr ht)
theorem post_lost {g : Gl} {k : Nat} {M1 : Mem} {x1 : Int32} {r : Int32} : Rc g k 0 mL_lost 7 [some (.ref 1558), some (.int x1), some (.ref 1557), none] [.int r, .int 0, .ref 1557] M1 (.inl (some (.int 0), wl M1 1557 0 r.toInt64)) :=
  R_blk (lv1 := [some (.ref 1558), some (.int x1), some (.ref 1557), none]) (st1 := []) (M1 := wl M1 1557 0 r.toInt64) (P := oA 4 1557 0 ∧ True) (pc1 := 9) [.i2l, .lastore] (Nat.le_of_ble_eq_true rfl) (by decide +kernel) rfl ⟨⟨Nat.le_of_ble_eq_true rfl, rfl, vpl (by decide)⟩, trivial⟩ rfl (R_goto (off := 6) (tgt := 15) (by decide +kernel) (by decide) (R_blk (lv1 := [some (.ref 1558), some (.int x1), some (.ref 1557), none]) (st1 := [.int 0]) (M1 := wl M1 1557 0 r.toInt64) (P := True) (pc1 := 16) [.iconst 0] (Nat.le_of_ble_eq_true rfl) (by decide +kernel) rfl trivial rfl (R_iret (by decide +kernel) rfl)))
theorem CW_lost {g : Gl} (x1 : Int32) (M : Mem) (hp : Q_lost x1 M) : MsW g 8 1 mL_lost hL_lost [.ref 1558, .int x1, .ref 1557] M (W_lost x1 M).1 (W_lost x1 M).2 := by
  have hX : MsX g 7 1 m11_lost [.ref 1558, .int x1] M (F_11_lost_0 x1 M) := C_11_lost x1 M hp.1
  have hs := hp.2
  rw [W_lost]
  generalize F_11_lost_0 x1 M = o1 at hX hs ⊢
  rcases hs with ⟨r, M1, rfl⟩ | ⟨hf, M1, rfl⟩ | ⟨hf, M1, rfl⟩
  · refine MsW.of okW_lost (Nat.le_of_ble_eq_true rfl) (newB_ok (by decide +kernel)) (R_cw (cx := 0 + 1) (by omega) (pre_lost hX (Nat.le_refl _) (fun w M2 h => ?_) (fun E M2 h => by cases h))) (Or.inl rfl)
    cases h
    exact post_lost
  · cases hf
  · exact MsW.of okW_lost (Nat.le_of_ble_eq_true rfl) (newB_ok (by decide +kernel)) (R_cw (cx := 0 + 1) (by omega) (pre_lost hX (Nat.le_refl _) (fun w M2 h => by cases h) (fun E M2 h => by cases h; rfl))) (Or.inr ⟨_, rfl, cat_lost_e⟩)
abbrev cL_wing : ByteArray := method_20_code
def yL_wing : MethodName := ⟨"LostMuseumLaw", "wing", "(LLostMuseum;I[J)I"⟩
def mL_wing : MD := (16, yL_wing, cL_wing, 4, some .int)
def hL_wing : HT := [(0, 9, 12, 31)]
theorem okW_wing : okW mL_wing hL_wing := ⟨by decide +kernel, rfl, (Nat.le_of_ble_eq_true rfl), inT6 (i := 10) rfl rfl, rfl⟩
theorem V16_68 : okV 16 68 1 m11_wing := ⟨Nat.le_of_ble_eq_true rfl, okM_m11_wing, ⟨by decide +kernel, by decide +kernel, by decide +kernel⟩, inT6 (i := 11) rfl rfl, inT1 (i := 1) rfl rfl, inT6 (i := 12) rfl rfl, inT6 (i := 13) rfl rfl⟩
theorem cat_wing_n : catOK mL_wing hL_wing "java/util/NoSuchElementException" 1 := ⟨[], (0, 9, 12, 31), [], 3, 13, rfl, Or.inl rfl, by decide, w_lnkN, by decide +kernel, (Nat.le_of_ble_eq_true rfl), covB_ok (by decide +kernel), Or.inr ⟨3, by decide +kernel, rfl, rfl⟩, by decide +kernel, by decide +kernel⟩
def W_wing (x1 : Int32) (M : Mem) : Int32 × Mem := wOutI 1 0 (F_11_wing_0 x1 M)
def Q_wing (x1 : Int32) (M : Mem) : Prop := (P_11_wing_0 x1 M) ∧ okI true false (F_11_wing_0 x1 M)
theorem pre_wing {g : Gl} {k c1 : Nat} {o o1 : Oc} {M : Mem} {x1 : Int32} {d : Nat} (hX : MsX g d c1 m11_wing [.ref 1558, .int x1] M o1) (hk : d + 1 ≤ k) (hr : ∀ w M1, o1 = .inl (w, M1) → Rc g k 0 mL_wing 7 [some (.ref 1558), some (.int x1), some (.ref 1557), none] (w.toList ++ [.int 0, .ref 1557]) M1 o) (ht : ∀ E M1, o1 = .inr (E, M1) → o = .inr (E, M1)) : Rc g k (0 + c1) mL_wing 0 [some (.ref 1558), some (.int x1), some (.ref 1557), none] [] M o :=
  R_blk (lv1 := [some (.ref 1558), some (.int x1), some (.ref 1557), none]) (st1 := [.int x1, .ref 1558, .int 0, .ref 1557]) (M1 := M) (P := True) (pc1 := 4) [.aload_n 2, .iconst 0, .aload_n 0, .iload_n 1] (Nat.le_of_ble_eq_true rfl) (by decide +kernel) rfl trivial rfl (R_callX (As := [.int x1]) (rest := [.int 0, .ref 1557]) (by decide +kernel) V16_68 hX hk ⟨Nat.le_of_ble_eq_true rfl, rfl⟩ rfl rfl (Nat.le_of_ble_eq_true rfl) hr ht)
theorem post_wing {g : Gl} {k : Nat} {M1 : Mem} {x1 : Int32} {r : Int32} : Rc g k 0 mL_wing 7 [some (.ref 1558), some (.int x1), some (.ref 1557), none] [.int r, .int 0, .ref 1557] M1 (.inl (some (.int 0), wl M1 1557 0 r.toInt64)) :=
  R_blk (lv1 := [some (.ref 1558), some (.int x1), some (.ref 1557), none]) (st1 := []) (M1 := wl M1 1557 0 r.toInt64) (P := oA 4 1557 0 ∧ True) (pc1 := 9) [.i2l, .lastore] (Nat.le_of_ble_eq_true rfl) (by decide +kernel) rfl ⟨⟨Nat.le_of_ble_eq_true rfl, rfl, vpl (by decide)⟩, trivial⟩ rfl (R_goto (off := 6) (tgt := 15) (by decide +kernel) (by decide) (R_blk (lv1 := [some (.ref 1558), some (.int x1), some (.ref 1557), none]) (st1 := [.int 0]) (M1 := wl M1 1557 0 r.toInt64) (P := True) (pc1 := 16) [.iconst 0] (Nat.le_of_ble_eq_true rfl) (by decide +kernel) rfl trivial rfl (R_iret (by decide +kernel) rfl)))
theorem CW_wing {g : Gl} (x1 : Int32) (M : Mem) (hp : Q_wing x1 M) : MsW g 8 1 mL_wing hL_wing [.ref 1558, .int x1, .ref 1557] M (W_wing x1 M).1 (W_wing x1 M).2 := by
  have hX : MsX g 7 1 m11_wing [.ref 1558, .int x1] M (F_11_wing_0 x1 M) := C_11_wing x1 M hp.1
  have hs := hp.2
  rw [W_wing]
  generalize F_11_wing_0 x1 M = o1 at hX hs ⊢
  rcases hs with ⟨r, M1, rfl⟩ | ⟨hf, M1, rfl⟩ | ⟨hf, M1, rfl⟩
  · refine MsW.of okW_wing (Nat.le_of_ble_eq_true rfl) (newB_ok (by decide +kernel)) (R_cw (cx := 0 + 1) (by omega) (pre_wing hX (Nat.le_refl _) (fun w M2 h => ?_) (fun E M2 h => by cases h))) (Or.inl rfl)
    cases h
    exact post_wing
  · exact MsW.of okW_wing (Nat.le_of_ble_eq_true rfl) (newB_ok (by decide +kernel)) (R_cw (cx := 0 + 1) (by omega) (pre_wing hX (Nat.le_refl _) (fun w M2 h => by cases h) (fun E M2 h => by cases h; rfl))) (Or.inr ⟨_, rfl, cat_wing_n⟩)
  · cases hf
abbrev cL_round : ByteArray := method_21_code
def yL_round : MethodName := ⟨"LostMuseumLaw", "round", "(LLostMuseum;I[J)I"⟩
def mL_round : MD := (16, yL_round, cL_round, 4, some .int)
def hL_round : HT := [(0, 9, 12, 31)]
theorem okW_round : okW mL_round hL_round := ⟨by decide +kernel, rfl, (Nat.le_of_ble_eq_true rfl), inT6 (i := 18) rfl rfl, rfl⟩
theorem V16_71 : okV 16 71 1 m11_round := ⟨Nat.le_of_ble_eq_true rfl, okM_m11_round, ⟨by decide +kernel, by decide +kernel, by decide +kernel⟩, inT6 (i := 19) rfl rfl, inT1 (i := 1) rfl rfl, inT6 (i := 20) rfl rfl, inT6 (i := 21) rfl rfl⟩
theorem cat_round_n : catOK mL_round hL_round "java/util/NoSuchElementException" 1 := ⟨[], (0, 9, 12, 31), [], 3, 13, rfl, Or.inl rfl, by decide, w_lnkN, by decide +kernel, (Nat.le_of_ble_eq_true rfl), covB_ok (by decide +kernel), Or.inr ⟨3, by decide +kernel, rfl, rfl⟩, by decide +kernel, by decide +kernel⟩
def W_round (x1 : Int32) (M : Mem) : Int32 × Mem := wOutI 1 0 (F_11_round_0 x1 M)
def Q_round (x1 : Int32) (M : Mem) : Prop := (P_11_round_0 x1 M) ∧ okI true false (F_11_round_0 x1 M)
theorem pre_round {g : Gl} {k c1 : Nat} {o o1 : Oc} {M : Mem} {x1 : Int32} {d : Nat} (hX : MsX g d c1 m11_round [.ref 1558, .int x1] M o1) (hk : d + 1 ≤ k) (hr : ∀ w M1, o1 = .inl (w, M1) → Rc g k 0 mL_round 7 [some (.ref 1558), some (.int x1), some (.ref 1557), none] (w.toList ++ [.int 0, .ref 1557]) M1 o) (ht : ∀ E M1, o1 = .inr (E, M1) → o = .inr (E, M1)) : Rc g k (0 + c1) mL_round 0 [some (.ref 1558), some (.int x1), some (.ref 1557), none] [] M o :=
  R_blk (lv1 := [some (.ref 1558), some (.int x1), some (.ref 1557), none]) (st1 := [.int x1, .ref 1558, .int 0, .ref 1557]) (M1 := M) (P := True) (pc1 := 4) [.aload_n 2, .iconst 0, .aload_n 0, .iload_n 1] (Nat.le_of_ble_eq_true rfl) (by decide +kernel) rfl trivial rfl (R_callX (As := [.int x1]) (rest := [.int 0, .ref 1557]) (by decide +kernel) V16_71 hX hk ⟨Nat.le_of_ble_eq_true rfl, rfl⟩ rfl rfl (Nat.le_of_ble_eq_true rfl) hr ht)
theorem post_round {g : Gl} {k : Nat} {M1 : Mem} {x1 : Int32} {r : Int32} : Rc g k 0 mL_round 7 [some (.ref 1558), some (.int x1), some (.ref 1557), none] [.int r, .int 0, .ref 1557] M1 (.inl (some (.int 0), wl M1 1557 0 r.toInt64)) :=
  R_blk (lv1 := [some (.ref 1558), some (.int x1), some (.ref 1557), none]) (st1 := []) (M1 := wl M1 1557 0 r.toInt64) (P := oA 4 1557 0 ∧ True) (pc1 := 9) [.i2l, .lastore] (Nat.le_of_ble_eq_true rfl) (by decide +kernel) rfl ⟨⟨Nat.le_of_ble_eq_true rfl, rfl, vpl (by decide)⟩, trivial⟩ rfl (R_goto (off := 6) (tgt := 15) (by decide +kernel) (by decide) (R_blk (lv1 := [some (.ref 1558), some (.int x1), some (.ref 1557), none]) (st1 := [.int 0]) (M1 := wl M1 1557 0 r.toInt64) (P := True) (pc1 := 16) [.iconst 0] (Nat.le_of_ble_eq_true rfl) (by decide +kernel) rfl trivial rfl (R_iret (by decide +kernel) rfl)))
theorem CW_round {g : Gl} (x1 : Int32) (M : Mem) (hp : Q_round x1 M) : MsW g 8 1 mL_round hL_round [.ref 1558, .int x1, .ref 1557] M (W_round x1 M).1 (W_round x1 M).2 := by
  have hX : MsX g 7 1 m11_round [.ref 1558, .int x1] M (F_11_round_0 x1 M) := C_11_round x1 M hp.1
  have hs := hp.2
  rw [W_round]
  generalize F_11_round_0 x1 M = o1 at hX hs ⊢
  rcases hs with ⟨r, M1, rfl⟩ | ⟨hf, M1, rfl⟩ | ⟨hf, M1, rfl⟩
  · refine MsW.of okW_round (Nat.le_of_ble_eq_true rfl) (newB_ok (by decide +kernel)) (R_cw (cx := 0 + 1) (by omega) (pre_round hX (Nat.le_refl _) (fun w M2 h => ?_) (fun E M2 h => by cases h))) (Or.inl rfl)
    cases h
    exact post_round
  · exact MsW.of okW_round (Nat.le_of_ble_eq_true rfl) (newB_ok (by decide +kernel)) (R_cw (cx := 0 + 1) (by omega) (pre_round hX (Nat.le_refl _) (fun w M2 h => by cases h) (fun E M2 h => by cases h; rfl))) (Or.inr ⟨_, rfl, cat_round_n⟩)
  · cases hf
abbrev cL_last : ByteArray := method_22_code
def yL_last : MethodName := ⟨"LostMuseumLaw", "last", "(LLostMuseum;I[J)I"⟩
def mL_last : MD := (16, yL_last, cL_last, 4, some .int)
def hL_last : HT := [(0, 9, 12, 31)]
theorem okW_last : okW mL_last hL_last := ⟨by decide +kernel, rfl, (Nat.le_of_ble_eq_true rfl), inT6 (i := 38) rfl rfl, rfl⟩
theorem V16_74 : okV 16 74 1 m11_last := ⟨Nat.le_of_ble_eq_true rfl, okM_m11_last, ⟨by decide +kernel, by decide +kernel, by decide +kernel⟩, inT6 (i := 39) rfl rfl, inT1 (i := 1) rfl rfl, inT6 (i := 40) rfl rfl, inT6 (i := 41) rfl rfl⟩
theorem cat_last_n : catOK mL_last hL_last "java/util/NoSuchElementException" 1 := ⟨[], (0, 9, 12, 31), [], 3, 13, rfl, Or.inl rfl, by decide, w_lnkN, by decide +kernel, (Nat.le_of_ble_eq_true rfl), covB_ok (by decide +kernel), Or.inr ⟨3, by decide +kernel, rfl, rfl⟩, by decide +kernel, by decide +kernel⟩
def W_last (x1 : Int32) (M : Mem) : Int32 × Mem := wOutI 1 0 (F_11_last_0 x1 M)
def Q_last (x1 : Int32) (M : Mem) : Prop := (P_11_last_0 x1 M) ∧ okI true false (F_11_last_0 x1 M)
theorem pre_last {g : Gl} {k c1 : Nat} {o o1 : Oc} {M : Mem} {x1 : Int32} {d : Nat} (hX : MsX g d c1 m11_last [.ref 1558, .int x1] M o1) (hk : d + 1 ≤ k) (hr : ∀ w M1, o1 = .inl (w, M1) → Rc g k 0 mL_last 7 [some (.ref 1558), some (.int x1), some (.ref 1557), none] (w.toList ++ [.int 0, .ref 1557]) M1 o) (ht : ∀ E M1, o1 = .inr (E, M1) → o = .inr (E, M1)) : Rc g k (0 + c1) mL_last 0 [some (.ref 1558), some (.int x1), some (.ref 1557), none] [] M o :=
  R_blk (lv1 := [some (.ref 1558), some (.int x1), some (.ref 1557), none]) (st1 := [.int x1, .ref 1558, .int 0, .ref 1557]) (M1 := M) (P := True) (pc1 := 4) [.aload_n 2, .iconst 0, .aload_n 0, .iload_n 1] (Nat.le_of_ble_eq_true rfl) (by decide +kernel) rfl trivial rfl (R_callX (As := [.int x1]) (rest := [.int 0, .ref 1557]) (by decide +kernel) V16_74 hX hk ⟨Nat.le_of_ble_eq_true rfl, rfl⟩ rfl rfl (Nat.le_of_ble_eq_true rfl) hr ht)
theorem post_last {g : Gl} {k : Nat} {M1 : Mem} {x1 : Int32} {r : Int32} : Rc g k 0 mL_last 7 [some (.ref 1558), some (.int x1), some (.ref 1557), none] [.int r, .int 0, .ref 1557] M1 (.inl (some (.int 0), wl M1 1557 0 r.toInt64)) :=
  R_blk (lv1 := [some (.ref 1558), some (.int x1), some (.ref 1557), none]) (st1 := []) (M1 := wl M1 1557 0 r.toInt64) (P := oA 4 1557 0 ∧ True) (pc1 := 9) [.i2l, .lastore] (Nat.le_of_ble_eq_true rfl) (by decide +kernel) rfl ⟨⟨Nat.le_of_ble_eq_true rfl, rfl, vpl (by decide)⟩, trivial⟩ rfl (R_goto (off := 6) (tgt := 15) (by decide +kernel) (by decide) (R_blk (lv1 := [some (.ref 1558), some (.int x1), some (.ref 1557), none]) (st1 := [.int 0]) (M1 := wl M1 1557 0 r.toInt64) (P := True) (pc1 := 16) [.iconst 0] (Nat.le_of_ble_eq_true rfl) (by decide +kernel) rfl trivial rfl (R_iret (by decide +kernel) rfl)))
theorem CW_last {g : Gl} (x1 : Int32) (M : Mem) (hp : Q_last x1 M) : MsW g 8 1 mL_last hL_last [.ref 1558, .int x1, .ref 1557] M (W_last x1 M).1 (W_last x1 M).2 := by
  have hX : MsX g 7 1 m11_last [.ref 1558, .int x1] M (F_11_last_0 x1 M) := C_11_last x1 M hp.1
  have hs := hp.2
  rw [W_last]
  generalize F_11_last_0 x1 M = o1 at hX hs ⊢
  rcases hs with ⟨r, M1, rfl⟩ | ⟨hf, M1, rfl⟩ | ⟨hf, M1, rfl⟩
  · refine MsW.of okW_last (Nat.le_of_ble_eq_true rfl) (newB_ok (by decide +kernel)) (R_cw (cx := 0 + 1) (by omega) (pre_last hX (Nat.le_refl _) (fun w M2 h => ?_) (fun E M2 h => by cases h))) (Or.inl rfl)
    cases h
    exact post_last
  · exact MsW.of okW_last (Nat.le_of_ble_eq_true rfl) (newB_ok (by decide +kernel)) (R_cw (cx := 0 + 1) (by omega) (pre_last hX (Nat.le_refl _) (fun w M2 h => by cases h) (fun E M2 h => by cases h; rfl))) (Or.inr ⟨_, rfl, cat_last_n⟩)
  · cases hf
abbrev cL_meet : ByteArray := method_23_code
def yL_meet : MethodName := ⟨"LostMuseumLaw", "meet", "(LLostMuseum;III[J)I"⟩
def mL_meet : MD := (16, yL_meet, cL_meet, 6, some .int)
def hL_meet : HT := [(0, 12, 15, 31), (0, 12, 19, 13)]
theorem okW_meet : okW mL_meet hL_meet := ⟨by decide +kernel, rfl, (Nat.le_of_ble_eq_true rfl), inT6 (i := 45) rfl rfl, rfl⟩
theorem V16_77 : okV 16 77 3 m11_meet := ⟨Nat.le_of_ble_eq_true rfl, okM_m11_meet, ⟨by decide +kernel, by decide +kernel, by decide +kernel⟩, inT6 (i := 46) rfl rfl, inT1 (i := 1) rfl rfl, inT6 (i := 47) rfl rfl, inT6 (i := 48) rfl rfl⟩
theorem cat_meet_n : catOK mL_meet hL_meet "java/util/NoSuchElementException" 1 := ⟨[], (0, 12, 15, 31), [(0, 12, 19, 13)], 5, 17, rfl, Or.inl rfl, by decide, w_lnkN, by decide +kernel, (Nat.le_of_ble_eq_true rfl), covB_ok (by decide +kernel), Or.inl ⟨by decide +kernel, rfl⟩, by decide +kernel, by decide +kernel⟩
theorem cat_meet_e : catOK mL_meet hL_meet "java/lang/IllegalArgumentException" 2 := ⟨[(0, 12, 15, 31)], (0, 12, 19, 13), [], 5, 21, rfl, Or.inr ⟨rfl, fun z hz => by cases List.mem_singleton.mp hz; exact ⟨by decide, w_lnkN⟩⟩, by decide, w_lnkI, by decide +kernel, (Nat.le_of_ble_eq_true rfl), covB_ok (by decide +kernel), Or.inl ⟨by decide +kernel, rfl⟩, by decide +kernel, by decide +kernel⟩
def W_meet (x1 : Int32) (x2 : Int32) (x3 : Int32) (M : Mem) : Int32 × Mem := wOutI 1 2 (F_11_meet_0 x1 x2 x3 M)
def Q_meet (x1 : Int32) (x2 : Int32) (x3 : Int32) (M : Mem) : Prop := (P_11_meet_0 x1 x2 x3 M) ∧ okI true true (F_11_meet_0 x1 x2 x3 M)
theorem pre_meet {g : Gl} {k c1 : Nat} {o o1 : Oc} {M : Mem} {x1 x2 x3 : Int32} {d : Nat} (hX : MsX g d c1 m11_meet [.ref 1558, .int x1, .int x2, .int x3] M o1) (hk : d + 1 ≤ k) (hr : ∀ w M1, o1 = .inl (w, M1) → Rc g k 0 mL_meet 10 [some (.ref 1558), some (.int x1), some (.int x2), some (.int x3), some (.ref 1557), none] (w.toList ++ [.int 0, .ref 1557]) M1 o) (ht : ∀ E M1, o1 = .inr (E, M1) → o = .inr (E, M1)) : Rc g k (0 + c1) mL_meet 0 [some (.ref 1558), some (.int x1), some (.int x2), some (.int x3), some (.ref 1557), none] [] M o :=
  R_blk (lv1 := [some (.ref 1558), some (.int x1), some (.int x2), some (.int x3), some (.ref 1557), none]) (st1 := [.int x3, .int x2, .int x1, .ref 1558, .int 0, .ref 1557]) (M1 := M) (P := True) (pc1 := 7) [.aload 4, .iconst 0, .aload_n 0, .iload_n 1, .iload_n 2, .iload_n 3] (Nat.le_of_ble_eq_true rfl) (by decide +kernel) rfl trivial rfl (R_callX (As := [.int x1, .int x2, .int x3]) (rest := [.int 0, .ref 1557]) (by decide +kernel) V16_77 hX hk ⟨Nat.le_of_ble_eq_true rfl, rfl⟩ rfl rfl (Nat.le_of_ble_eq_true rfl) hr ht)
theorem post_meet {g : Gl} {k : Nat} {M1 : Mem} {x1 x2 x3 : Int32} {r : Int32} : Rc g k 0 mL_meet 10 [some (.ref 1558), some (.int x1), some (.int x2), some (.int x3), some (.ref 1557), none] [.int r, .int 0, .ref 1557] M1 (.inl (some (.int 0), wl M1 1557 0 r.toInt64)) :=
  R_blk (lv1 := [some (.ref 1558), some (.int x1), some (.int x2), some (.int x3), some (.ref 1557), none]) (st1 := []) (M1 := wl M1 1557 0 r.toInt64) (P := oA 4 1557 0 ∧ True) (pc1 := 12) [.i2l, .lastore] (Nat.le_of_ble_eq_true rfl) (by decide +kernel) rfl ⟨⟨Nat.le_of_ble_eq_true rfl, rfl, vpl (by decide)⟩, trivial⟩ rfl (R_goto (off := 11) (tgt := 23) (by decide +kernel) (by decide) (R_blk (lv1 := [some (.ref 1558), some (.int x1), some (.int x2), some (.int x3), some (.ref 1557), none]) (st1 := [.int 0]) (M1 := wl M1 1557 0 r.toInt64) (P := True) (pc1 := 24) [.iconst 0] (Nat.le_of_ble_eq_true rfl) (by decide +kernel) rfl trivial rfl (R_iret (by decide +kernel) rfl)))
theorem CW_meet {g : Gl} (x1 : Int32) (x2 : Int32) (x3 : Int32) (M : Mem) (hp : Q_meet x1 x2 x3 M) : MsW g 8 3 mL_meet hL_meet [.ref 1558, .int x1, .int x2, .int x3, .ref 1557] M (W_meet x1 x2 x3 M).1 (W_meet x1 x2 x3 M).2 := by
  have hX : MsX g 7 3 m11_meet [.ref 1558, .int x1, .int x2, .int x3] M (F_11_meet_0 x1 x2 x3 M) := C_11_meet x1 x2 x3 M hp.1
  have hs := hp.2
  rw [W_meet]
  generalize F_11_meet_0 x1 x2 x3 M = o1 at hX hs ⊢
  rcases hs with ⟨r, M1, rfl⟩ | ⟨hf, M1, rfl⟩ | ⟨hf, M1, rfl⟩
  · refine MsW.of okW_meet (Nat.le_of_ble_eq_true rfl) (newB_ok (by decide +kernel)) (R_cw (cx := 0 + 3) (by omega) (pre_meet hX (Nat.le_refl _) (fun w M2 h => ?_) (fun E M2 h => by cases h))) (Or.inl rfl)
    cases h
    exact post_meet
  · exact MsW.of okW_meet (Nat.le_of_ble_eq_true rfl) (newB_ok (by decide +kernel)) (R_cw (cx := 0 + 3) (by omega) (pre_meet hX (Nat.le_refl _) (fun w M2 h => by cases h) (fun E M2 h => by cases h; rfl))) (Or.inr ⟨_, rfl, cat_meet_n⟩)
  · exact MsW.of okW_meet (Nat.le_of_ble_eq_true rfl) (newB_ok (by decide +kernel)) (R_cw (cx := 0 + 3) (by omega) (pre_meet hX (Nat.le_refl _) (fun w M2 h => by cases h) (fun E M2 h => by cases h; rfl))) (Or.inr ⟨_, rfl, cat_meet_e⟩)
abbrev cL_parted : ByteArray := method_24_code
def yL_parted : MethodName := ⟨"LostMuseumLaw", "parted", "(LLostMuseum;III[J)I"⟩
def mL_parted : MD := (16, yL_parted, cL_parted, 6, some .int)
def hL_parted : HT := [(0, 12, 15, 31), (0, 12, 19, 13)]
theorem okW_parted : okW mL_parted hL_parted := ⟨by decide +kernel, rfl, (Nat.le_of_ble_eq_true rfl), inT6 (i := 56) rfl rfl, rfl⟩
theorem V16_81 : okV 16 81 3 m11_parted := ⟨Nat.le_of_ble_eq_true rfl, okM_m11_parted, ⟨by decide +kernel, by decide +kernel, by decide +kernel⟩, inT6 (i := 57) rfl rfl, inT1 (i := 1) rfl rfl, inT6 (i := 58) rfl rfl, inT6 (i := 59) rfl rfl⟩
theorem cat_parted_n : catOK mL_parted hL_parted "java/util/NoSuchElementException" 1 := ⟨[], (0, 12, 15, 31), [(0, 12, 19, 13)], 5, 17, rfl, Or.inl rfl, by decide, w_lnkN, by decide +kernel, (Nat.le_of_ble_eq_true rfl), covB_ok (by decide +kernel), Or.inl ⟨by decide +kernel, rfl⟩, by decide +kernel, by decide +kernel⟩
theorem cat_parted_e : catOK mL_parted hL_parted "java/lang/IllegalArgumentException" 2 := ⟨[(0, 12, 15, 31)], (0, 12, 19, 13), [], 5, 21, rfl, Or.inr ⟨rfl, fun z hz => by cases List.mem_singleton.mp hz; exact ⟨by decide, w_lnkN⟩⟩, by decide, w_lnkI, by decide +kernel, (Nat.le_of_ble_eq_true rfl), covB_ok (by decide +kernel), Or.inl ⟨by decide +kernel, rfl⟩, by decide +kernel, by decide +kernel⟩
def W_parted (x1 : Int32) (x2 : Int32) (x3 : Int32) (M : Mem) : Int32 × Mem := wOutI 1 2 (F_11_parted_0 x1 x2 x3 M)
def Q_parted (x1 : Int32) (x2 : Int32) (x3 : Int32) (M : Mem) : Prop := (P_11_parted_0 x1 x2 x3 M) ∧ okI true true (F_11_parted_0 x1 x2 x3 M)
theorem pre_parted {g : Gl} {k c1 : Nat} {o o1 : Oc} {M : Mem} {x1 x2 x3 : Int32} {d : Nat} (hX : MsX g d c1 m11_parted [.ref 1558, .int x1, .int x2, .int x3] M o1) (hk : d + 1 ≤ k) (hr : ∀ w M1, o1 = .inl (w, M1) → Rc g k 0 mL_parted 10 [some (.ref 1558), some (.int x1), some (.int x2), some (.int x3), some (.ref 1557), none] (w.toList ++ [.int 0, .ref 1557]) M1 o) (ht : ∀ E M1, o1 = .inr (E, M1) → o = .inr (E, M1)) : Rc g k (0 + c1) mL_parted 0 [some (.ref 1558), some (.int x1), some (.int x2), some (.int x3), some (.ref 1557), none] [] M o :=
  R_blk (lv1 := [some (.ref 1558), some (.int x1), some (.int x2), some (.int x3), some (.ref 1557), none]) (st1 := [.int x3, .int x2, .int x1, .ref 1558, .int 0, .ref 1557]) (M1 := M) (P := True) (pc1 := 7) [.aload 4, .iconst 0, .aload_n 0, .iload_n 1, .iload_n 2, .iload_n 3] (Nat.le_of_ble_eq_true rfl) (by decide +kernel) rfl trivial rfl (R_callX (As := [.int x1, .int x2, .int x3]) (rest := [.int 0, .ref 1557]) (by decide +kernel) V16_81 hX hk ⟨Nat.le_of_ble_eq_true rfl, rfl⟩ rfl rfl (Nat.le_of_ble_eq_true rfl) hr ht)
theorem post_parted {g : Gl} {k : Nat} {M1 : Mem} {x1 x2 x3 : Int32} {r : Int32} : Rc g k 0 mL_parted 10 [some (.ref 1558), some (.int x1), some (.int x2), some (.int x3), some (.ref 1557), none] [.int r, .int 0, .ref 1557] M1 (.inl (some (.int 0), wl M1 1557 0 r.toInt64)) :=
  R_blk (lv1 := [some (.ref 1558), some (.int x1), some (.int x2), some (.int x3), some (.ref 1557), none]) (st1 := []) (M1 := wl M1 1557 0 r.toInt64) (P := oA 4 1557 0 ∧ True) (pc1 := 12) [.i2l, .lastore] (Nat.le_of_ble_eq_true rfl) (by decide +kernel) rfl ⟨⟨Nat.le_of_ble_eq_true rfl, rfl, vpl (by decide)⟩, trivial⟩ rfl (R_goto (off := 11) (tgt := 23) (by decide +kernel) (by decide) (R_blk (lv1 := [some (.ref 1558), some (.int x1), some (.int x2), some (.int x3), some (.ref 1557), none]) (st1 := [.int 0]) (M1 := wl M1 1557 0 r.toInt64) (P := True) (pc1 := 24) [.iconst 0] (Nat.le_of_ble_eq_true rfl) (by decide +kernel) rfl trivial rfl (R_iret (by decide +kernel) rfl)))
theorem CW_parted {g : Gl} (x1 : Int32) (x2 : Int32) (x3 : Int32) (M : Mem) (hp : Q_parted x1 x2 x3 M) : MsW g 8 3 mL_parted hL_parted [.ref 1558, .int x1, .int x2, .int x3, .ref 1557] M (W_parted x1 x2 x3 M).1 (W_parted x1 x2 x3 M).2 := by
  have hX : MsX g 7 3 m11_parted [.ref 1558, .int x1, .int x2, .int x3] M (F_11_parted_0 x1 x2 x3 M) := C_11_parted x1 x2 x3 M hp.1
  have hs := hp.2
  rw [W_parted]
  generalize F_11_parted_0 x1 x2 x3 M = o1 at hX hs ⊢
  rcases hs with ⟨r, M1, rfl⟩ | ⟨hf, M1, rfl⟩ | ⟨hf, M1, rfl⟩
  · refine MsW.of okW_parted (Nat.le_of_ble_eq_true rfl) (newB_ok (by decide +kernel)) (R_cw (cx := 0 + 3) (by omega) (pre_parted hX (Nat.le_refl _) (fun w M2 h => ?_) (fun E M2 h => by cases h))) (Or.inl rfl)
    cases h
    exact post_parted
  · exact MsW.of okW_parted (Nat.le_of_ble_eq_true rfl) (newB_ok (by decide +kernel)) (R_cw (cx := 0 + 3) (by omega) (pre_parted hX (Nat.le_refl _) (fun w M2 h => by cases h) (fun E M2 h => by cases h; rfl))) (Or.inr ⟨_, rfl, cat_parted_n⟩)
  · exact MsW.of okW_parted (Nat.le_of_ble_eq_true rfl) (newB_ok (by decide +kernel)) (R_cw (cx := 0 + 3) (by omega) (pre_parted hX (Nat.le_refl _) (fun w M2 h => by cases h) (fun E M2 h => by cases h; rfl))) (Or.inr ⟨_, rfl, cat_parted_e⟩)
abbrev cL_quiet : ByteArray := method_25_code
def yL_quiet : MethodName := ⟨"LostMuseumLaw", "quiet", "(LLostMuseum;III[J)I"⟩
def mL_quiet : MD := (16, yL_quiet, cL_quiet, 6, some .int)
def hL_quiet : HT := [(0, 11, 14, 31), (0, 11, 18, 13)]
theorem okW_quiet : okW mL_quiet hL_quiet := ⟨by decide +kernel, rfl, (Nat.le_of_ble_eq_true rfl), inT6 (i := 91) rfl rfl, rfl⟩
theorem V16_84 : okV 16 84 3 m11_quiet := ⟨Nat.le_of_ble_eq_true rfl, okM_m11_quiet, ⟨by decide +kernel, by decide +kernel, by decide +kernel⟩, inT6 (i := 92) rfl rfl, inT1 (i := 1) rfl rfl, inT6 (i := 93) rfl rfl, inT6 (i := 94) rfl rfl⟩
theorem cat_quiet_n : catOK mL_quiet hL_quiet "java/util/NoSuchElementException" 1 := ⟨[], (0, 11, 14, 31), [(0, 11, 18, 13)], 5, 16, rfl, Or.inl rfl, by decide, w_lnkN, by decide +kernel, (Nat.le_of_ble_eq_true rfl), covB_ok (by decide +kernel), Or.inl ⟨by decide +kernel, rfl⟩, by decide +kernel, by decide +kernel⟩
theorem cat_quiet_e : catOK mL_quiet hL_quiet "java/lang/IllegalArgumentException" 2 := ⟨[(0, 11, 14, 31)], (0, 11, 18, 13), [], 5, 20, rfl, Or.inr ⟨rfl, fun z hz => by cases List.mem_singleton.mp hz; exact ⟨by decide, w_lnkN⟩⟩, by decide, w_lnkI, by decide +kernel, (Nat.le_of_ble_eq_true rfl), covB_ok (by decide +kernel), Or.inl ⟨by decide +kernel, rfl⟩, by decide +kernel, by decide +kernel⟩
def W_quiet (x1 : Int32) (x2 : Int32) (x3 : Int32) (M : Mem) : Int32 × Mem := wOutL 1 2 (F_11_quiet_0 x1 x2 x3 M)
def Q_quiet (x1 : Int32) (x2 : Int32) (x3 : Int32) (M : Mem) : Prop := (P_11_quiet_0 x1 x2 x3 M) ∧ okL true true (F_11_quiet_0 x1 x2 x3 M)
theorem pre_quiet {g : Gl} {k c1 : Nat} {o o1 : Oc} {M : Mem} {x1 x2 x3 : Int32} {d : Nat} (hX : MsX g d c1 m11_quiet [.ref 1558, .int x1, .int x2, .int x3] M o1) (hk : d + 1 ≤ k) (hr : ∀ w M1, o1 = .inl (w, M1) → Rc g k 0 mL_quiet 10 [some (.ref 1558), some (.int x1), some (.int x2), some (.int x3), some (.ref 1557), none] (w.toList ++ [.int 0, .ref 1557]) M1 o) (ht : ∀ E M1, o1 = .inr (E, M1) → o = .inr (E, M1)) : Rc g k (0 + c1) mL_quiet 0 [some (.ref 1558), some (.int x1), some (.int x2), some (.int x3), some (.ref 1557), none] [] M o :=
  R_blk (lv1 := [some (.ref 1558), some (.int x1), some (.int x2), some (.int x3), some (.ref 1557), none]) (st1 := [.int x3, .int x2, .int x1, .ref 1558, .int 0, .ref 1557]) (M1 := M) (P := True) (pc1 := 7) [.aload 4, .iconst 0, .aload_n 0, .iload_n 1, .iload_n 2, .iload_n 3] (Nat.le_of_ble_eq_true rfl) (by decide +kernel) rfl trivial rfl (R_callX (As := [.int x1, .int x2, .int x3]) (rest := [.int 0, .ref 1557]) (by decide +kernel) V16_84 hX hk ⟨Nat.le_of_ble_eq_true rfl, rfl⟩ rfl rfl (Nat.le_of_ble_eq_true rfl) hr ht)
theorem post_quiet {g : Gl} {k : Nat} {M1 : Mem} {x1 x2 x3 : Int32} {r : Int64} : Rc g k 0 mL_quiet 10 [some (.ref 1558), some (.int x1), some (.int x2), some (.int x3), some (.ref 1557), none] [.long r, .int 0, .ref 1557] M1 (.inl (some (.int 0), wl M1 1557 0 r)) :=
  R_blk (lv1 := [some (.ref 1558), some (.int x1), some (.int x2), some (.int x3), some (.ref 1557), none]) (st1 := []) (M1 := wl M1 1557 0 r) (P := oA 4 1557 0 ∧ True) (pc1 := 11) [.lastore] (Nat.le_of_ble_eq_true rfl) (by decide +kernel) rfl ⟨⟨Nat.le_of_ble_eq_true rfl, rfl, vpl (by decide)⟩, trivial⟩ rfl (R_goto (off := 11) (tgt := 22) (by decide +kernel) (by decide) (R_blk (lv1 := [some (.ref 1558), some (.int x1), some (.int x2), some (.int x3), some (.ref 1557), none]) (st1 := [.int 0]) (M1 := wl M1 1557 0 r) (P := True) (pc1 := 23) [.iconst 0] (Nat.le_of_ble_eq_true rfl) (by decide +kernel) rfl trivial rfl (R_iret (by decide +kernel) rfl)))
theorem CW_quiet {g : Gl} (x1 : Int32) (x2 : Int32) (x3 : Int32) (M : Mem) (hp : Q_quiet x1 x2 x3 M) : MsW g 8 3 mL_quiet hL_quiet [.ref 1558, .int x1, .int x2, .int x3, .ref 1557] M (W_quiet x1 x2 x3 M).1 (W_quiet x1 x2 x3 M).2 := by
  have hX : MsX g 7 3 m11_quiet [.ref 1558, .int x1, .int x2, .int x3] M (F_11_quiet_0 x1 x2 x3 M) := C_11_quiet x1 x2 x3 M hp.1
  have hs := hp.2
  rw [W_quiet]
  generalize F_11_quiet_0 x1 x2 x3 M = o1 at hX hs ⊢
  rcases hs with ⟨r, M1, rfl⟩ | ⟨hf, M1, rfl⟩ | ⟨hf, M1, rfl⟩
  · refine MsW.of okW_quiet (Nat.le_of_ble_eq_true rfl) (newB_ok (by decide +kernel)) (R_cw (cx := 0 + 3) (by omega) (pre_quiet hX (Nat.le_refl _) (fun w M2 h => ?_) (fun E M2 h => by cases h))) (Or.inl rfl)
    cases h
    exact post_quiet
  · exact MsW.of okW_quiet (Nat.le_of_ble_eq_true rfl) (newB_ok (by decide +kernel)) (R_cw (cx := 0 + 3) (by omega) (pre_quiet hX (Nat.le_refl _) (fun w M2 h => by cases h) (fun E M2 h => by cases h; rfl))) (Or.inr ⟨_, rfl, cat_quiet_n⟩)
  · exact MsW.of okW_quiet (Nat.le_of_ble_eq_true rfl) (newB_ok (by decide +kernel)) (R_cw (cx := 0 + 3) (by omega) (pre_quiet hX (Nat.le_refl _) (fun w M2 h => by cases h) (fun E M2 h => by cases h; rfl))) (Or.inr ⟨_, rfl, cat_quiet_e⟩)
abbrev cL_way : ByteArray := method_26_code
def yL_way : MethodName := ⟨"LostMuseumLaw", "way", "(LLostMuseum;II[J)I"⟩
def mL_way : MD := (16, yL_way, cL_way, 5, some .int)
def hL_way : HT := [(0, 10, 13, 31)]
theorem okW_way : okW mL_way hL_way := ⟨by decide +kernel, rfl, (Nat.le_of_ble_eq_true rfl), inT6 (i := 115) rfl rfl, rfl⟩
theorem V16_88 : okV 16 88 2 m11_way := ⟨Nat.le_of_ble_eq_true rfl, okM_m11_way, ⟨by decide +kernel, by decide +kernel, by decide +kernel⟩, inT6 (i := 116) rfl rfl, inT1 (i := 1) rfl rfl, inT6 (i := 117) rfl rfl, inT6 (i := 118) rfl rfl⟩
theorem cat_way_n : catOK mL_way hL_way "java/util/NoSuchElementException" 1 := ⟨[], (0, 10, 13, 31), [], 4, 15, rfl, Or.inl rfl, by decide, w_lnkN, by decide +kernel, (Nat.le_of_ble_eq_true rfl), covB_ok (by decide +kernel), Or.inl ⟨by decide +kernel, rfl⟩, by decide +kernel, by decide +kernel⟩
def W_way (x1 : Int32) (x2 : Int32) (M : Mem) : Int32 × Mem := wOutI 1 0 (F_11_way_0 x1 x2 M)
def Q_way (x1 : Int32) (x2 : Int32) (M : Mem) : Prop := (P_11_way_0 x1 x2 M) ∧ okI true false (F_11_way_0 x1 x2 M)
theorem pre_way {g : Gl} {k c1 : Nat} {o o1 : Oc} {M : Mem} {x1 x2 : Int32} {d : Nat} (hX : MsX g d c1 m11_way [.ref 1558, .int x1, .int x2] M o1) (hk : d + 1 ≤ k) (hr : ∀ w M1, o1 = .inl (w, M1) → Rc g k 0 mL_way 8 [some (.ref 1558), some (.int x1), some (.int x2), some (.ref 1557), none] (w.toList ++ [.int 0, .ref 1557]) M1 o) (ht : ∀ E M1, o1 = .inr (E, M1) → o = .inr (E, M1)) : Rc g k (0 + c1) mL_way 0 [some (.ref 1558), some (.int x1), some (.int x2), some (.ref 1557), none] [] M o :=
  R_blk (lv1 := [some (.ref 1558), some (.int x1), some (.int x2), some (.ref 1557), none]) (st1 := [.int x2, .int x1, .ref 1558, .int 0, .ref 1557]) (M1 := M) (P := True) (pc1 := 5) [.aload_n 3, .iconst 0, .aload_n 0, .iload_n 1, .iload_n 2] (Nat.le_of_ble_eq_true rfl) (by decide +kernel) rfl trivial rfl (R_callX (As := [.int x1, .int x2]) (rest := [.int 0, .ref 1557]) (by decide +kernel) V16_88 hX hk ⟨Nat.le_of_ble_eq_true rfl, rfl⟩ rfl rfl (Nat.le_of_ble_eq_true rfl) hr ht)
theorem post_way {g : Gl} {k : Nat} {M1 : Mem} {x1 x2 : Int32} {r : Int32} : Rc g k 0 mL_way 8 [some (.ref 1558), some (.int x1), some (.int x2), some (.ref 1557), none] [.int r, .int 0, .ref 1557] M1 (.inl (some (.int 0), wl M1 1557 0 r.toInt64)) :=
  R_blk (lv1 := [some (.ref 1558), some (.int x1), some (.int x2), some (.ref 1557), none]) (st1 := []) (M1 := wl M1 1557 0 r.toInt64) (P := oA 4 1557 0 ∧ True) (pc1 := 10) [.i2l, .lastore] (Nat.le_of_ble_eq_true rfl) (by decide +kernel) rfl ⟨⟨Nat.le_of_ble_eq_true rfl, rfl, vpl (by decide)⟩, trivial⟩ rfl (R_goto (off := 7) (tgt := 17) (by decide +kernel) (by decide) (R_blk (lv1 := [some (.ref 1558), some (.int x1), some (.int x2), some (.ref 1557), none]) (st1 := [.int 0]) (M1 := wl M1 1557 0 r.toInt64) (P := True) (pc1 := 18) [.iconst 0] (Nat.le_of_ble_eq_true rfl) (by decide +kernel) rfl trivial rfl (R_iret (by decide +kernel) rfl)))
theorem CW_way {g : Gl} (x1 : Int32) (x2 : Int32) (M : Mem) (hp : Q_way x1 x2 M) : MsW g 8 2 mL_way hL_way [.ref 1558, .int x1, .int x2, .ref 1557] M (W_way x1 x2 M).1 (W_way x1 x2 M).2 := by
  have hX : MsX g 7 2 m11_way [.ref 1558, .int x1, .int x2] M (F_11_way_0 x1 x2 M) := C_11_way x1 x2 M hp.1
  have hs := hp.2
  rw [W_way]
  generalize F_11_way_0 x1 x2 M = o1 at hX hs ⊢
  rcases hs with ⟨r, M1, rfl⟩ | ⟨hf, M1, rfl⟩ | ⟨hf, M1, rfl⟩
  · refine MsW.of okW_way (Nat.le_of_ble_eq_true rfl) (newB_ok (by decide +kernel)) (R_cw (cx := 0 + 2) (by omega) (pre_way hX (Nat.le_refl _) (fun w M2 h => ?_) (fun E M2 h => by cases h))) (Or.inl rfl)
    cases h
    exact post_way
  · exact MsW.of okW_way (Nat.le_of_ble_eq_true rfl) (newB_ok (by decide +kernel)) (R_cw (cx := 0 + 2) (by omega) (pre_way hX (Nat.le_refl _) (fun w M2 h => by cases h) (fun E M2 h => by cases h; rfl))) (Or.inr ⟨_, rfl, cat_way_n⟩)
  · cases hf
abbrev cL_next : ByteArray := method_27_code
def yL_next : MethodName := ⟨"LostMuseumLaw", "next", "(LLostMuseum;II[J)I"⟩
def mL_next : MD := (16, yL_next, cL_next, 5, some .int)
def hL_next : HT := [(0, 10, 13, 31)]
theorem okW_next : okW mL_next hL_next := ⟨by decide +kernel, rfl, (Nat.le_of_ble_eq_true rfl), inT6 (i := 122) rfl rfl, rfl⟩
theorem V16_91 : okV 16 91 2 m11_next := ⟨Nat.le_of_ble_eq_true rfl, okM_m11_next, ⟨by decide +kernel, by decide +kernel, by decide +kernel⟩, inT6 (i := 123) rfl rfl, inT1 (i := 1) rfl rfl, inT6 (i := 124) rfl rfl, inT6 (i := 125) rfl rfl⟩
theorem cat_next_n : catOK mL_next hL_next "java/util/NoSuchElementException" 1 := ⟨[], (0, 10, 13, 31), [], 4, 15, rfl, Or.inl rfl, by decide, w_lnkN, by decide +kernel, (Nat.le_of_ble_eq_true rfl), covB_ok (by decide +kernel), Or.inl ⟨by decide +kernel, rfl⟩, by decide +kernel, by decide +kernel⟩
def W_next (x1 : Int32) (x2 : Int32) (M : Mem) : Int32 × Mem := wOutI 1 0 (F_11_next_0 x1 x2 M)
def Q_next (x1 : Int32) (x2 : Int32) (M : Mem) : Prop := (P_11_next_0 x1 x2 M) ∧ okI true false (F_11_next_0 x1 x2 M)
theorem pre_next {g : Gl} {k c1 : Nat} {o o1 : Oc} {M : Mem} {x1 x2 : Int32} {d : Nat} (hX : MsX g d c1 m11_next [.ref 1558, .int x1, .int x2] M o1) (hk : d + 1 ≤ k) (hr : ∀ w M1, o1 = .inl (w, M1) → Rc g k 0 mL_next 8 [some (.ref 1558), some (.int x1), some (.int x2), some (.ref 1557), none] (w.toList ++ [.int 0, .ref 1557]) M1 o) (ht : ∀ E M1, o1 = .inr (E, M1) → o = .inr (E, M1)) : Rc g k (0 + c1) mL_next 0 [some (.ref 1558), some (.int x1), some (.int x2), some (.ref 1557), none] [] M o :=
  R_blk (lv1 := [some (.ref 1558), some (.int x1), some (.int x2), some (.ref 1557), none]) (st1 := [.int x2, .int x1, .ref 1558, .int 0, .ref 1557]) (M1 := M) (P := True) (pc1 := 5) [.aload_n 3, .iconst 0, .aload_n 0, .iload_n 1, .iload_n 2] (Nat.le_of_ble_eq_true rfl) (by decide +kernel) rfl trivial rfl (R_callX (As := [.int x1, .int x2]) (rest := [.int 0, .ref 1557]) (by decide +kernel) V16_91 hX hk ⟨Nat.le_of_ble_eq_true rfl, rfl⟩ rfl rfl (Nat.le_of_ble_eq_true rfl) hr ht)
theorem post_next {g : Gl} {k : Nat} {M1 : Mem} {x1 x2 : Int32} {r : Int32} : Rc g k 0 mL_next 8 [some (.ref 1558), some (.int x1), some (.int x2), some (.ref 1557), none] [.int r, .int 0, .ref 1557] M1 (.inl (some (.int 0), wl M1 1557 0 r.toInt64)) :=
  R_blk (lv1 := [some (.ref 1558), some (.int x1), some (.int x2), some (.ref 1557), none]) (st1 := []) (M1 := wl M1 1557 0 r.toInt64) (P := oA 4 1557 0 ∧ True) (pc1 := 10) [.i2l, .lastore] (Nat.le_of_ble_eq_true rfl) (by decide +kernel) rfl ⟨⟨Nat.le_of_ble_eq_true rfl, rfl, vpl (by decide)⟩, trivial⟩ rfl (R_goto (off := 7) (tgt := 17) (by decide +kernel) (by decide) (R_blk (lv1 := [some (.ref 1558), some (.int x1), some (.int x2), some (.ref 1557), none]) (st1 := [.int 0]) (M1 := wl M1 1557 0 r.toInt64) (P := True) (pc1 := 18) [.iconst 0] (Nat.le_of_ble_eq_true rfl) (by decide +kernel) rfl trivial rfl (R_iret (by decide +kernel) rfl)))
theorem CW_next {g : Gl} (x1 : Int32) (x2 : Int32) (M : Mem) (hp : Q_next x1 x2 M) : MsW g 8 2 mL_next hL_next [.ref 1558, .int x1, .int x2, .ref 1557] M (W_next x1 x2 M).1 (W_next x1 x2 M).2 := by
  have hX : MsX g 7 2 m11_next [.ref 1558, .int x1, .int x2] M (F_11_next_0 x1 x2 M) := C_11_next x1 x2 M hp.1
  have hs := hp.2
  rw [W_next]
  generalize F_11_next_0 x1 x2 M = o1 at hX hs ⊢
  rcases hs with ⟨r, M1, rfl⟩ | ⟨hf, M1, rfl⟩ | ⟨hf, M1, rfl⟩
  · refine MsW.of okW_next (Nat.le_of_ble_eq_true rfl) (newB_ok (by decide +kernel)) (R_cw (cx := 0 + 2) (by omega) (pre_next hX (Nat.le_refl _) (fun w M2 h => ?_) (fun E M2 h => by cases h))) (Or.inl rfl)
    cases h
    exact post_next
  · exact MsW.of okW_next (Nat.le_of_ble_eq_true rfl) (newB_ok (by decide +kernel)) (R_cw (cx := 0 + 2) (by omega) (pre_next hX (Nat.le_refl _) (fun w M2 h => by cases h) (fun E M2 h => by cases h; rfl))) (Or.inr ⟨_, rfl, cat_next_n⟩)
  · cases hf
abbrev cL_loop : ByteArray := method_28_code
def yL_loop : MethodName := ⟨"LostMuseumLaw", "loop", "(LLostMuseum;I[J)I"⟩
def mL_loop : MD := (16, yL_loop, cL_loop, 4, some .int)
def hL_loop : HT := [(0, 9, 12, 31)]
theorem okW_loop : okW mL_loop hL_loop := ⟨by decide +kernel, rfl, (Nat.le_of_ble_eq_true rfl), inT6 (i := 134) rfl rfl, rfl⟩
theorem V16_94 : okV 16 94 1 m11_loop := ⟨Nat.le_of_ble_eq_true rfl, okM_m11_loop, ⟨by decide +kernel, by decide +kernel, by decide +kernel⟩, inT6 (i := 135) rfl rfl, inT1 (i := 1) rfl rfl, inT6 (i := 136) rfl rfl, inT6 (i := 137) rfl rfl⟩
theorem cat_loop_n : catOK mL_loop hL_loop "java/util/NoSuchElementException" 1 := ⟨[], (0, 9, 12, 31), [], 3, 13, rfl, Or.inl rfl, by decide, w_lnkN, by decide +kernel, (Nat.le_of_ble_eq_true rfl), covB_ok (by decide +kernel), Or.inr ⟨3, by decide +kernel, rfl, rfl⟩, by decide +kernel, by decide +kernel⟩
def W_loop (x1 : Int32) (M : Mem) : Int32 × Mem := wOutI 1 0 (F_11_loop_0 x1 M)
def Q_loop (x1 : Int32) (M : Mem) : Prop := (P_11_loop_0 x1 M) ∧ okI true false (F_11_loop_0 x1 M)
theorem pre_loop {g : Gl} {k c1 : Nat} {o o1 : Oc} {M : Mem} {x1 : Int32} {d : Nat} (hX : MsX g d c1 m11_loop [.ref 1558, .int x1] M o1) (hk : d + 1 ≤ k) (hr : ∀ w M1, o1 = .inl (w, M1) → Rc g k 0 mL_loop 7 [some (.ref 1558), some (.int x1), some (.ref 1557), none] (w.toList ++ [.int 0, .ref 1557]) M1 o) (ht : ∀ E M1, o1 = .inr (E, M1) → o = .inr (E, M1)) : Rc g k (0 + c1) mL_loop 0 [some (.ref 1558), some (.int x1), some (.ref 1557), none] [] M o :=
  R_blk (lv1 := [some (.ref 1558), some (.int x1), some (.ref 1557), none]) (st1 := [.int x1, .ref 1558, .int 0, .ref 1557]) (M1 := M) (P := True) (pc1 := 4) [.aload_n 2, .iconst 0, .aload_n 0, .iload_n 1] (Nat.le_of_ble_eq_true rfl) (by decide +kernel) rfl trivial rfl (R_callX (As := [.int x1]) (rest := [.int 0, .ref 1557]) (by decide +kernel) V16_94 hX hk ⟨Nat.le_of_ble_eq_true rfl, rfl⟩ rfl rfl (Nat.le_of_ble_eq_true rfl) hr ht)
theorem post_loop {g : Gl} {k : Nat} {M1 : Mem} {x1 : Int32} {r : Int32} : Rc g k 0 mL_loop 7 [some (.ref 1558), some (.int x1), some (.ref 1557), none] [.int r, .int 0, .ref 1557] M1 (.inl (some (.int 0), wl M1 1557 0 r.toInt64)) :=
  R_blk (lv1 := [some (.ref 1558), some (.int x1), some (.ref 1557), none]) (st1 := []) (M1 := wl M1 1557 0 r.toInt64) (P := oA 4 1557 0 ∧ True) (pc1 := 9) [.i2l, .lastore] (Nat.le_of_ble_eq_true rfl) (by decide +kernel) rfl ⟨⟨Nat.le_of_ble_eq_true rfl, rfl, vpl (by decide)⟩, trivial⟩ rfl (R_goto (off := 6) (tgt := 15) (by decide +kernel) (by decide) (R_blk (lv1 := [some (.ref 1558), some (.int x1), some (.ref 1557), none]) (st1 := [.int 0]) (M1 := wl M1 1557 0 r.toInt64) (P := True) (pc1 := 16) [.iconst 0] (Nat.le_of_ble_eq_true rfl) (by decide +kernel) rfl trivial rfl (R_iret (by decide +kernel) rfl)))
theorem CW_loop {g : Gl} (x1 : Int32) (M : Mem) (hp : Q_loop x1 M) : MsW g 8 1 mL_loop hL_loop [.ref 1558, .int x1, .ref 1557] M (W_loop x1 M).1 (W_loop x1 M).2 := by
  have hX : MsX g 7 1 m11_loop [.ref 1558, .int x1] M (F_11_loop_0 x1 M) := C_11_loop x1 M hp.1
  have hs := hp.2
  rw [W_loop]
  generalize F_11_loop_0 x1 M = o1 at hX hs ⊢
  rcases hs with ⟨r, M1, rfl⟩ | ⟨hf, M1, rfl⟩ | ⟨hf, M1, rfl⟩
  · refine MsW.of okW_loop (Nat.le_of_ble_eq_true rfl) (newB_ok (by decide +kernel)) (R_cw (cx := 0 + 1) (by omega) (pre_loop hX (Nat.le_refl _) (fun w M2 h => ?_) (fun E M2 h => by cases h))) (Or.inl rfl)
    cases h
    exact post_loop
  · exact MsW.of okW_loop (Nat.le_of_ble_eq_true rfl) (newB_ok (by decide +kernel)) (R_cw (cx := 0 + 1) (by omega) (pre_loop hX (Nat.le_refl _) (fun w M2 h => by cases h) (fun E M2 h => by cases h; rfl))) (Or.inr ⟨_, rfl, cat_loop_n⟩)
  · cases hf
abbrev cL_closed : ByteArray := method_29_code
def yL_closed : MethodName := ⟨"LostMuseumLaw", "closed", "(LLostMuseum;II[J)I"⟩
def mL_closed : MD := (16, yL_closed, cL_closed, 5, some .int)
def hL_closed : HT := [(0, 10, 13, 13)]
theorem okW_closed : okW mL_closed hL_closed := ⟨by decide +kernel, rfl, (Nat.le_of_ble_eq_true rfl), inT6 (i := 142) rfl rfl, rfl⟩
theorem V16_97 : okV 16 97 2 m11_closed := ⟨Nat.le_of_ble_eq_true rfl, okM_m11_closed, ⟨by decide +kernel, by decide +kernel, by decide +kernel⟩, inT6 (i := 143) rfl rfl, inT1 (i := 1) rfl rfl, inT6 (i := 144) rfl rfl, inT6 (i := 145) rfl rfl⟩
theorem cat_closed_e : catOK mL_closed hL_closed "java/lang/IllegalArgumentException" 1 := ⟨[], (0, 10, 13, 13), [], 4, 15, rfl, Or.inl rfl, by decide, w_lnkI, by decide +kernel, (Nat.le_of_ble_eq_true rfl), covB_ok (by decide +kernel), Or.inl ⟨by decide +kernel, rfl⟩, by decide +kernel, by decide +kernel⟩
def W_closed (x1 : Int32) (x2 : Int32) (M : Mem) : Int32 × Mem := wOutI 0 1 (F_11_closed_0 x1 x2 M)
def Q_closed (x1 : Int32) (x2 : Int32) (M : Mem) : Prop := (P_11_closed_0 x1 x2 M) ∧ okI false true (F_11_closed_0 x1 x2 M)
theorem pre_closed {g : Gl} {k c1 : Nat} {o o1 : Oc} {M : Mem} {x1 x2 : Int32} {d : Nat} (hX : MsX g d c1 m11_closed [.ref 1558, .int x1, .int x2] M o1) (hk : d + 1 ≤ k) (hr : ∀ w M1, o1 = .inl (w, M1) → Rc g k 0 mL_closed 8 [some (.ref 1558), some (.int x1), some (.int x2), some (.ref 1557), none] (w.toList ++ [.int 0, .ref 1557]) M1 o) (ht : ∀ E M1, o1 = .inr (E, M1) → o = .inr (E, M1)) : Rc g k (0 + c1) mL_closed 0 [some (.ref 1558), some (.int x1), some (.int x2), some (.ref 1557), none] [] M o :=
  R_blk (lv1 := [some (.ref 1558), some (.int x1), some (.int x2), some (.ref 1557), none]) (st1 := [.int x2, .int x1, .ref 1558, .int 0, .ref 1557]) (M1 := M) (P := True) (pc1 := 5) [.aload_n 3, .iconst 0, .aload_n 0, .iload_n 1, .iload_n 2] (Nat.le_of_ble_eq_true rfl) (by decide +kernel) rfl trivial rfl (R_callX (As := [.int x1, .int x2]) (rest := [.int 0, .ref 1557]) (by decide +kernel) V16_97 hX hk ⟨Nat.le_of_ble_eq_true rfl, rfl⟩ rfl rfl (Nat.le_of_ble_eq_true rfl) hr ht)
theorem post_closed {g : Gl} {k : Nat} {M1 : Mem} {x1 x2 : Int32} {r : Int32} : Rc g k 0 mL_closed 8 [some (.ref 1558), some (.int x1), some (.int x2), some (.ref 1557), none] [.int r, .int 0, .ref 1557] M1 (.inl (some (.int 0), wl M1 1557 0 r.toInt64)) :=
  R_blk (lv1 := [some (.ref 1558), some (.int x1), some (.int x2), some (.ref 1557), none]) (st1 := []) (M1 := wl M1 1557 0 r.toInt64) (P := oA 4 1557 0 ∧ True) (pc1 := 10) [.i2l, .lastore] (Nat.le_of_ble_eq_true rfl) (by decide +kernel) rfl ⟨⟨Nat.le_of_ble_eq_true rfl, rfl, vpl (by decide)⟩, trivial⟩ rfl (R_goto (off := 7) (tgt := 17) (by decide +kernel) (by decide) (R_blk (lv1 := [some (.ref 1558), some (.int x1), some (.int x2), some (.ref 1557), none]) (st1 := [.int 0]) (M1 := wl M1 1557 0 r.toInt64) (P := True) (pc1 := 18) [.iconst 0] (Nat.le_of_ble_eq_true rfl) (by decide +kernel) rfl trivial rfl (R_iret (by decide +kernel) rfl)))
theorem CW_closed {g : Gl} (x1 : Int32) (x2 : Int32) (M : Mem) (hp : Q_closed x1 x2 M) : MsW g 8 2 mL_closed hL_closed [.ref 1558, .int x1, .int x2, .ref 1557] M (W_closed x1 x2 M).1 (W_closed x1 x2 M).2 := by
  have hX : MsX g 7 2 m11_closed [.ref 1558, .int x1, .int x2] M (F_11_closed_0 x1 x2 M) := C_11_closed x1 x2 M hp.1
  have hs := hp.2
  rw [W_closed]
  generalize F_11_closed_0 x1 x2 M = o1 at hX hs ⊢
  rcases hs with ⟨r, M1, rfl⟩ | ⟨hf, M1, rfl⟩ | ⟨hf, M1, rfl⟩
  · refine MsW.of okW_closed (Nat.le_of_ble_eq_true rfl) (newB_ok (by decide +kernel)) (R_cw (cx := 0 + 2) (by omega) (pre_closed hX (Nat.le_refl _) (fun w M2 h => ?_) (fun E M2 h => by cases h))) (Or.inl rfl)
    cases h
    exact post_closed
  · cases hf
  · exact MsW.of okW_closed (Nat.le_of_ble_eq_true rfl) (newB_ok (by decide +kernel)) (R_cw (cx := 0 + 2) (by omega) (pre_closed hX (Nat.le_refl _) (fun w M2 h => by cases h) (fun E M2 h => by cases h; rfl))) (Or.inr ⟨_, rfl, cat_closed_e⟩)
abbrev cL_crowded : ByteArray := method_30_code
def yL_crowded : MethodName := ⟨"LostMuseumLaw", "crowded", "(LLostMuseum;I[J)I"⟩
def mL_crowded : MD := (16, yL_crowded, cL_crowded, 4, some .int)
def hL_crowded : HT := [(0, 9, 12, 13)]
theorem okW_crowded : okW mL_crowded hL_crowded := ⟨by decide +kernel, rfl, (Nat.le_of_ble_eq_true rfl), inT6 (i := 149) rfl rfl, rfl⟩
theorem V16_100 : okV 16 100 1 m11_crowded := ⟨Nat.le_of_ble_eq_true rfl, okM_m11_crowded, ⟨by decide +kernel, by decide +kernel, by decide +kernel⟩, inT6 (i := 150) rfl rfl, inT1 (i := 1) rfl rfl, inT6 (i := 151) rfl rfl, inT6 (i := 152) rfl rfl⟩
theorem cat_crowded_e : catOK mL_crowded hL_crowded "java/lang/IllegalArgumentException" 1 := ⟨[], (0, 9, 12, 13), [], 3, 13, rfl, Or.inl rfl, by decide, w_lnkI, by decide +kernel, (Nat.le_of_ble_eq_true rfl), covB_ok (by decide +kernel), Or.inr ⟨3, by decide +kernel, rfl, rfl⟩, by decide +kernel, by decide +kernel⟩
def W_crowded (x1 : Int32) (M : Mem) : Int32 × Mem := wOutI 0 1 (F_11_crowded_0 x1 M)
def Q_crowded (x1 : Int32) (M : Mem) : Prop := (P_11_crowded_0 x1 M) ∧ okI false true (F_11_crowded_0 x1 M)
theorem pre_crowded {g : Gl} {k c1 : Nat} {o o1 : Oc} {M : Mem} {x1 : Int32} {d : Nat} (hX : MsX g d c1 m11_crowded [.ref 1558, .int x1] M o1) (hk : d + 1 ≤ k) (hr : ∀ w M1, o1 = .inl (w, M1) → Rc g k 0 mL_crowded 7 [some (.ref 1558), some (.int x1), some (.ref 1557), none] (w.toList ++ [.int 0, .ref 1557]) M1 o) (ht : ∀ E M1, o1 = .inr (E, M1) → o = .inr (E, M1)) : Rc g k (0 + c1) mL_crowded 0 [some (.ref 1558), some (.int x1), some (.ref 1557), none] [] M o :=
  R_blk (lv1 := [some (.ref 1558), some (.int x1), some (.ref 1557), none]) (st1 := [.int x1, .ref 1558, .int 0, .ref 1557]) (M1 := M) (P := True) (pc1 := 4) [.aload_n 2, .iconst 0, .aload_n 0, .iload_n 1] (Nat.le_of_ble_eq_true rfl) (by decide +kernel) rfl trivial rfl (R_callX (As := [.int x1]) (rest := [.int 0, .ref 1557]) (by decide +kernel) V16_100 hX hk ⟨Nat.le_of_ble_eq_true rfl, rfl⟩ rfl rfl (Nat.le_of_ble_eq_true rfl) hr ht)
theorem post_crowded {g : Gl} {k : Nat} {M1 : Mem} {x1 : Int32} {r : Int32} : Rc g k 0 mL_crowded 7 [some (.ref 1558), some (.int x1), some (.ref 1557), none] [.int r, .int 0, .ref 1557] M1 (.inl (some (.int 0), wl M1 1557 0 r.toInt64)) :=
  R_blk (lv1 := [some (.ref 1558), some (.int x1), some (.ref 1557), none]) (st1 := []) (M1 := wl M1 1557 0 r.toInt64) (P := oA 4 1557 0 ∧ True) (pc1 := 9) [.i2l, .lastore] (Nat.le_of_ble_eq_true rfl) (by decide +kernel) rfl ⟨⟨Nat.le_of_ble_eq_true rfl, rfl, vpl (by decide)⟩, trivial⟩ rfl (R_goto (off := 6) (tgt := 15) (by decide +kernel) (by decide) (R_blk (lv1 := [some (.ref 1558), some (.int x1), some (.ref 1557), none]) (st1 := [.int 0]) (M1 := wl M1 1557 0 r.toInt64) (P := True) (pc1 := 16) [.iconst 0] (Nat.le_of_ble_eq_true rfl) (by decide +kernel) rfl trivial rfl (R_iret (by decide +kernel) rfl)))
theorem CW_crowded {g : Gl} (x1 : Int32) (M : Mem) (hp : Q_crowded x1 M) : MsW g 8 1 mL_crowded hL_crowded [.ref 1558, .int x1, .ref 1557] M (W_crowded x1 M).1 (W_crowded x1 M).2 := by
  have hX : MsX g 7 1 m11_crowded [.ref 1558, .int x1] M (F_11_crowded_0 x1 M) := C_11_crowded x1 M hp.1
  have hs := hp.2
  rw [W_crowded]
  generalize F_11_crowded_0 x1 M = o1 at hX hs ⊢
  rcases hs with ⟨r, M1, rfl⟩ | ⟨hf, M1, rfl⟩ | ⟨hf, M1, rfl⟩
  · refine MsW.of okW_crowded (Nat.le_of_ble_eq_true rfl) (newB_ok (by decide +kernel)) (R_cw (cx := 0 + 1) (by omega) (pre_crowded hX (Nat.le_refl _) (fun w M2 h => ?_) (fun E M2 h => by cases h))) (Or.inl rfl)
    cases h
    exact post_crowded
  · cases hf
  · exact MsW.of okW_crowded (Nat.le_of_ble_eq_true rfl) (newB_ok (by decide +kernel)) (R_cw (cx := 0 + 1) (by omega) (pre_crowded hX (Nat.le_refl _) (fun w M2 h => by cases h) (fun E M2 h => by cases h; rfl))) (Or.inr ⟨_, rfl, cat_crowded_e⟩)
abbrev cL_worn : ByteArray := method_31_code
def yL_worn : MethodName := ⟨"LostMuseumLaw", "worn", "(LLostMuseum;I[J)I"⟩
def mL_worn : MD := (16, yL_worn, cL_worn, 4, some .int)
def hL_worn : HT := [(0, 9, 12, 13)]
theorem okW_worn : okW mL_worn hL_worn := ⟨by decide +kernel, rfl, (Nat.le_of_ble_eq_true rfl), inT6 (i := 156) rfl rfl, rfl⟩
theorem V16_103 : okV 16 103 1 m11_worn := ⟨Nat.le_of_ble_eq_true rfl, okM_m11_worn, ⟨by decide +kernel, by decide +kernel, by decide +kernel⟩, inT6 (i := 157) rfl rfl, inT1 (i := 1) rfl rfl, inT6 (i := 158) rfl rfl, inT6 (i := 159) rfl rfl⟩
theorem cat_worn_e : catOK mL_worn hL_worn "java/lang/IllegalArgumentException" 1 := ⟨[], (0, 9, 12, 13), [], 3, 13, rfl, Or.inl rfl, by decide, w_lnkI, by decide +kernel, (Nat.le_of_ble_eq_true rfl), covB_ok (by decide +kernel), Or.inr ⟨3, by decide +kernel, rfl, rfl⟩, by decide +kernel, by decide +kernel⟩
def W_worn (x1 : Int32) (M : Mem) : Int32 × Mem := wOutI 0 1 (F_11_worn_0 x1 M)
def Q_worn (x1 : Int32) (M : Mem) : Prop := (P_11_worn_0 x1 M) ∧ okI false true (F_11_worn_0 x1 M)
theorem pre_worn {g : Gl} {k c1 : Nat} {o o1 : Oc} {M : Mem} {x1 : Int32} {d : Nat} (hX : MsX g d c1 m11_worn [.ref 1558, .int x1] M o1) (hk : d + 1 ≤ k) (hr : ∀ w M1, o1 = .inl (w, M1) → Rc g k 0 mL_worn 7 [some (.ref 1558), some (.int x1), some (.ref 1557), none] (w.toList ++ [.int 0, .ref 1557]) M1 o) (ht : ∀ E M1, o1 = .inr (E, M1) → o = .inr (E, M1)) : Rc g k (0 + c1) mL_worn 0 [some (.ref 1558), some (.int x1), some (.ref 1557), none] [] M o :=
  R_blk (lv1 := [some (.ref 1558), some (.int x1), some (.ref 1557), none]) (st1 := [.int x1, .ref 1558, .int 0, .ref 1557]) (M1 := M) (P := True) (pc1 := 4) [.aload_n 2, .iconst 0, .aload_n 0, .iload_n 1] (Nat.le_of_ble_eq_true rfl) (by decide +kernel) rfl trivial rfl (R_callX (As := [.int x1]) (rest := [.int 0, .ref 1557]) (by decide +kernel) V16_103 hX hk ⟨Nat.le_of_ble_eq_true rfl, rfl⟩ rfl rfl (Nat.le_of_ble_eq_true rfl) hr ht)
theorem post_worn {g : Gl} {k : Nat} {M1 : Mem} {x1 : Int32} {r : Int32} : Rc g k 0 mL_worn 7 [some (.ref 1558), some (.int x1), some (.ref 1557), none] [.int r, .int 0, .ref 1557] M1 (.inl (some (.int 0), wl M1 1557 0 r.toInt64)) :=
  R_blk (lv1 := [some (.ref 1558), some (.int x1), some (.ref 1557), none]) (st1 := []) (M1 := wl M1 1557 0 r.toInt64) (P := oA 4 1557 0 ∧ True) (pc1 := 9) [.i2l, .lastore] (Nat.le_of_ble_eq_true rfl) (by decide +kernel) rfl ⟨⟨Nat.le_of_ble_eq_true rfl, rfl, vpl (by decide)⟩, trivial⟩ rfl (R_goto (off := 6) (tgt := 15) (by decide +kernel) (by decide) (R_blk (lv1 := [some (.ref 1558), some (.int x1), some (.ref 1557), none]) (st1 := [.int 0]) (M1 := wl M1 1557 0 r.toInt64) (P := True) (pc1 := 16) [.iconst 0] (Nat.le_of_ble_eq_true rfl) (by decide +kernel) rfl trivial rfl (R_iret (by decide +kernel) rfl)))
theorem CW_worn {g : Gl} (x1 : Int32) (M : Mem) (hp : Q_worn x1 M) : MsW g 8 1 mL_worn hL_worn [.ref 1558, .int x1, .ref 1557] M (W_worn x1 M).1 (W_worn x1 M).2 := by
  have hX : MsX g 7 1 m11_worn [.ref 1558, .int x1] M (F_11_worn_0 x1 M) := C_11_worn x1 M hp.1
  have hs := hp.2
  rw [W_worn]
  generalize F_11_worn_0 x1 M = o1 at hX hs ⊢
  rcases hs with ⟨r, M1, rfl⟩ | ⟨hf, M1, rfl⟩ | ⟨hf, M1, rfl⟩
  · refine MsW.of okW_worn (Nat.le_of_ble_eq_true rfl) (newB_ok (by decide +kernel)) (R_cw (cx := 0 + 1) (by omega) (pre_worn hX (Nat.le_refl _) (fun w M2 h => ?_) (fun E M2 h => by cases h))) (Or.inl rfl)
    cases h
    exact post_worn
  · cases hf
  · exact MsW.of okW_worn (Nat.le_of_ble_eq_true rfl) (newB_ok (by decide +kernel)) (R_cw (cx := 0 + 1) (by omega) (pre_worn hX (Nat.le_refl _) (fun w M2 h => by cases h) (fun E M2 h => by cases h; rfl))) (Or.inr ⟨_, rfl, cat_worn_e⟩)
abbrev cL_sleepwalk : ByteArray := method_32_code
def yL_sleepwalk : MethodName := ⟨"LostMuseumLaw", "sleepwalk", "(LLostMuseum;IIII[J)I"⟩
def mL_sleepwalk : MD := (16, yL_sleepwalk, cL_sleepwalk, 7, some .int)
def hL_sleepwalk : HT := [(0, 14, 17, 31), (0, 14, 21, 13)]
theorem okW_sleepwalk : okW mL_sleepwalk hL_sleepwalk := ⟨by decide +kernel, rfl, (Nat.le_of_ble_eq_true rfl), inT6 (i := 163) rfl rfl, rfl⟩
theorem V16_106 : okV 16 106 4 m11_sleepwalk := ⟨Nat.le_of_ble_eq_true rfl, okM_m11_sleepwalk, ⟨by decide +kernel, by decide +kernel, by decide +kernel⟩, inT6 (i := 164) rfl rfl, inT1 (i := 1) rfl rfl, inT6 (i := 165) rfl rfl, inT6 (i := 166) rfl rfl⟩
theorem cat_sleepwalk_n : catOK mL_sleepwalk hL_sleepwalk "java/util/NoSuchElementException" 1 := ⟨[], (0, 14, 17, 31), [(0, 14, 21, 13)], 6, 19, rfl, Or.inl rfl, by decide, w_lnkN, by decide +kernel, (Nat.le_of_ble_eq_true rfl), covB_ok (by decide +kernel), Or.inl ⟨by decide +kernel, rfl⟩, by decide +kernel, by decide +kernel⟩
theorem cat_sleepwalk_e : catOK mL_sleepwalk hL_sleepwalk "java/lang/IllegalArgumentException" 2 := ⟨[(0, 14, 17, 31)], (0, 14, 21, 13), [], 6, 23, rfl, Or.inr ⟨rfl, fun z hz => by cases List.mem_singleton.mp hz; exact ⟨by decide, w_lnkN⟩⟩, by decide, w_lnkI, by decide +kernel, (Nat.le_of_ble_eq_true rfl), covB_ok (by decide +kernel), Or.inl ⟨by decide +kernel, rfl⟩, by decide +kernel, by decide +kernel⟩
def W_sleepwalk (x1 : Int32) (x2 : Int32) (x3 : Int32) (x4 : Int32) (M : Mem) : Int32 × Mem := wOutI 1 2 (F_11_sleepwalk_0 x1 x2 x3 x4 M)
def Q_sleepwalk (x1 : Int32) (x2 : Int32) (x3 : Int32) (x4 : Int32) (M : Mem) : Prop := (P_11_sleepwalk_0 x1 x2 x3 x4 M) ∧ okI true true (F_11_sleepwalk_0 x1 x2 x3 x4 M)
theorem pre_sleepwalk {g : Gl} {k c1 : Nat} {o o1 : Oc} {M : Mem} {x1 x2 x3 x4 : Int32} {d : Nat} (hX : MsX g d c1 m11_sleepwalk [.ref 1558, .int x1, .int x2, .int x3, .int x4] M o1) (hk : d + 1 ≤ k) (hr : ∀ w M1, o1 = .inl (w, M1) → Rc g k 0 mL_sleepwalk 12 [some (.ref 1558), some (.int x1), some (.int x2), some (.int x3), some (.int x4), some (.ref 1557), none] (w.toList ++ [.int 0, .ref 1557]) M1 o) (ht : ∀ E M1, o1 = .inr (E, M1) → o = .inr (E, M1)) : Rc g k (0 + c1) mL_sleepwalk 0 [some (.ref 1558), some (.int x1), some (.int x2), some (.int x3), some (.int x4), some (.ref 1557), none] [] M o :=
  R_blk (lv1 := [some (.ref 1558), some (.int x1), some (.int x2), some (.int x3), some (.int x4), some (.ref 1557), none]) (st1 := [.int x4, .int x3, .int x2, .int x1, .ref 1558, .int 0, .ref 1557]) (M1 := M) (P := True) (pc1 := 9) [.aload 5, .iconst 0, .aload_n 0, .iload_n 1, .iload_n 2, .iload_n 3, .iload 4] (Nat.le_of_ble_eq_true rfl) (by decide +kernel) rfl trivial rfl (R_callX (As := [.int x1, .int x2, .int x3, .int x4]) (rest := [.int 0, .ref 1557]) (by decide +kernel) V16_106 hX hk ⟨Nat.le_of_ble_eq_true rfl, rfl⟩ rfl rfl (Nat.le_of_ble_eq_true rfl) hr ht)
theorem post_sleepwalk {g : Gl} {k : Nat} {M1 : Mem} {x1 x2 x3 x4 : Int32} {r : Int32} : Rc g k 0 mL_sleepwalk 12 [some (.ref 1558), some (.int x1), some (.int x2), some (.int x3), some (.int x4), some (.ref 1557), none] [.int r, .int 0, .ref 1557] M1 (.inl (some (.int 0), wl M1 1557 0 r.toInt64)) :=
  R_blk (lv1 := [some (.ref 1558), some (.int x1), some (.int x2), some (.int x3), some (.int x4), some (.ref 1557), none]) (st1 := []) (M1 := wl M1 1557 0 r.toInt64) (P := oA 4 1557 0 ∧ True) (pc1 := 14) [.i2l, .lastore] (Nat.le_of_ble_eq_true rfl) (by decide +kernel) rfl ⟨⟨Nat.le_of_ble_eq_true rfl, rfl, vpl (by decide)⟩, trivial⟩ rfl (R_goto (off := 11) (tgt := 25) (by decide +kernel) (by decide) (R_blk (lv1 := [some (.ref 1558), some (.int x1), some (.int x2), some (.int x3), some (.int x4), some (.ref 1557), none]) (st1 := [.int 0]) (M1 := wl M1 1557 0 r.toInt64) (P := True) (pc1 := 26) [.iconst 0] (Nat.le_of_ble_eq_true rfl) (by decide +kernel) rfl trivial rfl (R_iret (by decide +kernel) rfl)))
theorem CW_sleepwalk {g : Gl} (x1 : Int32) (x2 : Int32) (x3 : Int32) (x4 : Int32) (M : Mem) (hp : Q_sleepwalk x1 x2 x3 x4 M) : MsW g 8 3 mL_sleepwalk hL_sleepwalk [.ref 1558, .int x1, .int x2, .int x3, .int x4, .ref 1557] M (W_sleepwalk x1 x2 x3 x4 M).1 (W_sleepwalk x1 x2 x3 x4 M).2 := by
  have hX : MsX g 7 3 m11_sleepwalk [.ref 1558, .int x1, .int x2, .int x3, .int x4] M (F_11_sleepwalk_0 x1 x2 x3 x4 M) := C_11_sleepwalk x1 x2 x3 x4 M hp.1
  have hs := hp.2
  rw [W_sleepwalk]
  generalize F_11_sleepwalk_0 x1 x2 x3 x4 M = o1 at hX hs ⊢
  rcases hs with ⟨r, M1, rfl⟩ | ⟨hf, M1, rfl⟩ | ⟨hf, M1, rfl⟩
  · refine MsW.of okW_sleepwalk (Nat.le_of_ble_eq_true rfl) (newB_ok (by decide +kernel)) (R_cw (cx := 0 + 3) (by omega) (pre_sleepwalk hX (Nat.le_refl _) (fun w M2 h => ?_) (fun E M2 h => by cases h))) (Or.inl rfl)
    cases h
    exact post_sleepwalk
  · exact MsW.of okW_sleepwalk (Nat.le_of_ble_eq_true rfl) (newB_ok (by decide +kernel)) (R_cw (cx := 0 + 3) (by omega) (pre_sleepwalk hX (Nat.le_refl _) (fun w M2 h => by cases h) (fun E M2 h => by cases h; rfl))) (Or.inr ⟨_, rfl, cat_sleepwalk_n⟩)
  · exact MsW.of okW_sleepwalk (Nat.le_of_ble_eq_true rfl) (newB_ok (by decide +kernel)) (R_cw (cx := 0 + 3) (by omega) (pre_sleepwalk hX (Nat.le_refl _) (fun w M2 h => by cases h) (fun E M2 h => by cases h; rfl))) (Or.inr ⟨_, rfl, cat_sleepwalk_e⟩)
abbrev cL_span : ByteArray := method_33_code
def yL_span : MethodName := ⟨"LostMuseumLaw", "span", "(LLostMuseum;IIIIII[J)I"⟩
def mL_span : MD := (16, yL_span, cL_span, 9, some .int)
def hL_span : HT := [(0, 18, 21, 31), (0, 18, 25, 13)]
theorem okW_span : okW mL_span hL_span := ⟨by decide +kernel, rfl, (Nat.le_of_ble_eq_true rfl), inT6 (i := 193) rfl rfl, rfl⟩
theorem V16_110 : okV 16 110 6 m11_span := ⟨Nat.le_of_ble_eq_true rfl, okM_m11_span, ⟨by decide +kernel, by decide +kernel, by decide +kernel⟩, inT6 (i := 194) rfl rfl, inT1 (i := 1) rfl rfl, inT6 (i := 195) rfl rfl, inT6 (i := 196) rfl rfl⟩
theorem cat_span_n : catOK mL_span hL_span "java/util/NoSuchElementException" 1 := ⟨[], (0, 18, 21, 31), [(0, 18, 25, 13)], 8, 23, rfl, Or.inl rfl, by decide, w_lnkN, by decide +kernel, (Nat.le_of_ble_eq_true rfl), covB_ok (by decide +kernel), Or.inl ⟨by decide +kernel, rfl⟩, by decide +kernel, by decide +kernel⟩
theorem cat_span_e : catOK mL_span hL_span "java/lang/IllegalArgumentException" 2 := ⟨[(0, 18, 21, 31)], (0, 18, 25, 13), [], 8, 27, rfl, Or.inr ⟨rfl, fun z hz => by cases List.mem_singleton.mp hz; exact ⟨by decide, w_lnkN⟩⟩, by decide, w_lnkI, by decide +kernel, (Nat.le_of_ble_eq_true rfl), covB_ok (by decide +kernel), Or.inl ⟨by decide +kernel, rfl⟩, by decide +kernel, by decide +kernel⟩
def W_span (x1 : Int32) (x2 : Int32) (x3 : Int32) (x4 : Int32) (x5 : Int32) (x6 : Int32) (M : Mem) : Int32 × Mem := wOutI 1 2 (F_11_span_0 x1 x2 x3 x4 x5 x6 M)
def Q_span (x1 : Int32) (x2 : Int32) (x3 : Int32) (x4 : Int32) (x5 : Int32) (x6 : Int32) (M : Mem) : Prop := (P_11_span_0 x1 x2 x3 x4 x5 x6 M) ∧ okI true true (F_11_span_0 x1 x2 x3 x4 x5 x6 M)
theorem pre_span {g : Gl} {k c1 : Nat} {o o1 : Oc} {M : Mem} {x1 x2 x3 x4 x5 x6 : Int32} {d : Nat} (hX : MsX g d c1 m11_span [.ref 1558, .int x1, .int x2, .int x3, .int x4, .int x5, .int x6] M o1) (hk : d + 1 ≤ k) (hr : ∀ w M1, o1 = .inl (w, M1) → Rc g k 0 mL_span 16 [some (.ref 1558), some (.int x1), some (.int x2), some (.int x3), some (.int x4), some (.int x5), some (.int x6), some (.ref 1557), none] (w.toList ++ [.int 0, .ref 1557]) M1 o) (ht : ∀ E M1, o1 = .inr (E, M1) → o = .inr (E, M1)) : Rc g k (0 + c1) mL_span 0 [some (.ref 1558), some (.int x1), some (.int x2), some (.int x3), some (.int x4), some (.int x5), some (.int x6), some (.ref 1557), none] [] M o :=
  R_blk (lv1 := [some (.ref 1558), some (.int x1), some (.int x2), some (.int x3), some (.int x4), some (.int x5), some (.int x6), some (.ref 1557), none]) (st1 := [.int x6, .int x5, .int x4, .int x3, .int x2, .int x1, .ref 1558, .int 0, .ref 1557]) (M1 := M) (P := True) (pc1 := 13) [.aload 7, .iconst 0, .aload_n 0, .iload_n 1, .iload_n 2, .iload_n 3, .iload 4, .iload 5, .iload 6] (Nat.le_of_ble_eq_true rfl) (by decide +kernel) rfl trivial rfl (R_callX (As := [.int x1, .int x2, .int x3, .int x4, .int x5, .int x6]) (rest := [.int 0, .ref 1557]) (by decide +kernel) V16_110 hX hk ⟨Nat.le_of_ble_eq_true rfl, rfl⟩ rfl rfl (Nat.le_of_ble_eq_true rfl) hr ht)
theorem post_span {g : Gl} {k : Nat} {M1 : Mem} {x1 x2 x3 x4 x5 x6 : Int32} {r : Int32} : Rc g k 0 mL_span 16 [some (.ref 1558), some (.int x1), some (.int x2), some (.int x3), some (.int x4), some (.int x5), some (.int x6), some (.ref 1557), none] [.int r, .int 0, .ref 1557] M1 (.inl (some (.int 0), wl M1 1557 0 r.toInt64)) :=
  R_blk (lv1 := [some (.ref 1558), some (.int x1), some (.int x2), some (.int x3), some (.int x4), some (.int x5), some (.int x6), some (.ref 1557), none]) (st1 := []) (M1 := wl M1 1557 0 r.toInt64) (P := oA 4 1557 0 ∧ True) (pc1 := 18) [.i2l, .lastore] (Nat.le_of_ble_eq_true rfl) (by decide +kernel) rfl ⟨⟨Nat.le_of_ble_eq_true rfl, rfl, vpl (by decide)⟩, trivial⟩ rfl (R_goto (off := 11) (tgt := 29) (by decide +kernel) (by decide) (R_blk (lv1 := [some (.ref 1558), some (.int x1), some (.int x2), some (.int x3), some (.int x4), some (.int x5), some (.int x6), some (.ref 1557), none]) (st1 := [.int 0]) (M1 := wl M1 1557 0 r.toInt64) (P := True) (pc1 := 30) [.iconst 0] (Nat.le_of_ble_eq_true rfl) (by decide +kernel) rfl trivial rfl (R_iret (by decide +kernel) rfl)))
theorem CW_span {g : Gl} (x1 : Int32) (x2 : Int32) (x3 : Int32) (x4 : Int32) (x5 : Int32) (x6 : Int32) (M : Mem) (hp : Q_span x1 x2 x3 x4 x5 x6 M) : MsW g 8 5 mL_span hL_span [.ref 1558, .int x1, .int x2, .int x3, .int x4, .int x5, .int x6, .ref 1557] M (W_span x1 x2 x3 x4 x5 x6 M).1 (W_span x1 x2 x3 x4 x5 x6 M).2 := by
  have hX : MsX g 7 5 m11_span [.ref 1558, .int x1, .int x2, .int x3, .int x4, .int x5, .int x6] M (F_11_span_0 x1 x2 x3 x4 x5 x6 M) := C_11_span x1 x2 x3 x4 x5 x6 M hp.1
  have hs := hp.2
  rw [W_span]
  generalize F_11_span_0 x1 x2 x3 x4 x5 x6 M = o1 at hX hs ⊢
  rcases hs with ⟨r, M1, rfl⟩ | ⟨hf, M1, rfl⟩ | ⟨hf, M1, rfl⟩
  · refine MsW.of okW_span (Nat.le_of_ble_eq_true rfl) (newB_ok (by decide +kernel)) (R_cw (cx := 0 + 5) (by omega) (pre_span hX (Nat.le_refl _) (fun w M2 h => ?_) (fun E M2 h => by cases h))) (Or.inl rfl)
    cases h
    exact post_span
  · exact MsW.of okW_span (Nat.le_of_ble_eq_true rfl) (newB_ok (by decide +kernel)) (R_cw (cx := 0 + 5) (by omega) (pre_span hX (Nat.le_refl _) (fun w M2 h => by cases h) (fun E M2 h => by cases h; rfl))) (Or.inr ⟨_, rfl, cat_span_n⟩)
  · exact MsW.of okW_span (Nat.le_of_ble_eq_true rfl) (newB_ok (by decide +kernel)) (R_cw (cx := 0 + 5) (by omega) (pre_span hX (Nat.le_refl _) (fun w M2 h => by cases h) (fun E M2 h => by cases h; rfl))) (Or.inr ⟨_, rfl, cat_span_e⟩)
