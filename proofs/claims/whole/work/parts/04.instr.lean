/-! ONE INSTRUCTION: each kind as a rule of Rn, out of the kit's rows -/
section RI
variable {g : Gl} {k : Nat} {md : MD} {pc : Nat} {lv : List (Option Value)} {st : List Value} {M : Mem} {o : Oc} {cx : Nat}
theorem R_iconst {n : Int} (hd : decode md.2.2.1 pc = .ok (.iconst n, 1))  (hn : Rc g k cx md (pc + 1) lv (.int (Int32.ofInt n) :: st) M o) : Rc g k cx md pc lv (st) M o := fun p e s m sa below meth c H locs A ls R n1 n2 b1 b2 Q hC hP hS hl hR hQ => lv_iconst hC.1 hC.2.1 hd rfl (hn p e s m sa below meth c H locs A ls R n1 n2 b1 b2 Q hC hP hS hl hR hQ)
theorem R_bipush {n : Int} (hd : decode md.2.2.1 pc = .ok (.bipush n, 2))  (hn : Rc g k cx md (pc + 2) lv (.int (Int8.ofInt n).toInt32 :: st) M o) : Rc g k cx md pc lv (st) M o := fun p e s m sa below meth c H locs A ls R n1 n2 b1 b2 Q hC hP hS hl hR hQ => lv_bipush hC.1 hC.2.1 hd rfl (hn p e s m sa below meth c H locs A ls R n1 n2 b1 b2 Q hC hP hS hl hR hQ)
theorem R_sipush {n : Int} (hd : decode md.2.2.1 pc = .ok (.sipush n, 3))  (hn : Rc g k cx md (pc + 3) lv (.int (Int16.ofInt n).toInt32 :: st) M o) : Rc g k cx md pc lv (st) M o := fun p e s m sa below meth c H locs A ls R n1 n2 b1 b2 Q hC hP hS hl hR hQ => lv_sipush hC.1 hC.2.1 hd rfl (hn p e s m sa below meth c H locs A ls R n1 n2 b1 b2 Q hC hP hS hl hR hQ)
theorem R_lconst {n : Fin 2} (hd : decode md.2.2.1 pc = .ok (.lconst n, 1))  (hn : Rc g k cx md (pc + 1) lv (.long (Int64.ofNat (n : Nat)) :: st) M o) : Rc g k cx md pc lv (st) M o := fun p e s m sa below meth c H locs A ls R n1 n2 b1 b2 Q hC hP hS hl hR hQ => lv_lconst hC.1 hC.2.1 hd rfl (hn p e s m sa below meth c H locs A ls R n1 n2 b1 b2 Q hC hP hS hl hR hQ)
theorem R_iadd {x y : Int32} (hd : decode md.2.2.1 pc = .ok (.iadd, 1))  (hn : Rc g k cx md (pc + 1) lv (.int (x + y) :: st) M o) : Rc g k cx md pc lv (.int y :: .int x :: st) M o := fun p e s m sa below meth c H locs A ls R n1 n2 b1 b2 Q hC hP hS hl hR hQ => lv_iadd hC.1 hC.2.1 hd (hn p e s m sa below meth c H locs A ls R n1 n2 b1 b2 Q hC hP hS hl hR hQ)
theorem R_isub {x y : Int32} (hd : decode md.2.2.1 pc = .ok (.isub, 1))  (hn : Rc g k cx md (pc + 1) lv (.int (x - y) :: st) M o) : Rc g k cx md pc lv (.int y :: .int x :: st) M o := fun p e s m sa below meth c H locs A ls R n1 n2 b1 b2 Q hC hP hS hl hR hQ => lv_isub hC.1 hC.2.1 hd (hn p e s m sa below meth c H locs A ls R n1 n2 b1 b2 Q hC hP hS hl hR hQ)
theorem R_imul {x y : Int32} (hd : decode md.2.2.1 pc = .ok (.imul, 1))  (hn : Rc g k cx md (pc + 1) lv (.int (x * y) :: st) M o) : Rc g k cx md pc lv (.int y :: .int x :: st) M o := fun p e s m sa below meth c H locs A ls R n1 n2 b1 b2 Q hC hP hS hl hR hQ => lv_imul hC.1 hC.2.1 hd (hn p e s m sa below meth c H locs A ls R n1 n2 b1 b2 Q hC hP hS hl hR hQ)
theorem R_iand {x y : Int32} (hd : decode md.2.2.1 pc = .ok (.iand, 1))  (hn : Rc g k cx md (pc + 1) lv (.int (x &&& y) :: st) M o) : Rc g k cx md pc lv (.int y :: .int x :: st) M o := fun p e s m sa below meth c H locs A ls R n1 n2 b1 b2 Q hC hP hS hl hR hQ => lv_iand hC.1 hC.2.1 hd (hn p e s m sa below meth c H locs A ls R n1 n2 b1 b2 Q hC hP hS hl hR hQ)
theorem R_ior {x y : Int32} (hd : decode md.2.2.1 pc = .ok (.ior, 1))  (hn : Rc g k cx md (pc + 1) lv (.int (x ||| y) :: st) M o) : Rc g k cx md pc lv (.int y :: .int x :: st) M o := fun p e s m sa below meth c H locs A ls R n1 n2 b1 b2 Q hC hP hS hl hR hQ => lv_ior hC.1 hC.2.1 hd (hn p e s m sa below meth c H locs A ls R n1 n2 b1 b2 Q hC hP hS hl hR hQ)
theorem R_ixor {x y : Int32} (hd : decode md.2.2.1 pc = .ok (.ixor, 1))  (hn : Rc g k cx md (pc + 1) lv (.int (x ^^^ y) :: st) M o) : Rc g k cx md pc lv (.int y :: .int x :: st) M o := fun p e s m sa below meth c H locs A ls R n1 n2 b1 b2 Q hC hP hS hl hR hQ => lv_ixor hC.1 hC.2.1 hd (hn p e s m sa below meth c H locs A ls R n1 n2 b1 b2 Q hC hP hS hl hR hQ)
theorem R_ishl {x y : Int32} (hd : decode md.2.2.1 pc = .ok (.ishl, 1))  (hn : Rc g k cx md (pc + 1) lv (.int (x <<< (y &&& 31)) :: st) M o) : Rc g k cx md pc lv (.int y :: .int x :: st) M o := fun p e s m sa below meth c H locs A ls R n1 n2 b1 b2 Q hC hP hS hl hR hQ => lv_ishl hC.1 hC.2.1 hd (hn p e s m sa below meth c H locs A ls R n1 n2 b1 b2 Q hC hP hS hl hR hQ)
theorem R_ishr {x y : Int32} (hd : decode md.2.2.1 pc = .ok (.ishr, 1))  (hn : Rc g k cx md (pc + 1) lv (.int (x >>> (y &&& 31)) :: st) M o) : Rc g k cx md pc lv (.int y :: .int x :: st) M o := fun p e s m sa below meth c H locs A ls R n1 n2 b1 b2 Q hC hP hS hl hR hQ => lv_ishr hC.1 hC.2.1 hd (hn p e s m sa below meth c H locs A ls R n1 n2 b1 b2 Q hC hP hS hl hR hQ)
theorem R_iushr {x y : Int32} (hd : decode md.2.2.1 pc = .ok (.iushr, 1))  (hn : Rc g k cx md (pc + 1) lv (.int ((x.toUInt32 >>> (y.toUInt32 &&& Int32.toUInt32 31)).toInt32) :: st) M o) : Rc g k cx md pc lv (.int y :: .int x :: st) M o := fun p e s m sa below meth c H locs A ls R n1 n2 b1 b2 Q hC hP hS hl hR hQ => lv_iushr hC.1 hC.2.1 hd rfl (hn p e s m sa below meth c H locs A ls R n1 n2 b1 b2 Q hC hP hS hl hR hQ)
theorem R_ineg {x : Int32} (hd : decode md.2.2.1 pc = .ok (.ineg, 1))  (hn : Rc g k cx md (pc + 1) lv (.int (-x) :: st) M o) : Rc g k cx md pc lv (.int x :: st) M o := fun p e s m sa below meth c H locs A ls R n1 n2 b1 b2 Q hC hP hS hl hR hQ => lv_ineg hC.1 hC.2.1 hd (hn p e s m sa below meth c H locs A ls R n1 n2 b1 b2 Q hC hP hS hl hR hQ)
theorem R_idiv {x y : Int32} (hd : decode md.2.2.1 pc = .ok (.idiv, 1)) (h0 : ¬ y = 0) (hn : Rc g k cx md (pc + 1) lv (.int (x / y) :: st) M o) : Rc g k cx md pc lv (.int y :: .int x :: st) M o := fun p e s m sa below meth c H locs A ls R n1 n2 b1 b2 Q hC hP hS hl hR hQ => lv_idiv hC.1 hC.2.1 hd h0 (hn p e s m sa below meth c H locs A ls R n1 n2 b1 b2 Q hC hP hS hl hR hQ)
theorem R_irem {x y : Int32} (hd : decode md.2.2.1 pc = .ok (.irem, 1)) (h0 : ¬ y = 0) (hn : Rc g k cx md (pc + 1) lv (.int (x - x / y * y) :: st) M o) : Rc g k cx md pc lv (.int y :: .int x :: st) M o := fun p e s m sa below meth c H locs A ls R n1 n2 b1 b2 Q hC hP hS hl hR hQ => lv_irem hC.1 hC.2.1 hd h0 (hn p e s m sa below meth c H locs A ls R n1 n2 b1 b2 Q hC hP hS hl hR hQ)
theorem R_ldiv {x y : Int64} (hd : decode md.2.2.1 pc = .ok (.ldiv, 1)) (h0 : ¬ y = 0) (hn : Rc g k cx md (pc + 1) lv (.long (x / y) :: st) M o) : Rc g k cx md pc lv (.long y :: .long x :: st) M o := fun p e s m sa below meth c H locs A ls R n1 n2 b1 b2 Q hC hP hS hl hR hQ => lv_ldiv hC.1 hC.2.1 hd h0 (hn p e s m sa below meth c H locs A ls R n1 n2 b1 b2 Q hC hP hS hl hR hQ)
theorem R_lrem {x y : Int64} (hd : decode md.2.2.1 pc = .ok (.lrem, 1)) (h0 : ¬ y = 0) (hn : Rc g k cx md (pc + 1) lv (.long (x - x / y * y) :: st) M o) : Rc g k cx md pc lv (.long y :: .long x :: st) M o := fun p e s m sa below meth c H locs A ls R n1 n2 b1 b2 Q hC hP hS hl hR hQ => lv_lrem hC.1 hC.2.1 hd h0 (hn p e s m sa below meth c H locs A ls R n1 n2 b1 b2 Q hC hP hS hl hR hQ)
theorem R_ladd {x y : Int64} (hd : decode md.2.2.1 pc = .ok (.ladd, 1))  (hn : Rc g k cx md (pc + 1) lv (.long (x + y) :: st) M o) : Rc g k cx md pc lv (.long y :: .long x :: st) M o := fun p e s m sa below meth c H locs A ls R n1 n2 b1 b2 Q hC hP hS hl hR hQ => lv_ladd hC.1 hC.2.1 hd (hn p e s m sa below meth c H locs A ls R n1 n2 b1 b2 Q hC hP hS hl hR hQ)
theorem R_lsub {x y : Int64} (hd : decode md.2.2.1 pc = .ok (.lsub, 1))  (hn : Rc g k cx md (pc + 1) lv (.long (x - y) :: st) M o) : Rc g k cx md pc lv (.long y :: .long x :: st) M o := fun p e s m sa below meth c H locs A ls R n1 n2 b1 b2 Q hC hP hS hl hR hQ => lv_lsub hC.1 hC.2.1 hd (hn p e s m sa below meth c H locs A ls R n1 n2 b1 b2 Q hC hP hS hl hR hQ)
theorem R_lmul {x y : Int64} (hd : decode md.2.2.1 pc = .ok (.lmul, 1))  (hn : Rc g k cx md (pc + 1) lv (.long (x * y) :: st) M o) : Rc g k cx md pc lv (.long y :: .long x :: st) M o := fun p e s m sa below meth c H locs A ls R n1 n2 b1 b2 Q hC hP hS hl hR hQ => lv_lmul hC.1 hC.2.1 hd (hn p e s m sa below meth c H locs A ls R n1 n2 b1 b2 Q hC hP hS hl hR hQ)
theorem R_land {x y : Int64} (hd : decode md.2.2.1 pc = .ok (.land, 1))  (hn : Rc g k cx md (pc + 1) lv (.long (x &&& y) :: st) M o) : Rc g k cx md pc lv (.long y :: .long x :: st) M o := fun p e s m sa below meth c H locs A ls R n1 n2 b1 b2 Q hC hP hS hl hR hQ => lv_land hC.1 hC.2.1 hd (hn p e s m sa below meth c H locs A ls R n1 n2 b1 b2 Q hC hP hS hl hR hQ)
theorem R_lneg {x : Int64} (hd : decode md.2.2.1 pc = .ok (.lneg, 1))  (hn : Rc g k cx md (pc + 1) lv (.long (-x) :: st) M o) : Rc g k cx md pc lv (.long x :: st) M o := fun p e s m sa below meth c H locs A ls R n1 n2 b1 b2 Q hC hP hS hl hR hQ => lv_lneg hC.1 hC.2.1 hd (hn p e s m sa below meth c H locs A ls R n1 n2 b1 b2 Q hC hP hS hl hR hQ)
theorem R_lcmp {x y : Int64} (hd : decode md.2.2.1 pc = .ok (.lcmp, 1))  (hn : Rc g k cx md (pc + 1) lv (.int (lg_cmp x y) :: st) M o) : Rc g k cx md pc lv (.long y :: .long x :: st) M o := fun p e s m sa below meth c H locs A ls R n1 n2 b1 b2 Q hC hP hS hl hR hQ => W.lcmp hC.1 hC.2.1 hd (hn p e s m sa below meth c H locs A ls R n1 n2 b1 b2 Q hC hP hS hl hR hQ)
theorem R_i2l {x : Int32} (hd : decode md.2.2.1 pc = .ok (.i2l, 1))  (hn : Rc g k cx md (pc + 1) lv (.long x.toInt64 :: st) M o) : Rc g k cx md pc lv (.int x :: st) M o := fun p e s m sa below meth c H locs A ls R n1 n2 b1 b2 Q hC hP hS hl hR hQ => lv_i2l hC.1 hC.2.1 hd rfl (hn p e s m sa below meth c H locs A ls R n1 n2 b1 b2 Q hC hP hS hl hR hQ)
theorem R_i2b {x : Int32} (hd : decode md.2.2.1 pc = .ok (.i2b, 1))  (hn : Rc g k cx md (pc + 1) lv (.int x.toInt8.toInt32 :: st) M o) : Rc g k cx md pc lv (.int x :: st) M o := fun p e s m sa below meth c H locs A ls R n1 n2 b1 b2 Q hC hP hS hl hR hQ => lv_i2b hC.1 hC.2.1 hd rfl (hn p e s m sa below meth c H locs A ls R n1 n2 b1 b2 Q hC hP hS hl hR hQ)
theorem R_dup {w : Value} (hd : decode md.2.2.1 pc = .ok (.dup, 1)) (hw : w.category = 1) (hn : Rc g k cx md (pc + 1) lv (w :: w :: st) M o) : Rc g k cx md pc lv (w :: st) M o := fun p e s m sa below meth c H locs A ls R n1 n2 b1 b2 Q hC hP hS hl hR hQ => lv_dup hC.1 hC.2.1 hd (by rw [cv_cat]; exact hw) (hn p e s m sa below meth c H locs A ls R n1 n2 b1 b2 Q hC hP hS hl hR hQ)
theorem R_dup2 {w z : Value} (hd : decode md.2.2.1 pc = .ok (.dup2, 1)) (hw : w.category = 1) (hz : z.category = 1) (hn : Rc g k cx md (pc + 1) lv (w :: z :: w :: z :: st) M o) : Rc g k cx md pc lv (w :: z :: st) M o := fun p e s m sa below meth c H locs A ls R n1 n2 b1 b2 Q hC hP hS hl hR hQ => lv_dup2_11 hC.1 hC.2.1 hd (by rw [cv_cat]; exact hw) (by rw [cv_cat]; exact hz) (hn p e s m sa below meth c H locs A ls R n1 n2 b1 b2 Q hC hP hS hl hR hQ)
theorem R_iload_n {n : Fin 4} {x : Int32} (hd : decode md.2.2.1 pc = .ok (.iload_n n, 1)) (h : lv[n.val]? = some (some (.int x))) (hn : Rc g k cx md (pc + 1) lv (.int x :: st) M o) : Rc g k cx md pc lv st M o := fun p e s m sa below meth c H locs A ls R n1 n2 b1 b2 Q hC hP hS hl hR hQ => lv_iload_n hC.1 hC.2.1 hd rfl (hl.2.2 _ _ h) (hn p e s m sa below meth c H locs A ls R n1 n2 b1 b2 Q hC hP hS hl hR hQ)
theorem R_iload {n : Nat} {x : Int32} (hd : decode md.2.2.1 pc = .ok (.iload n, 2)) (h : lv[n]? = some (some (.int x))) (hn : Rc g k cx md (pc + 2) lv (.int x :: st) M o) : Rc g k cx md pc lv st M o := fun p e s m sa below meth c H locs A ls R n1 n2 b1 b2 Q hC hP hS hl hR hQ => lv_iload hC.1 hC.2.1 hd (hl.2.2 _ _ h) (hn p e s m sa below meth c H locs A ls R n1 n2 b1 b2 Q hC hP hS hl hR hQ)
theorem R_lload_n {n : Fin 4} {x : Int64} (hd : decode md.2.2.1 pc = .ok (.lload_n n, 1)) (h : lv[n.val]? = some (some (.long x))) (hn : Rc g k cx md (pc + 1) lv (.long x :: st) M o) : Rc g k cx md pc lv st M o := fun p e s m sa below meth c H locs A ls R n1 n2 b1 b2 Q hC hP hS hl hR hQ => lv_lload_n hC.1 hC.2.1 hd rfl (hl.2.2 _ _ h) (hn p e s m sa below meth c H locs A ls R n1 n2 b1 b2 Q hC hP hS hl hR hQ)
theorem R_lload {n : Nat} {x : Int64} (hd : decode md.2.2.1 pc = .ok (.lload n, 2)) (h : lv[n]? = some (some (.long x))) (hn : Rc g k cx md (pc + 2) lv (.long x :: st) M o) : Rc g k cx md pc lv st M o := fun p e s m sa below meth c H locs A ls R n1 n2 b1 b2 Q hC hP hS hl hR hQ => lv_lload hC.1 hC.2.1 hd (hl.2.2 _ _ h) (hn p e s m sa below meth c H locs A ls R n1 n2 b1 b2 Q hC hP hS hl hR hQ)
theorem R_aload_n {n : Fin 4} {x : Nat} (hd : decode md.2.2.1 pc = .ok (.aload_n n, 1)) (h : lv[n.val]? = some (some (.ref x))) (hn : Rc g k cx md (pc + 1) lv (.ref x :: st) M o) : Rc g k cx md pc lv st M o := fun p e s m sa below meth c H locs A ls R n1 n2 b1 b2 Q hC hP hS hl hR hQ => lv_aload_n hC.1 hC.2.1 hd rfl (hl.2.2 _ _ h) (hn p e s m sa below meth c H locs A ls R n1 n2 b1 b2 Q hC hP hS hl hR hQ)
theorem R_aload {n : Nat} {x : Nat} (hd : decode md.2.2.1 pc = .ok (.aload n, 2)) (h : lv[n]? = some (some (.ref x))) (hn : Rc g k cx md (pc + 2) lv (.ref x :: st) M o) : Rc g k cx md pc lv st M o := fun p e s m sa below meth c H locs A ls R n1 n2 b1 b2 Q hC hP hS hl hR hQ => lv_aload hC.1 hC.2.1 hd (hl.2.2 _ _ h) (hn p e s m sa below meth c H locs A ls R n1 n2 b1 b2 Q hC hP hS hl hR hQ)
end RI
def asc (g : Gl) (lv : List (Option Value)) : List (Nat × Value) := (List.range lv.length).filterMap (fun i => match lv[i]? with
  | some (some v) => some (i, cv g.2.2.2 v)
  | _ => none)
theorem asc_mem {g : Gl} {lv : List (Option Value)} {i : Nat} {v : Value} (h : lv[i]? = some (some v)) : (i, cv g.2.2.2 v) ∈ asc g lv := by
  refine List.mem_filterMap.mpr ⟨i, List.mem_range.mpr (List.getElem?_eq_some_iff.mp h).1, ?_⟩
  rw [h]
theorem asc_has {g : Gl} {n : Nat} {ls : Array Slot} {lv : List (Option Value)} (h : lvh g n ls lv) : lv_has ls n (asc g lv) := by
  refine ⟨h.1, h.2.1, fun q hq => ?_⟩
  obtain ⟨i, -, hi⟩ := List.mem_filterMap.mp hq
  split at hi
  · rename_i v hv
    cases hi
    exact h.2.2 _ _ hv
  · cases hi
def kil (lv : List (Option Value)) : Nat → List (Option Value)
  | 0 => lv
  | j + 1 => match lv[j]? with
    | some (some (.long _)) => lv.set j none
    | some (some (.double _)) => lv.set j none
    | _ => lv
theorem kil_get {lv : List (Option Value)} {i j : Nat} {v : Value} (h : (kil lv i)[j]? = some (some v)) : lv[j]? = some (some v) ∧ ¬ (j + 1 = i ∧ v.category = 2) := by
  cases i with
  | zero => exact ⟨h, fun q => by omega⟩
  | succ i =>
    simp only [kil] at h
    split at h
    · rename_i y hy
      by_cases e : j = i
      · subst e
        rw [List.getElem?_set_self (List.getElem?_eq_some_iff.mp hy).1] at h
        cases h
      · rw [List.getElem?_set_ne (Ne.symm e)] at h
        exact ⟨h, fun q => e (by omega)⟩
    · rename_i y hy
      by_cases e : j = i
      · subst e
        rw [List.getElem?_set_self (List.getElem?_eq_some_iff.mp hy).1] at h
        cases h
      · rw [List.getElem?_set_ne (Ne.symm e)] at h
        exact ⟨h, fun q => e (by omega)⟩
    · rename_i h1 h2
      refine ⟨h, fun q => ?_⟩
      have e : j = i := by omega
      subst e
      cases v with
      | long y => exact h1 y h
      | double y => exact h2 y h
      | _ => exact absurd q.2 (by simp [Value.category])
theorem sto1_lvh {g : Gl} {n : Nat} {ls' : Array Slot} {lv : List (Option Value)} {i : Nat} {w : Value} (h : lv_has ls' n ((i, cv g.2.2.2 w) :: (asc g lv).filter (fun q => !(q.1 == i) && !(q.1 + 1 == i && q.2.category == 2)))) : lvh g n ls' ((kil lv i).set i (some w)) := by
  refine ⟨h.1, h.2.1, fun j u hj => ?_⟩
  by_cases e : j = i
  · subst e
    have hlt : j < (kil lv j).length := by
      have := (List.getElem?_eq_some_iff.mp hj).1
      simpa using this
    rw [List.getElem?_set_self hlt] at hj
    cases hj
    exact h.2.2 _ List.mem_cons_self
  · rw [List.getElem?_set_ne (Ne.symm e)] at hj
    obtain ⟨h1, h2⟩ := kil_get hj
    refine h.2.2 (j, cv g.2.2.2 u) (List.mem_cons_of_mem _ (List.mem_filter.mpr ⟨asc_mem h1, ?_⟩))
    simp only [cv_cat, Bool.and_eq_true, Bool.not_eq_true', beq_eq_false_iff_ne, Bool.and_eq_false_iff]
    refine ⟨e, ?_⟩
    by_cases q : j + 1 = i
    · exact Or.inr (fun z => h2 ⟨q, z⟩)
    · exact Or.inl q
theorem sto2_lvh {g : Gl} {n : Nat} {ls' : Array Slot} {lv : List (Option Value)} {i : Nat} {w : Value} (h : lv_has ls' n ((i, cv g.2.2.2 w) :: (asc g lv).filter (fun q => !(q.1 == i) && (!(q.1 == i + 1) && !(q.1 + 1 == i && q.2.category == 2))))) : lvh g n ls' (((kil lv i).set i (some w)).set (i + 1) none) := by
  refine ⟨h.1, h.2.1, fun j u hj => ?_⟩
  by_cases e1 : j = i + 1
  · subst e1
    have hlt : i + 1 < ((kil lv i).set i (some w)).length := by
      have := (List.getElem?_eq_some_iff.mp hj).1
      simpa using this
    rw [List.getElem?_set_self hlt] at hj
    cases hj
  rw [List.getElem?_set_ne (Ne.symm e1)] at hj
  by_cases e : j = i
  · subst e
    have hlt : j < (kil lv j).length := by
      have := (List.getElem?_eq_some_iff.mp hj).1
      simpa using this
    rw [List.getElem?_set_self hlt] at hj
    cases hj
    exact h.2.2 _ List.mem_cons_self
  · rw [List.getElem?_set_ne (Ne.symm e)] at hj
    obtain ⟨h1, h2⟩ := kil_get hj
    refine h.2.2 (j, cv g.2.2.2 u) (List.mem_cons_of_mem _ (List.mem_filter.mpr ⟨asc_mem h1, ?_⟩))
    simp only [cv_cat, Bool.and_eq_true, Bool.not_eq_true', beq_eq_false_iff_ne, Bool.and_eq_false_iff]
    refine ⟨e, e1, ?_⟩
    by_cases q : j + 1 = i
    · exact Or.inr (fun z => h2 ⟨q, z⟩)
    · exact Or.inl q
section RS
variable {g : Gl} {k : Nat} {md : MD} {pc : Nat} {lv : List (Option Value)} {st : List Value} {M : Mem} {o : Oc} {cx : Nat}
theorem R_istore_n {n : Fin 4} {x : Int32} (hd : decode md.2.2.1 pc = .ok (.istore_n n, 1)) (h : n.val < md.2.2.2.1) (hn : Rc g k cx md (pc + 1) ((kil lv n.val).set n.val (some (.int x))) st M o) : Rc g k cx md pc lv (.int x :: st) M o := fun p e s m sa below meth c H locs A ls R n1 n2 b1 b2 Q hC hP hS hl hR hQ => lv_istore_n hC.1 hC.2.1 hd rfl (asc_has hl) h rfl (fun ls hl => hn p e s m sa below meth c H locs A ls R n1 n2 b1 b2 Q hC hP hS (sto1_lvh hl) hR hQ)
theorem R_istore {n : Nat} {x : Int32} (hd : decode md.2.2.1 pc = .ok (.istore n, 2)) (h : n < md.2.2.2.1) (hn : Rc g k cx md (pc + 2) ((kil lv n).set n (some (.int x))) st M o) : Rc g k cx md pc lv (.int x :: st) M o := fun p e s m sa below meth c H locs A ls R n1 n2 b1 b2 Q hC hP hS hl hR hQ => lv_istore hC.1 hC.2.1 hd (asc_has hl) h rfl (fun ls hl => hn p e s m sa below meth c H locs A ls R n1 n2 b1 b2 Q hC hP hS (sto1_lvh hl) hR hQ)
theorem R_astore_n {n : Fin 4} {x : Nat} (hd : decode md.2.2.1 pc = .ok (.astore_n n, 1)) (h : n.val < md.2.2.2.1) (hn : Rc g k cx md (pc + 1) ((kil lv n.val).set n.val (some (.ref x))) st M o) : Rc g k cx md pc lv (.ref x :: st) M o := fun p e s m sa below meth c H locs A ls R n1 n2 b1 b2 Q hC hP hS hl hR hQ => lv_astore_n hC.1 hC.2.1 hd rfl (asc_has hl) h rfl (fun ls hl => hn p e s m sa below meth c H locs A ls R n1 n2 b1 b2 Q hC hP hS (sto1_lvh hl) hR hQ)
theorem R_astore {n : Nat} {x : Nat} (hd : decode md.2.2.1 pc = .ok (.astore n, 2)) (h : n < md.2.2.2.1) (hn : Rc g k cx md (pc + 2) ((kil lv n).set n (some (.ref x))) st M o) : Rc g k cx md pc lv (.ref x :: st) M o := fun p e s m sa below meth c H locs A ls R n1 n2 b1 b2 Q hC hP hS hl hR hQ => lv_astore hC.1 hC.2.1 hd (asc_has hl) h rfl (fun ls hl => hn p e s m sa below meth c H locs A ls R n1 n2 b1 b2 Q hC hP hS (sto1_lvh hl) hR hQ)
theorem R_lstore_n {n : Fin 4} {x : Int64} (hd : decode md.2.2.1 pc = .ok (.lstore_n n, 1)) (h : n.val + 1 < md.2.2.2.1) (hn : Rc g k cx md (pc + 1) (((kil lv n.val).set n.val (some (.long x))).set (n.val + 1) none) st M o) : Rc g k cx md pc lv (.long x :: st) M o := fun p e s m sa below meth c H locs A ls R n1 n2 b1 b2 Q hC hP hS hl hR hQ => lv_lstore_n hC.1 hC.2.1 hd rfl (asc_has hl) h rfl (fun ls hl => hn p e s m sa below meth c H locs A ls R n1 n2 b1 b2 Q hC hP hS (sto2_lvh hl) hR hQ)
theorem R_lstore {n : Nat} {x : Int64} (hd : decode md.2.2.1 pc = .ok (.lstore n, 2)) (h : n + 1 < md.2.2.2.1) (hn : Rc g k cx md (pc + 2) (((kil lv n).set n (some (.long x))).set (n + 1) none) st M o) : Rc g k cx md pc lv (.long x :: st) M o := fun p e s m sa below meth c H locs A ls R n1 n2 b1 b2 Q hC hP hS hl hR hQ => lv_lstore hC.1 hC.2.1 hd (asc_has hl) h rfl (fun ls hl => hn p e s m sa below meth c H locs A ls R n1 n2 b1 b2 Q hC hP hS (sto2_lvh hl) hR hQ)
theorem R_iinc {i : Nat} {n : Int} {x : Int32} (hd : decode md.2.2.1 pc = .ok (.iinc i n, 3)) (hi : lv[i]? = some (some (.int x))) (h : i < md.2.2.2.1) (hn : Rc g k cx md (pc + 3) ((kil lv i).set i (some (.int (x + Int32.ofInt n)))) st M o) : Rc g k cx md pc lv st M o := by
  intro p e s m sa below meth c H locs A ls R n1 n2 b1 b2 Q hC hP hS hl hR hQ
  obtain ⟨q, hq⟩ := List.getElem?_of_mem (asc_mem (g := g) hi)
  exact lv_iinc hC.1 hC.2.1 hd (asc_has hl) hq rfl h rfl (fun ls hl => hn p e s m sa below meth c H locs A ls R n1 n2 b1 b2 Q hC hP hS (sto1_lvh hl) hR hQ)
theorem icOK {o i : Nat} {x : Int32} {w : Nat} (ho : o < 17) (h : lk (icT o) i = some (x, w)) : Cond.constant (ownN o) i x ∈ WD := by
  have h1 := List.all_eq_true.mp (icT_ok o ho) _ (lk_mem h)
  simp only [Bool.and_eq_true, decide_eq_true_eq] at h1
  exact inW h1.1 h1.2
theorem lcOK {o i : Nat} {x : Int64} {w : Nat} (ho : o < 17) (h : lk (lcT o) i = some (x, w)) : Cond.constantLong (ownN o) i x ∈ WD := by
  have h1 := List.all_eq_true.mp (lcT_ok o ho) _ (lk_mem h)
  simp only [Bool.and_eq_true, decide_eq_true_eq] at h1
  exact inW h1.1 h1.2
theorem R_ldc {i : Nat} {x : Int32} (hd : decode md.2.2.1 pc = .ok (.ldc i, 2)) (h : Cond.constant (ownN md.1) i x ∈ WD) (hn : Rc g k cx md (pc + 2) lv (.int x :: st) M o) : Rc g k cx md pc lv st M o := fun p e s m sa below meth c H locs A ls R n1 n2 b1 b2 Q hC hP hS hl hR hQ => lv_ldc hC.1 hC.2.1 hC.2.2.2.2.1 (hC.2.2.2.2.2.1 _ h) hd (hn p e s m sa below meth c H locs A ls R n1 n2 b1 b2 Q hC hP hS hl hR hQ)
theorem R_ldcw {i : Nat} {x : Int32} (hd : decode md.2.2.1 pc = .ok (.ldc_w i, 3)) (h : Cond.constant (ownN md.1) i x ∈ WD) (hn : Rc g k cx md (pc + 3) lv (.int x :: st) M o) : Rc g k cx md pc lv st M o := fun p e s m sa below meth c H locs A ls R n1 n2 b1 b2 Q hC hP hS hl hR hQ => lv_ldcw hC.1 hC.2.1 hC.2.2.2.2.1 (hC.2.2.2.2.2.1 _ h) hd (hn p e s m sa below meth c H locs A ls R n1 n2 b1 b2 Q hC hP hS hl hR hQ)
theorem R_ldc2 {i : Nat} {x : Int64} (hd : decode md.2.2.1 pc = .ok (.ldc2_w i, 3)) (h : Cond.constantLong (ownN md.1) i x ∈ WD) (hn : Rc g k cx md (pc + 3) lv (.long x :: st) M o) : Rc g k cx md pc lv st M o := fun p e s m sa below meth c H locs A ls R n1 n2 b1 b2 Q hC hP hS hl hR hQ => lv_ldc2 hC.1 hC.2.1 hC.2.2.2.2.1 (hC.2.2.2.2.2.1 _ h) hd (hn p e s m sa below meth c H locs A ls R n1 n2 b1 b2 Q hC hP hS hl hR hQ)
/-- every cell that is named lies in the world -/
def inN (c : Nat) : Prop := c < NC
end RS
