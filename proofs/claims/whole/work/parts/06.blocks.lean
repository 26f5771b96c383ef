/-! BLOCKS: straight instructions by computing -/
abbrev AS : Type := List (Option Value) × List Value × Mem
abbrev SR : Type := Option (AS × Option Prop)
def psh (w : Value) (a : AS) : SR := some ((a.1, w :: a.2.1, a.2.2), none)
def lodI (i : Nat) (a : AS) : SR := match a.1[i]? with
  | some (some (.int x)) => some ((a.1, .int x :: a.2.1, a.2.2), none)
  | _ => none
def lodL (i : Nat) (a : AS) : SR := match a.1[i]? with
  | some (some (.long x)) => some ((a.1, .long x :: a.2.1, a.2.2), none)
  | _ => none
def lodA (i : Nat) (a : AS) : SR := match a.1[i]? with
  | some (some (.ref x)) => some ((a.1, .ref x :: a.2.1, a.2.2), none)
  | _ => none
def stoI (nL i : Nat) (a : AS) : SR := match a.2.1 with
  | .int x :: st => bif Nat.blt i nL then some (((kil a.1 i).set i (some (.int x)), st, a.2.2), none) else none
  | _ => none
def stoA (nL i : Nat) (a : AS) : SR := match a.2.1 with
  | .ref x :: st => bif Nat.blt i nL then some (((kil a.1 i).set i (some (.ref x)), st, a.2.2), none) else none
  | _ => none
def stoL (nL i : Nat) (a : AS) : SR := match a.2.1 with
  | .long x :: st => bif Nat.blt (i + 1) nL then some ((((kil a.1 i).set i (some (.long x))).set (i + 1) none, st, a.2.2), none) else none
  | _ => none
def bnI (f : Int32 → Int32 → Int32) (a : AS) : SR := match a.2.1 with
  | .int y :: .int x :: st => some ((a.1, .int (f x y) :: st, a.2.2), none)
  | _ => none
def bnD (f : Int32 → Int32 → Int32) (a : AS) : SR := match a.2.1 with
  | .int y :: .int x :: st => some ((a.1, .int (f x y) :: st, a.2.2), some (¬ y = 0))
  | _ => none
def bnL (f : Int64 → Int64 → Int64) (a : AS) : SR := match a.2.1 with
  | .long y :: .long x :: st => some ((a.1, .long (f x y) :: st, a.2.2), none)
  | _ => none
def bnE (f : Int64 → Int64 → Int64) (a : AS) : SR := match a.2.1 with
  | .long y :: .long x :: st => some ((a.1, .long (f x y) :: st, a.2.2), some (¬ y = 0))
  | _ => none
def gtf (ci j : Nat) (a : AS) : SR := match a.2.1 with
  | .ref c :: st => some ((a.1, (bif frq ci j then .ref (rf c j) else .int (rd a.2.2 c j)) :: st, a.2.2), some (oF c ci))
  | _ => none
def ptf (ci j : Nat) (a : AS) : SR := match a.2.1 with
  | .int x :: .ref c :: st => bif frq ci j then none else some ((a.1, st, wr a.2.2 c j x), some (oF c ci))
  | _ => none
def stp (o nL : Nat) (i : Instr) (a : AS) : SR := match i with
  | .iconst n => psh (.int (Int32.ofInt n)) a
  | .bipush n => psh (.int (Int8.ofInt n).toInt32) a
  | .sipush n => psh (.int (Int16.ofInt n).toInt32) a
  | .lconst n => psh (.long (Int64.ofNat (n : Nat))) a
  | .ldc j => match lk (icT o) j with
    | some (x, _) => psh (.int x) a
    | none => none
  | .ldc_w j => match lk (icT o) j with
    | some (x, _) => psh (.int x) a
    | none => none
  | .ldc2_w j => match lk (lcT o) j with
    | some (x, _) => psh (.long x) a
    | none => none
  | .iload n => lodI n a
  | .iload_n n => lodI n.val a
  | .lload n => lodL n a
  | .lload_n n => lodL n.val a
  | .aload n => lodA n a
  | .aload_n n => lodA n.val a
  | .istore n => stoI nL n a
  | .istore_n n => stoI nL n.val a
  | .lstore n => stoL nL n a
  | .lstore_n n => stoL nL n.val a
  | .astore n => stoA nL n a
  | .astore_n n => stoA nL n.val a
  | .iinc j n => match a.1[j]? with
    | some (some (.int x)) => bif Nat.blt j nL then some (((kil a.1 j).set j (some (.int (x + Int32.ofInt n))), a.2.1, a.2.2), none) else none
    | _ => none
  | .iadd => bnI (fun x y => x + y) a
  | .isub => bnI (fun x y => x - y) a
  | .imul => bnI (fun x y => x * y) a
  | .iand => bnI (fun x y => x &&& y) a
  | .ior => bnI (fun x y => x ||| y) a
  | .ixor => bnI (fun x y => x ^^^ y) a
  | .ishl => bnI (fun x y => x <<< (y &&& 31)) a
  | .ishr => bnI (fun x y => x >>> (y &&& 31)) a
  | .iushr => bnI (fun x y => (x.toUInt32 >>> (y.toUInt32 &&& Int32.toUInt32 31)).toInt32) a
  | .idiv => bnD (fun x y => x / y) a
  | .irem => bnD (fun x y => x - x / y * y) a
  | .ineg => match a.2.1 with
    | .int x :: st => some ((a.1, .int (-x) :: st, a.2.2), none)
    | _ => none
  | .ldiv => bnE (fun x y => x / y) a
  | .lrem => bnE (fun x y => x - x / y * y) a
  | .lmul => bnL (fun x y => x * y) a
  | .land => bnL (fun x y => x &&& y) a
  | .lneg => match a.2.1 with
    | .long x :: st => some ((a.1, .long (-x) :: st, a.2.2), none)
    | _ => none
  | .lcmp => match a.2.1 with
    | .long y :: .long x :: st => some ((a.1, .int (lg_cmp x y) :: st, a.2.2), none)
    | _ => none
  | .i2l => match a.2.1 with
    | .int x :: st => some ((a.1, .long x.toInt64 :: st, a.2.2), none)
    | _ => none
  | .i2b => match a.2.1 with
    | .int x :: st => some ((a.1, .int x.toInt8.toInt32 :: st, a.2.2), none)
    | _ => none
  | .dup => match a.2.1 with
    | .int x :: st => some ((a.1, .int x :: .int x :: st, a.2.2), none)
    | .ref x :: st => some ((a.1, .ref x :: .ref x :: st, a.2.2), none)
    | _ => none
  | .dup2 => match a.2.1 with
    | .int x :: .ref y :: st => some ((a.1, .int x :: .ref y :: .int x :: .ref y :: st, a.2.2), none)
    | .int x :: .int y :: st => some ((a.1, .int x :: .int y :: .int x :: .int y :: st, a.2.2), none)
    | _ => none
  | .getfield j => match lk (flT o) j with
    | some (ci, f, _) => gtf ci f a
    | none => none
  | .putfield j => match lk (flT o) j with
    | some (ci, f, _) => ptf ci f a
    | none => none
  | .iaload => match a.2.1 with
    | .int i :: .ref c :: st => some ((a.1, .int (rd a.2.2 c i.toNatClampNeg) :: st, a.2.2), some (oA 1 c i))
    | _ => none
  | .laload => match a.2.1 with
    | .int i :: .ref c :: st => some ((a.1, .long (rl a.2.2 c i.toNatClampNeg) :: st, a.2.2), some (oA 4 c i))
    | _ => none
  | .baload => match a.2.1 with
    | .int i :: .ref c :: st => some ((a.1, .int (rd a.2.2 c i.toNatClampNeg) :: st, a.2.2), some (oA (bif Nat.beq (kd c).1 3 then 3 else 2) c i))
    | _ => none
  | .aaload => match a.2.1 with
    | .int i :: .ref c :: st => some ((a.1, .ref (rf c i.toNatClampNeg) :: st, a.2.2), some (oA 5 c i ∨ oA 6 c i ∨ oA 7 c i))
    | _ => none
  | .iastore => match a.2.1 with
    | .int x :: .int i :: .ref c :: st => some ((a.1, st, wr a.2.2 c i.toNatClampNeg x), some (oA 1 c i))
    | _ => none
  | .lastore => match a.2.1 with
    | .long x :: .int i :: .ref c :: st => some ((a.1, st, wl a.2.2 c i.toNatClampNeg x), some (oA 4 c i))
    | _ => none
  | _ => none
def ilen : Instr → Nat
  | .bipush _ => 2
  | .sipush _ => 3
  | .ldc _ => 2
  | .ldc_w _ => 3
  | .ldc2_w _ => 3
  | .iload _ => 2
  | .lload _ => 2
  | .aload _ => 2
  | .istore _ => 2
  | .lstore _ => 2
  | .astore _ => 2
  | .iinc _ _ => 3
  | .getfield _ => 3
  | .putfield _ => 3
  | _ => 1
def segOK (b : ByteArray) : Nat → List Instr → Bool
  | _, [] => true
  | pc, i :: r => decide (decode b pc = .ok (i, ilen i)) && segOK b (pc + ilen i) r
def segL : List Instr → Nat
  | [] => 0
  | i :: r => ilen i + segL r
def blk (o nL : Nat) : List Instr → AS → Option (AS × Prop)
  | [], a => some (a, True)
  | i :: r, a => match stp o nL i a with
    | none => none
    | some (a1, none) => blk o nL r a1
    | some (a1, some P) => match blk o nL r a1 with
      | none => none
      | some (a2, Q) => some (a2, P ∧ Q)
theorem bltT {i n : Nat} (h : Nat.blt i n = true) : i < n := by
  exact Nat.le_of_ble_eq_true h
section SO
variable {g : Gl} {k : Nat} {md : MD} {pc : Nat} {o : Oc} {cx : Nat}

theorem s_psh {w : Value} {a a' : AS} {P : Option Prop} {n : Nat} (h : psh w a = some (a', P)) (hR : ∀ {lv : List (Option Value)} {st : List Value} {M : Mem}, Rc g k cx md (pc + n) lv (w :: st) M o → Rc g k cx md pc lv st M o) (hn : Rc g k cx md (pc + n) a'.1 a'.2.1 a'.2.2 o) : Rc g k cx md pc a.1 a.2.1 a.2.2 o := by
  cases h
  exact hR hn
theorem s_lodI {i : Nat} {a a' : AS} {P : Option Prop} {n : Nat} (h : lodI i a = some (a', P)) (hR : ∀ {lv : List (Option Value)} {st : List Value} {M : Mem} {x : Int32}, lv[i]? = some (some (.int x)) → Rc g k cx md (pc + n) lv (.int x :: st) M o → Rc g k cx md pc lv st M o) (hn : Rc g k cx md (pc + n) a'.1 a'.2.1 a'.2.2 o) : Rc g k cx md pc a.1 a.2.1 a.2.2 o := by
  unfold lodI at h
  split at h
  · rename_i x hx
    cases h
    exact hR hx hn
  · cases h
theorem s_lodL {i : Nat} {a a' : AS} {P : Option Prop} {n : Nat} (h : lodL i a = some (a', P)) (hR : ∀ {lv : List (Option Value)} {st : List Value} {M : Mem} {x : Int64}, lv[i]? = some (some (.long x)) → Rc g k cx md (pc + n) lv (.long x :: st) M o → Rc g k cx md pc lv st M o) (hn : Rc g k cx md (pc + n) a'.1 a'.2.1 a'.2.2 o) : Rc g k cx md pc a.1 a.2.1 a.2.2 o := by
  unfold lodL at h
  split at h
  · rename_i x hx
    cases h
    exact hR hx hn
  · cases h
theorem s_lodA {i : Nat} {a a' : AS} {P : Option Prop} {n : Nat} (h : lodA i a = some (a', P)) (hR : ∀ {lv : List (Option Value)} {st : List Value} {M : Mem} {x : Nat}, lv[i]? = some (some (.ref x)) → Rc g k cx md (pc + n) lv (.ref x :: st) M o → Rc g k cx md pc lv st M o) (hn : Rc g k cx md (pc + n) a'.1 a'.2.1 a'.2.2 o) : Rc g k cx md pc a.1 a.2.1 a.2.2 o := by
  unfold lodA at h
  split at h
  · rename_i x hx
    cases h
    exact hR hx hn
  · cases h
theorem s_stoI {nL i : Nat} {a a' : AS} {P : Option Prop} {n : Nat} (h : stoI nL i a = some (a', P)) (hR : ∀ {lv : List (Option Value)} {st : List Value} {M : Mem} {x : Int32}, i < nL → Rc g k cx md (pc + n) ((kil lv i).set i (some (.int x))) st M o → Rc g k cx md pc lv (.int x :: st) M o) (hn : Rc g k cx md (pc + n) a'.1 a'.2.1 a'.2.2 o) : Rc g k cx md pc a.1 a.2.1 a.2.2 o := by
  obtain ⟨lv, st, M⟩ := a
  unfold stoI at h
  split at h
  · rename_i x st' hx
    cases hb : Nat.blt i nL with
    | false => rw [hb] at h; cases h
    | true =>
      rw [hb] at h
      cases h
      dsimp only at hx ⊢
      subst hx
      exact hR (bltT hb) hn
  · cases h
theorem s_stoA {nL i : Nat} {a a' : AS} {P : Option Prop} {n : Nat} (h : stoA nL i a = some (a', P)) (hR : ∀ {lv : List (Option Value)} {st : List Value} {M : Mem} {x : Nat}, i < nL → Rc g k cx md (pc + n) ((kil lv i).set i (some (.ref x))) st M o → Rc g k cx md pc lv (.ref x :: st) M o) (hn : Rc g k cx md (pc + n) a'.1 a'.2.1 a'.2.2 o) : Rc g k cx md pc a.1 a.2.1 a.2.2 o := by
  obtain ⟨lv, st, M⟩ := a
  unfold stoA at h
  split at h
  · rename_i x st' hx
    cases hb : Nat.blt i nL with
    | false => rw [hb] at h; cases h
    | true =>
      rw [hb] at h
      cases h
      dsimp only at hx ⊢
      subst hx
      exact hR (bltT hb) hn
  · cases h
theorem s_stoL {nL i : Nat} {a a' : AS} {P : Option Prop} {n : Nat} (h : stoL nL i a = some (a', P)) (hR : ∀ {lv : List (Option Value)} {st : List Value} {M : Mem} {x : Int64}, i + 1 < nL → Rc g k cx md (pc + n) (((kil lv i).set i (some (.long x))).set (i + 1) none) st M o → Rc g k cx md pc lv (.long x :: st) M o) (hn : Rc g k cx md (pc + n) a'.1 a'.2.1 a'.2.2 o) : Rc g k cx md pc a.1 a.2.1 a.2.2 o := by
  obtain ⟨lv, st, M⟩ := a
  unfold stoL at h
  split at h
  · rename_i x st' hx
    cases hb : Nat.blt (i + 1) nL with
    | false => rw [hb] at h; cases h
    | true =>
      rw [hb] at h
      cases h
      dsimp only at hx ⊢
      subst hx
      exact hR (bltT hb) hn
  · cases h
theorem s_bnI {f : Int32 → Int32 → Int32} {a a' : AS} {P : Option Prop} (h : bnI f a = some (a', P)) (hP : ∀ Q, P = some Q → Q) (hR : ∀ {lv : List (Option Value)} {st : List Value} {M : Mem} {x y : Int32}, Rc g k cx md (pc + 1) lv (.int (f x y) :: st) M o → Rc g k cx md pc lv (.int y :: .int x :: st) M o) (hn : Rc g k cx md (pc + 1) a'.1 a'.2.1 a'.2.2 o) : Rc g k cx md pc a.1 a.2.1 a.2.2 o := by
  obtain ⟨lv, st, M⟩ := a
  unfold bnI at h
  split at h
  · rename_i y x st' hx
    cases h
    dsimp only at hx ⊢
    subst hx
    exact hR hn
  · cases h
theorem s_bnD {f : Int32 → Int32 → Int32} {a a' : AS} {P : Option Prop} (h : bnD f a = some (a', P)) (hP : ∀ Q, P = some Q → Q) (hR : ∀ {lv : List (Option Value)} {st : List Value} {M : Mem} {x y : Int32}, ¬ y = 0 → Rc g k cx md (pc + 1) lv (.int (f x y) :: st) M o → Rc g k cx md pc lv (.int y :: .int x :: st) M o) (hn : Rc g k cx md (pc + 1) a'.1 a'.2.1 a'.2.2 o) : Rc g k cx md pc a.1 a.2.1 a.2.2 o := by
  obtain ⟨lv, st, M⟩ := a
  unfold bnD at h
  split at h
  · rename_i y x st' hx
    cases h
    dsimp only at hx ⊢
    subst hx
    exact hR (hP _ rfl) hn
  · cases h
theorem s_bnL {f : Int64 → Int64 → Int64} {a a' : AS} {P : Option Prop} (h : bnL f a = some (a', P)) (hP : ∀ Q, P = some Q → Q) (hR : ∀ {lv : List (Option Value)} {st : List Value} {M : Mem} {x y : Int64}, Rc g k cx md (pc + 1) lv (.long (f x y) :: st) M o → Rc g k cx md pc lv (.long y :: .long x :: st) M o) (hn : Rc g k cx md (pc + 1) a'.1 a'.2.1 a'.2.2 o) : Rc g k cx md pc a.1 a.2.1 a.2.2 o := by
  obtain ⟨lv, st, M⟩ := a
  unfold bnL at h
  split at h
  · rename_i y x st' hx
    cases h
    dsimp only at hx ⊢
    subst hx
    exact hR hn
  · cases h
theorem s_bnE {f : Int64 → Int64 → Int64} {a a' : AS} {P : Option Prop} (h : bnE f a = some (a', P)) (hP : ∀ Q, P = some Q → Q) (hR : ∀ {lv : List (Option Value)} {st : List Value} {M : Mem} {x y : Int64}, ¬ y = 0 → Rc g k cx md (pc + 1) lv (.long (f x y) :: st) M o → Rc g k cx md pc lv (.long y :: .long x :: st) M o) (hn : Rc g k cx md (pc + 1) a'.1 a'.2.1 a'.2.2 o) : Rc g k cx md pc a.1 a.2.1 a.2.2 o := by
  obtain ⟨lv, st, M⟩ := a
  unfold bnE at h
  split at h
  · rename_i y x st' hx
    cases h
    dsimp only at hx ⊢
    subst hx
    exact hR (hP _ rfl) hn
  · cases h
theorem stp_ok {i : Instr} {a a' : AS} {P : Option Prop} (ho : md.1 < 17) (hd : decode md.2.2.1 pc = .ok (i, ilen i)) (h : stp md.1 md.2.2.2.1 i a = some (a', P)) (hP : ∀ Q, P = some Q → Q) (hn : Rc g k cx md (pc + ilen i) a'.1 a'.2.1 a'.2.2 o) : Rc g k cx md pc a.1 a.2.1 a.2.2 o := by
  unfold stp at h
  split at h
  · exact s_psh (n := 1) h (R_iconst hd) hn
  · exact s_psh (n := 2) h (R_bipush hd) hn
  · exact s_psh (n := 3) h (R_sipush hd) hn
  · exact s_psh (n := 1) h (R_lconst hd) hn
  · split at h
    · rename_i x w hx
      exact s_psh (n := 2) h (R_ldc hd (icOK ho hx)) hn
    · cases h
  · split at h
    · rename_i x w hx
      exact s_psh (n := 3) h (R_ldcw hd (icOK ho hx)) hn
    · cases h
  · split at h
    · rename_i x w hx
      exact s_psh (n := 3) h (R_ldc2 hd (lcOK ho hx)) hn
    · cases h
  · exact s_lodI (n := 2) h (R_iload hd) hn
  · exact s_lodI (n := 1) h (R_iload_n hd) hn
  · exact s_lodL (n := 2) h (R_lload hd) hn
  · exact s_lodL (n := 1) h (R_lload_n hd) hn
  · exact s_lodA (n := 2) h (R_aload hd) hn
  · exact s_lodA (n := 1) h (R_aload_n hd) hn
  · exact s_stoI (n := 2) h (R_istore hd) hn
  · exact s_stoI (n := 1) h (R_istore_n hd) hn
  · exact s_stoL (n := 2) h (R_lstore hd) hn
  · exact s_stoL (n := 1) h (R_lstore_n hd) hn
  · exact s_stoA (n := 2) h (R_astore hd) hn
  · exact s_stoA (n := 1) h (R_astore_n hd) hn
  · split at h
    · rename_i j n _ x hx
      cases hb : Nat.blt j md.2.2.2.1 with
      | false => rw [hb] at h; cases h
      | true =>
        rw [hb] at h
        cases h
        exact R_iinc hd hx (bltT hb) hn
    · cases h
  · exact s_bnI h hP (R_iadd hd) hn
  · exact s_bnI h hP (R_isub hd) hn
  · exact s_bnI h hP (R_imul hd) hn
  · exact s_bnI h hP (R_iand hd) hn
  · exact s_bnI h hP (R_ior hd) hn
  · exact s_bnI h hP (R_ixor hd) hn
  · exact s_bnI h hP (R_ishl hd) hn
  · exact s_bnI h hP (R_ishr hd) hn
  · exact s_bnI h hP (R_iushr hd) hn
  · exact s_bnD h hP (R_idiv hd) hn
  · exact s_bnD h hP (R_irem hd) hn
  · obtain ⟨lv, st, M⟩ := a
    split at h
    · rename_i x st' hx
      cases h
      dsimp only at hx ⊢
      subst hx
      exact R_ineg hd hn
    · cases h
  · exact s_bnE h hP (R_ldiv hd) hn
  · exact s_bnE h hP (R_lrem hd) hn
  · exact s_bnL h hP (R_lmul hd) hn
  · exact s_bnL h hP (R_land hd) hn
  · obtain ⟨lv, st, M⟩ := a
    split at h
    · rename_i x st' hx
      cases h
      dsimp only at hx ⊢
      subst hx
      exact R_lneg hd hn
    · cases h
  · obtain ⟨lv, st, M⟩ := a
    split at h
    · rename_i y x st' hx
      cases h
      dsimp only at hx ⊢
      subst hx
      exact R_lcmp hd hn
    · cases h
  · obtain ⟨lv, st, M⟩ := a
    split at h
    · rename_i x st' hx
      cases h
      dsimp only at hx ⊢
      subst hx
      exact R_i2l hd hn
    · cases h
  · obtain ⟨lv, st, M⟩ := a
    split at h
    · rename_i x st' hx
      cases h
      dsimp only at hx ⊢
      subst hx
      exact R_i2b hd hn
    · cases h
  · obtain ⟨lv, st, M⟩ := a
    split at h
    · rename_i x st' hx
      cases h
      dsimp only at hx ⊢
      subst hx
      exact R_dup hd rfl hn
    · rename_i x st' hx
      cases h
      dsimp only at hx ⊢
      subst hx
      exact R_dup hd rfl hn
    · cases h
  · obtain ⟨lv, st, M⟩ := a
    split at h
    · rename_i x y st' hx
      cases h
      dsimp only at hx ⊢
      subst hx
      exact R_dup2 hd rfl rfl hn
    · rename_i x y st' hx
      cases h
      dsimp only at hx ⊢
      subst hx
      exact R_dup2 hd rfl rfl hn
    · cases h
  · split at h
    · rename_i ci f w hf
      obtain ⟨lv, st, M⟩ := a
      unfold gtf at h
      split at h
      · rename_i c st' hx
        cases h
        dsimp only at hx ⊢
        subst hx
        refine R_getfield ho hd hf (hP _ rfl) ?_
        have e : (if frq ci f = true then Value.ref (rf c f) else .int (rd M c f)) = (bif frq ci f then .ref (rf c f) else .int (rd M c f)) := by cases frq ci f <;> rfl
        rw [e]
        exact hn
      · cases h
    · cases h
  · split at h
    · rename_i ci f w hf
      obtain ⟨lv, st, M⟩ := a
      unfold ptf at h
      split at h
      · rename_i x c st' hx
        cases hq : frq ci f with
        | true => rw [hq] at h; cases h
        | false =>
          rw [hq] at h
          cases h
          dsimp only at hx ⊢
          subst hx
          exact R_putfield ho hd hf hq (hP _ rfl) hn
      · cases h
    · cases h
  · obtain ⟨lv, st, M⟩ := a
    split at h
    · rename_i i c st' hx
      cases h
      dsimp only at hx ⊢
      subst hx
      exact R_iaload hd (hP _ rfl) hn
    · cases h
  · obtain ⟨lv, st, M⟩ := a
    split at h
    · rename_i i c st' hx
      cases h
      dsimp only at hx ⊢
      subst hx
      exact R_laload hd (hP _ rfl) hn
    · cases h
  · obtain ⟨lv, st, M⟩ := a
    split at h
    · rename_i i c st' hx
      cases h
      dsimp only at hx ⊢
      subst hx
      have h1 := hP _ rfl
      cases hb : Nat.beq (kd c).1 3 with
      | true => rw [hb] at h1; exact R_zaload hd h1 hn
      | false => rw [hb] at h1; exact R_baload hd h1 hn
    · cases h
  · obtain ⟨lv, st, M⟩ := a
    split at h
    · rename_i i c st' hx
      cases h
      dsimp only at hx ⊢
      subst hx
      rcases hP _ rfl with h1 | h1 | h1
      · exact R_aaload5 hd h1 hn
      · exact R_aaload6 hd h1 hn
      · exact R_aaload7 hd h1 hn
    · cases h
  · obtain ⟨lv, st, M⟩ := a
    split at h
    · rename_i x i c st' hx
      cases h
      dsimp only at hx ⊢
      subst hx
      exact R_iastore hd (hP _ rfl) hn
    · cases h
  · obtain ⟨lv, st, M⟩ := a
    split at h
    · rename_i x i c st' hx
      cases h
      dsimp only at hx ⊢
      subst hx
      exact R_lastore hd (hP _ rfl) hn
    · cases h
  · cases h
theorem R_blk (seg : List Instr) {lv lv1 : List (Option Value)} {st st1 : List Value} {M M1 : Mem} {P : Prop} {pc1 : Nat} (ho : md.1 < 17) (hs : segOK md.2.2.1 pc seg = true) (hb : blk md.1 md.2.2.2.1 seg (lv, st, M) = some ((lv1, st1, M1), P)) (hP : P) (hpc : pc + segL seg = pc1) (hn : Rc g k cx md pc1 lv1 st1 M1 o) : Rc g k cx md pc lv st M o := by
  induction seg generalizing pc lv st M P with
  | nil =>
    cases hb
    subst hpc
    exact hn
  | cons i r ih =>
    simp only [segOK, Bool.and_eq_true, decide_eq_true_eq] at hs
    unfold blk at hb
    split at hb
    · cases hb
    · rename_i a1 h1
      exact stp_ok (a := (lv, st, M)) ho hs.1 h1 (fun Q q => by cases q) (ih (P := P) hs.2 hb hP (by rw [← hpc]; simp only [segL]; omega))
    · rename_i a1 P1 h1
      split at hb
      · cases hb
      · rename_i a2 Q h2
        cases hb
        exact stp_ok (a := (lv, st, M)) ho hs.1 h1 (fun Q q => by cases q; exact hP.1) (ih hs.2 h2 hP.2 (by rw [← hpc]; simp only [segL]; omega))
end SO
