/-! MAKING: an executor, and its soundness -/
def k0_init : MD := (0, yX0_init, cX0_init, 3, none)
theorem okM_k0_init : okM k0_init := ⟨by decide +kernel, rfl, Nat.le_of_ble_eq_true rfl, inW (i := 299) (by decide +kernel) (by decide +kernel)⟩
def k1_init : MD := (1, yX1_init, cX1_init, 4, none)
theorem okM_k1_init : okM k1_init := ⟨by decide +kernel, rfl, Nat.le_of_ble_eq_true rfl, inW (i := 283) (by decide +kernel) (by decide +kernel)⟩
def k2_init : MD := (2, yX2_init, cX2_init, 1, none)
theorem okM_k2_init : okM k2_init := ⟨by decide +kernel, rfl, Nat.le_of_ble_eq_true rfl, inW (i := 170) (by decide +kernel) (by decide +kernel)⟩
def k3_init : MD := (3, yX3_init, cX3_init, 3, none)
theorem okM_k3_init : okM k3_init := ⟨by decide +kernel, rfl, Nat.le_of_ble_eq_true rfl, inW (i := 372) (by decide +kernel) (by decide +kernel)⟩
def k4_init : MD := (4, yX4_init, cX4_init, 1, none)
theorem okM_k4_init : okM k4_init := ⟨by decide +kernel, rfl, Nat.le_of_ble_eq_true rfl, inW (i := 80) (by decide +kernel) (by decide +kernel)⟩
def k5_init : MD := (5, yX5_init, cX5_init, 2, none)
theorem okM_k5_init : okM k5_init := ⟨by decide +kernel, rfl, Nat.le_of_ble_eq_true rfl, inW (i := 38) (by decide +kernel) (by decide +kernel)⟩
def k6_init : MD := (6, yX6_init, cX6_init, 4, none)
theorem okM_k6_init : okM k6_init := ⟨by decide +kernel, rfl, Nat.le_of_ble_eq_true rfl, inW (i := 397) (by decide +kernel) (by decide +kernel)⟩
def k7_init : MD := (7, yX7_init, cX7_init, 1, none)
theorem okM_k7_init : okM k7_init := ⟨by decide +kernel, rfl, Nat.le_of_ble_eq_true rfl, inW (i := 232) (by decide +kernel) (by decide +kernel)⟩
def k8_init : MD := (8, yX8_init, cX8_init, 2, none)
theorem okM_k8_init : okM k8_init := ⟨by decide +kernel, rfl, Nat.le_of_ble_eq_true rfl, inW (i := 226) (by decide +kernel) (by decide +kernel)⟩
def k9_init : MD := (9, yX9_init, cX9_init, 3, none)
theorem okM_k9_init : okM k9_init := ⟨by decide +kernel, rfl, Nat.le_of_ble_eq_true rfl, inW (i := 339) (by decide +kernel) (by decide +kernel)⟩
def k10_init : MD := (10, yX10_init, cX10_init, 1, none)
theorem okM_k10_init : okM k10_init := ⟨by decide +kernel, rfl, Nat.le_of_ble_eq_true rfl, inW (i := 196) (by decide +kernel) (by decide +kernel)⟩
def k11_init : MD := (11, yX11_init, cX11_init, 2, none)
theorem okM_k11_init : okM k11_init := ⟨by decide +kernel, rfl, Nat.le_of_ble_eq_true rfl, inW (i := 30) (by decide +kernel) (by decide +kernel)⟩
def k12_init : MD := (12, yX12_init, cX12_init, 1, none)
theorem okM_k12_init : okM k12_init := ⟨by decide +kernel, rfl, Nat.le_of_ble_eq_true rfl, inW (i := 1402) (by decide +kernel) (by decide +kernel)⟩
theorem J16_114 : okJ 16 114 0 k11_init := ⟨okM_k11_init, ⟨by decide +kernel, by decide +kernel, by decide +kernel⟩, Or.inl (inW (i := 28) (by decide +kernel) (by decide +kernel)), inW (i := 1) (by decide +kernel) (by decide +kernel), inW (i := 29) (by decide +kernel) (by decide +kernel), rfl, rfl⟩
theorem J11_34 : okJ 11 34 1 k5_init := ⟨okM_k5_init, ⟨by decide +kernel, by decide +kernel, by decide +kernel⟩, Or.inl (inW (i := 36) (by decide +kernel) (by decide +kernel)), inW (i := 2) (by decide +kernel) (by decide +kernel), inW (i := 37) (by decide +kernel) (by decide +kernel), rfl, rfl⟩
theorem J11_43 : okJ 11 43 0 k4_init := ⟨okM_k4_init, ⟨by decide +kernel, by decide +kernel, by decide +kernel⟩, Or.inr (by decide +kernel), inW (i := 3) (by decide +kernel) (by decide +kernel), inW (i := 79) (by decide +kernel) (by decide +kernel), rfl, rfl⟩
theorem J11_53 : okJ 11 53 0 k2_init := ⟨okM_k2_init, ⟨by decide +kernel, by decide +kernel, by decide +kernel⟩, Or.inl (inW (i := 168) (by decide +kernel) (by decide +kernel)), inW (i := 4) (by decide +kernel) (by decide +kernel), inW (i := 169) (by decide +kernel) (by decide +kernel), rfl, rfl⟩
theorem J11_60 : okJ 11 60 0 k10_init := ⟨okM_k10_init, ⟨by decide +kernel, by decide +kernel, by decide +kernel⟩, Or.inr (by decide +kernel), inW (i := 5) (by decide +kernel) (by decide +kernel), inW (i := 195) (by decide +kernel) (by decide +kernel), rfl, rfl⟩
theorem J11_67 : okJ 11 67 0 k8_init := ⟨okM_k8_init, ⟨by decide +kernel, by decide +kernel, by decide +kernel⟩, Or.inl (inW (i := 224) (by decide +kernel) (by decide +kernel)), inW (i := 6) (by decide +kernel) (by decide +kernel), inW (i := 225) (by decide +kernel) (by decide +kernel), rfl, rfl⟩
theorem J8_11 : okJ 8 11 0 k7_init := ⟨okM_k7_init, ⟨by decide +kernel, by decide +kernel, by decide +kernel⟩, Or.inr (by decide +kernel), inW (i := 7) (by decide +kernel) (by decide +kernel), inW (i := 231) (by decide +kernel) (by decide +kernel), rfl, rfl⟩
theorem J11_83 : okJ 11 83 3 k1_init := ⟨okM_k1_init, ⟨by decide +kernel, by decide +kernel, by decide +kernel⟩, Or.inl (inW (i := 281) (by decide +kernel) (by decide +kernel)), inW (i := 8) (by decide +kernel) (by decide +kernel), inW (i := 282) (by decide +kernel) (by decide +kernel), rfl, rfl⟩
theorem J11_92 : okJ 11 92 2 k0_init := ⟨okM_k0_init, ⟨by decide +kernel, by decide +kernel, by decide +kernel⟩, Or.inl (inW (i := 297) (by decide +kernel) (by decide +kernel)), inW (i := 9) (by decide +kernel) (by decide +kernel), inW (i := 298) (by decide +kernel) (by decide +kernel), rfl, rfl⟩
theorem J11_101 : okJ 11 101 2 k9_init := ⟨okM_k9_init, ⟨by decide +kernel, by decide +kernel, by decide +kernel⟩, Or.inl (inW (i := 337) (by decide +kernel) (by decide +kernel)), inW (i := 10) (by decide +kernel) (by decide +kernel), inW (i := 338) (by decide +kernel) (by decide +kernel), rfl, rfl⟩
theorem J11_110 : okJ 11 110 2 k3_init := ⟨okM_k3_init, ⟨by decide +kernel, by decide +kernel, by decide +kernel⟩, Or.inl (inW (i := 370) (by decide +kernel) (by decide +kernel)), inW (i := 11) (by decide +kernel) (by decide +kernel), inW (i := 371) (by decide +kernel) (by decide +kernel), rfl, rfl⟩
theorem J11_117 : okJ 11 117 3 k6_init := ⟨okM_k6_init, ⟨by decide +kernel, by decide +kernel, by decide +kernel⟩, Or.inl (inW (i := 395) (by decide +kernel) (by decide +kernel)), inW (i := 12) (by decide +kernel) (by decide +kernel), inW (i := 396) (by decide +kernel) (by decide +kernel), rfl, rfl⟩
theorem J16_117 : okJ 16 117 0 k12_init := ⟨okM_k12_init, ⟨by decide +kernel, by decide +kernel, by decide +kernel⟩, Or.inl (inW (i := 1400) (by decide +kernel) (by decide +kernel)), inW (i := 13) (by decide +kernel) (by decide +kernel), inW (i := 1401) (by decide +kernel) (by decide +kernel), rfl, rfl⟩
theorem V2_28 : okV 2 28 0 m2_clear := ⟨V11_150.1, V11_150.2.1, V11_150.2.2.1, inW (i := 172) (by decide +kernel) (by decide +kernel), V11_150.2.2.2.2⟩
abbrev KQ : Type := Nat × Nat × Nat × MD × Nat × Nat
def calT : List KQ := [(16, 114, 1, k11_init, 0, 261), (11, 34, 1, k5_init, 1, 44), (11, 43, 1, k4_init, 0, 104), (11, 53, 1, k2_init, 0, 44), (11, 60, 1, k10_init, 0, 55), (11, 67, 1, k8_init, 0, 56), (8, 11, 1, k7_init, 0, 35), (11, 83, 1, k1_init, 3, 19), (11, 92, 1, k0_init, 2, 75), (11, 101, 1, k9_init, 2, 61), (11, 110, 1, k3_init, 2, 43), (11, 117, 1, k6_init, 3, 55), (16, 117, 1, k12_init, 0, 290), (12, 104, 2, m12_tellsNothing, 0, 42), (12, 107, 2, m12_beginsAnew, 0, 170), (12, 199, 3, m12_lays, 3, 43), (2, 28, 2, m2_clear, 0, 12)]
def calOK (q : KQ) : Prop := okM q.2.2.2.1 ∧ q.2.2.2.1.2.2.2.2 = none ∧ (q.2.2.1 = 1 → okJ q.1 q.2.1 q.2.2.2.2.1 q.2.2.2.1) ∧ (q.2.2.1 = 2 → okV q.1 q.2.1 q.2.2.2.2.1 q.2.2.2.1) ∧ (q.2.2.1 = 3 → okS q.1 q.2.1 q.2.2.2.2.1 q.2.2.2.1) ∧ decode q.2.2.2.1.2.2.1 q.2.2.2.2.2 = .ok (.return_, 1) ∧ q.2.2.2.1.1 < 17
theorem calT_ok : ∀ q ∈ calT, calOK q := by
  unfold calT
  repeat' (refine List.forall_mem_cons.mpr ⟨?_, ?_⟩)
  · exact ⟨okM_k11_init, rfl, fun _ => J16_114, fun h => absurd h (by decide), fun h => absurd h (by decide), by decide +kernel, by decide⟩
  · exact ⟨okM_k5_init, rfl, fun _ => J11_34, fun h => absurd h (by decide), fun h => absurd h (by decide), by decide +kernel, by decide⟩
  · exact ⟨okM_k4_init, rfl, fun _ => J11_43, fun h => absurd h (by decide), fun h => absurd h (by decide), by decide +kernel, by decide⟩
  · exact ⟨okM_k2_init, rfl, fun _ => J11_53, fun h => absurd h (by decide), fun h => absurd h (by decide), by decide +kernel, by decide⟩
  · exact ⟨okM_k10_init, rfl, fun _ => J11_60, fun h => absurd h (by decide), fun h => absurd h (by decide), by decide +kernel, by decide⟩
  · exact ⟨okM_k8_init, rfl, fun _ => J11_67, fun h => absurd h (by decide), fun h => absurd h (by decide), by decide +kernel, by decide⟩
  · exact ⟨okM_k7_init, rfl, fun _ => J8_11, fun h => absurd h (by decide), fun h => absurd h (by decide), by decide +kernel, by decide⟩
  · exact ⟨okM_k1_init, rfl, fun _ => J11_83, fun h => absurd h (by decide), fun h => absurd h (by decide), by decide +kernel, by decide⟩
  · exact ⟨okM_k0_init, rfl, fun _ => J11_92, fun h => absurd h (by decide), fun h => absurd h (by decide), by decide +kernel, by decide⟩
  · exact ⟨okM_k9_init, rfl, fun _ => J11_101, fun h => absurd h (by decide), fun h => absurd h (by decide), by decide +kernel, by decide⟩
  · exact ⟨okM_k3_init, rfl, fun _ => J11_110, fun h => absurd h (by decide), fun h => absurd h (by decide), by decide +kernel, by decide⟩
  · exact ⟨okM_k6_init, rfl, fun _ => J11_117, fun h => absurd h (by decide), fun h => absurd h (by decide), by decide +kernel, by decide⟩
  · exact ⟨okM_k12_init, rfl, fun _ => J16_117, fun h => absurd h (by decide), fun h => absurd h (by decide), by decide +kernel, by decide⟩
  · exact ⟨okM_m12_tellsNothing, rfl, fun h => absurd h (by decide), fun _ => V12_104, fun h => absurd h (by decide), by decide +kernel, by decide⟩
  · exact ⟨okM_m12_beginsAnew, rfl, fun h => absurd h (by decide), fun _ => V12_107, fun h => absurd h (by decide), by decide +kernel, by decide⟩
  · exact ⟨okM_m12_lays, rfl, fun h => absurd h (by decide), fun h => absurd h (by decide), fun _ => S12_199, by decide +kernel, by decide⟩
  · exact ⟨okM_m2_clear, rfl, fun h => absurd h (by decide), fun _ => V2_28, fun h => absurd h (by decide), by decide +kernel, by decide⟩
  · exact fun _ h => absurd h List.not_mem_nil
def calF (kd o i : Nat) : List KQ → Option KQ
  | [] => none
  | q :: r => bif Nat.beq o q.1 && Nat.beq i q.2.1 && Nat.beq kd q.2.2.1 then some q else calF kd o i r
theorem calF_mem {kd o i : Nat} {q : KQ} : ∀ {l : List KQ}, calF kd o i l = some q → q ∈ l ∧ q.1 = o ∧ q.2.1 = i ∧ q.2.2.1 = kd
  | [], h => by cases h
  | q2 :: r, h => by
    unfold calF at h
    cases e : (Nat.beq o q2.1 && Nat.beq i q2.2.1 && Nat.beq kd q2.2.2.1) with
    | true =>
      rw [e] at h
      simp only [Bool.and_eq_true] at e
      have h' : q2 = q := Option.some.inj h
      subst h'
      exact ⟨List.mem_cons_self, (Nat.eq_of_beq_eq_true e.1.1).symm, (Nat.eq_of_beq_eq_true e.1.2).symm, (Nat.eq_of_beq_eq_true e.2).symm⟩
    | false =>
      rw [e] at h
      obtain ⟨h1, h2⟩ := calF_mem (l := r) h
      exact ⟨List.mem_cons_of_mem _ h1, h2⟩
def obT : List (Nat × Nat × Nat) := [(11, 1, 31), (5, 3, 39), (4, 3, 81), (2, 3, 171), (10, 5, 197), (8, 3, 227), (7, 3, 233), (1, 3, 284), (0, 3, 300), (9, 3, 340), (3, 3, 373), (6, 3, 398), (12, 1, 1403)]
def obF (o i : Nat) : List (Nat × Nat × Nat) → Bool
  | [] => false
  | q :: r => (Nat.beq o q.1 && Nat.beq i q.2.1) || obF o i r
theorem obT_ok : obT.all (fun q => decide (tables_1[q.2.2]? = some (Cond.methodLink (ownN q.1) q.2.1 Lib.objectInit)) && goodWord (Cond.methodLink (ownN q.1) q.2.1 Lib.objectInit)) = true := by decide +kernel
theorem obF_mem {o i : Nat} : ∀ {l : List (Nat × Nat × Nat)}, obF o i l = true → ∃ q ∈ l, q.1 = o ∧ q.2.1 = i
  | [], h => by cases h
  | q :: r, h => by
    unfold obF at h
    rcases Bool.or_eq_true_iff.mp h with h | h
    · have e := Bool.and_eq_true_iff.mp h
      exact ⟨q, List.mem_cons_self, (Nat.eq_of_beq_eq_true e.1).symm, (Nat.eq_of_beq_eq_true e.2).symm⟩
    · obtain ⟨q2, h1, h2⟩ := obF_mem (l := r) h
      exact ⟨q2, List.mem_cons_of_mem _ h1, h2⟩
theorem ob_ok {o i : Nat} (h : obF o i obT = true) : Cond.methodLink (ownN o) i Lib.objectInit ∈ WD := by
  obtain ⟨q, hq, rfl, rfl⟩ := obF_mem h
  have h1 := List.all_eq_true.mp obT_ok q hq
  simp only [Bool.and_eq_true, decide_eq_true_eq] at h1
  exact inW h1.1 h1.2
/-- the length, with its number kept short -/
def lenA {α : Type} : List α → Nat → Nat
  | [], n => n
  | _ :: r, n => match n + 1 with
    | 0 => 0
    | m + 1 => lenA r (m + 1)
theorem lenA_eq {α : Type} : ∀ (l : List α) (n : Nat), lenA l n = n + l.length
  | [], n => rfl
  | x :: r, n => by
    show lenA r (n + 1) = _
    rw [lenA_eq r (n + 1), List.length_cons]
    omega
def gd (c : Bool) (y : KS) : Option KS := bif c then some y else none
theorem gd_ok {c : Bool} {x y : KS} (h : gd c x = some y) : c = true ∧ x = y := by
  unfold gd at h
  cases c with
  | true => exact ⟨rfl, Option.some.inj h⟩
  | false => cases h
def bch (x y : Int32) (t f : Nat) : Nat := if y ≤ x then t else f
def ks (k : Nat) (md : MD) (pc : Nat) (i : Instr) (len : Nat) (lv : List (Option Value)) (st : List Value) (L : List ME) (n1 n2 : Nat) : Option KS := match i with
  | .iconst n => gd (Nat.beq len 1) (pc + 1, lv, .int (Int32.ofInt n) :: st, L, n1, n2)
  | .bipush n => gd (Nat.beq len 2) (pc + 2, lv, .int (Int8.ofInt n).toInt32 :: st, L, n1, n2)
  | .sipush n => gd (Nat.beq len 3) (pc + 3, lv, .int (Int16.ofInt n).toInt32 :: st, L, n1, n2)
  | .dup => match st with
    | .ref x :: r => gd (Nat.beq len 1) (pc + 1, lv, .ref x :: .ref x :: r, L, n1, n2)
    | _ => none
  | .iload_n n => match lv[n.val]? with
    | some (some (.int x)) => gd (Nat.beq len 1) (pc + 1, lv, .int x :: st, L, n1, n2)
    | _ => none
  | .aload_n n => match lv[n.val]? with
    | some (some (.ref x)) => gd (Nat.beq len 1) (pc + 1, lv, .ref x :: st, L, n1, n2)
    | _ => none
  | .istore_n n => match st with
    | .int x :: r => gd (Nat.beq len 1 && Nat.blt n.val md.2.2.2.1) (pc + 1, (kil lv n.val).set n.val (some (.int x)), r, L, n1, n2)
    | _ => none
  | .istore n => match st with
    | .int x :: r => gd (Nat.beq len 2 && Nat.blt n md.2.2.2.1) (pc + 2, (kil lv n).set n (some (.int x)), r, L, n1, n2)
    | _ => none
  | .astore_n n => match st with
    | .ref x :: r => gd (Nat.beq len 1 && Nat.blt n.val md.2.2.2.1) (pc + 1, (kil lv n.val).set n.val (some (.ref x)), r, L, n1, n2)
    | _ => none
  | .iinc j n => match lv[j]? with
    | some (some (.int x)) => gd (Nat.beq len 3 && Nat.blt j md.2.2.2.1) (pc + 3, (kil lv j).set j (some (.int (x + Int32.ofInt n))), st, L, n1, n2)
    | _ => none
  | .if_icmp .ge off => match st with
    | .int y :: .int x :: r => gd (Nat.beq len 3 && decide ((pc : Int) + off = (((pc : Int) + off).toNat : Int))) (bch x y ((pc : Int) + off).toNat (pc + 3), lv, r, L, n1, n2)
    | _ => none
  | .goto off => gd (Nat.beq len 3 && decide ((pc : Int) + off = (((pc : Int) + off).toNat : Int))) (((pc : Int) + off).toNat, lv, st, L, n1, n2)
  | .invokespecial j => match st with
    | [.ref x] => gd (Nat.beq len 3 && obF md.1 j obT && Nat.ble 1 k) (pc + 3, lv, [], L, n1, n2)
    | _ => none
  | .new j => match nwF md.1 j nwT with
    | some ci => gd (Nat.beq len 3) (pc + 3, lv, .ref (lenA L 0) :: st, L ++ [.inl (ci, dfl ci)], n1 + 1, n2 + nfl ci)
    | none => none
  | .newarray at0 => match st with
    | .int n :: r => match atK at0 with
      | some kk => gd (Nat.beq len 2 && decide (¬ n < 0) && Nat.ble (n.toNatClampNeg * componentBytes (newarray.typeOf at0)) 536870912) (pc + 2, lv, .ref (lenA L 0) :: r, L ++ [.inr (.inl (kk, n.toNatClampNeg, []))], n1 + 1, n2 + n.toNatClampNeg)
      | none => none
    | _ => none
  | .anewarray j => match st with
    | .int n :: r => match nwF md.1 j nwT with
      | some ci => gd (Nat.beq len 3 && (Nat.beq ci 7 || Nat.beq ci 8) && decide (¬ n < 0) && Nat.ble (n.toNatClampNeg * 4) 536870912) (pc + 3, lv, .ref (lenA L 0) :: r, L ++ [.inr (.inr (ci - 1, n.toNatClampNeg, List.replicate n.toNatClampNeg none))], n1 + 1, n2 + n.toNatClampNeg)
      | none => none
    | _ => none
  | .multianewarray j d => match st with
    | .int q :: .int n :: r => gd (Nat.beq len 4 && Nat.beq d 2 && Nat.beq md.1 12 && Nat.beq j 44 && decide (¬ n < 0) && decide (¬ q < 0) && Nat.ble (n.toNatClampNeg * 4) 536870912 && Nat.ble (q.toNatClampNeg * 4) 536870912) (pc + 4, lv, .ref (lenA L 0) :: r, L ++ (.inr (.inr (5, n.toNatClampNeg, rwsL (lenA L 0) n.toNatClampNeg)) :: rwsC q.toNatClampNeg n.toNatClampNeg), n1 + 1 + n.toNatClampNeg, n2 + n.toNatClampNeg + n.toNatClampNeg * q.toNatClampNeg)
    | _ => none
  | .getfield j => match st with
    | .ref z :: r => match lk (flT md.1) j with
      | some (ci, f, _) => match L[z]? with
        | some (.inl (c2, fs)) => match fs[f]? with
          | some v => match vV v with
            | some u => gd (Nat.beq len 3 && Nat.beq c2 ci) (pc + 3, lv, u :: r, L, n1, n2)
            | none => none
          | none => none
        | _ => none
      | none => none
    | _ => none
  | .putfield j => match st with
    | .int x :: .ref z :: r => match lk (flT md.1) j with
      | some (ci, f, _) => match L[z]? with
        | some (.inl (c2, fs)) => gd (Nat.beq len 3 && Nat.beq c2 ci && !(frq ci f) && Nat.blt f fs.length) (pc + 3, lv, r, L.set z (.inl (c2, fs.set f (.inl x))), n1, n2)
        | _ => none
      | none => none
    | .ref x :: .ref z :: r => match lk (flT md.1) j with
      | some (ci, f, _) => match L[z]? with
        | some (.inl (c2, fs)) => gd (Nat.beq len 3 && Nat.beq c2 ci && frq ci f && Nat.beq md.1 ci && decide (md.2.1.name = "<init>") && Nat.blt f fs.length) (pc + 3, lv, r, L.set z (.inl (c2, fs.set f (.inr (some x)))), n1, n2)
        | _ => none
      | none => none
    | _ => none
  | .iaload => match st with
    | .int i :: .ref z :: r => match L[z]? with
      | some (.inr (.inl (t, n, xs))) => gd (Nat.beq len 1 && Nat.beq t 1 && decide (¬ i < 0) && Nat.blt i.toNatClampNeg n) (pc + 1, lv, .int (lkA xs i.toNatClampNeg) :: r, L, n1, n2)
      | _ => none
    | _ => none
  | .iastore => match st with
    | .int x :: .int i :: .ref z :: r => match L[z]? with
      | some (.inr (.inl (t, n, xs))) => gd (Nat.beq len 1 && Nat.beq t 1 && decide (¬ i < 0) && Nat.blt i.toNatClampNeg n) (pc + 1, lv, r, L.set z (.inr (.inl (t, n, (i.toNatClampNeg, x) :: xs))), n1, n2)
      | _ => none
    | _ => none
  | .aastore => match st with
    | .ref z2 :: .int i :: .ref z :: r => match L[z]? with
      | some (.inr (.inr (t, n, rs))) => match L[z2]? with
        | some (.inl (ci, _)) => gd (Nat.beq len 1 && (Nat.beq ci 7 || Nat.beq ci 8) && Nat.beq t (ci - 1) && decide (¬ i < 0) && Nat.blt i.toNatClampNeg n && Nat.blt i.toNatClampNeg rs.length) (pc + 1, lv, r, L.set z (.inr (.inr (t, n, rs.set i.toNatClampNeg (some z2)))), n1, n2)
        | _ => none
      | _ => none
    | _ => none
  | _ => none
theorem blt_lt {a b : Nat} (h : Nat.blt a b = true) : a < b := Nat.le_of_ble_eq_true h
theorem lenA0 {α : Type} (l : List α) : lenA l 0 = l.length := by rw [lenA_eq, Nat.zero_add]
theorem ks_ok {g : Gl} {b a k : Nat} {md : MD} {pc : Nat} {i : Instr} {len : Nat} {lv : List (Option Value)} {st : List Value} {L : List ME} {n1 n2 : Nat} {y : KS} (ho : md.1 < 17) (hd : decode md.2.2.1 pc = .ok (i, len)) (h : ks k md pc i len lv st L n1 n2 = some y) : Kt g b a k md (pc, lv, st, L, n1, n2) y := by
  unfold ks at h
  repeat' split at h
  all_goals (first | (cases h; done) | skip)
  all_goals (obtain ⟨hg, rfl⟩ := gd_ok h)
  all_goals (try simp only [Bool.and_eq_true, Bool.or_eq_true, decide_eq_true_eq, Bool.not_eq_true'] at hg)
  all_goals (try simp only [lenA0])
  all_goals (have hlen := Nat.eq_of_beq_eq_true (by first | exact hg | exact hg.1 | exact hg.1.1 | exact hg.1.1.1 | exact hg.1.1.1.1 | exact hg.1.1.1.1.1 | exact hg.1.1.1.1.1.1 | exact hg.1.1.1.1.1.1.1); subst hlen)
  · exact K_iconst hd
  · exact K_bipush hd
  · exact K_sipush hd
  · exact K_dup hd rfl
  · rename_i e; exact K_iload_n hd e
  · rename_i e; exact K_aload_n hd e
  · exact K_istore_n hd (blt_lt hg.2)
  · exact K_istore hd (blt_lt hg.2)
  · exact K_astore_n hd (blt_lt hg.2)
  · rename_i e; exact K_iinc hd e (blt_lt hg.2)
  · exact K_icmp_ge hd hg.2
  · exact K_goto hd hg.2
  · exact K_objInit hd (ob_ok hg.1.2) (inW (i := 32) (by decide +kernel) (by decide +kernel)) (inW (i := 33) (by decide +kernel) (by decide +kernel)) (Nat.le_of_ble_eq_true hg.2)
  · rename_i e; exact K_new hd e
  · rename_i e; exact K_newarray hd e hg.1.2 (Nat.le_of_ble_eq_true hg.2)
  · rename_i e; exact K_anew hd e (hg.1.1.2.imp Nat.eq_of_beq_eq_true Nat.eq_of_beq_eq_true) hg.1.2 (Nat.le_of_ble_eq_true hg.2)
  · obtain ⟨⟨⟨⟨⟨⟨⟨_, h2⟩, h3⟩, h4⟩, h5⟩, h6⟩, h7⟩, h8⟩ := hg
    have h2 := Nat.eq_of_beq_eq_true h2
    subst h2
    exact K_mna hd ⟨Nat.eq_of_beq_eq_true h3, Nat.eq_of_beq_eq_true h4⟩ h5 h6 (Nat.le_of_ble_eq_true h7) (Nat.le_of_ble_eq_true h8)
  · rename_i e1 _ _ _ e2 _ _ e3 _ _ e4
    have hc := Nat.eq_of_beq_eq_true hg.2
    subst hc
    exact K_getfield ho hd e1 e2 e3 e4
  · rename_i e1 _ _ _ e2
    obtain ⟨⟨⟨_, h2⟩, h3⟩, h4⟩ := hg
    have hc := Nat.eq_of_beq_eq_true h2
    subst hc
    exact K_put ho hd e1 e2 rfl (Or.inl ⟨h3, _, rfl⟩) (blt_lt h4)
  · rename_i e1 _ _ _ e2
    obtain ⟨⟨⟨⟨⟨_, h2⟩, h3⟩, h4⟩, h5⟩, h6⟩ := hg
    have hc := Nat.eq_of_beq_eq_true h2
    subst hc
    exact K_put ho hd e1 e2 rfl (Or.inr ⟨h3, ⟨_, rfl⟩, Nat.eq_of_beq_eq_true h4, h5⟩) (blt_lt h6)
  · rename_i e1
    obtain ⟨⟨⟨_, h2⟩, h3⟩, h4⟩ := hg
    have hc := Nat.eq_of_beq_eq_true h2
    subst hc
    exact K_iaload hd e1 (fun q => q.elim h3 (fun q => absurd (blt_lt h4) (Nat.not_lt.mpr q)))
  · rename_i e1
    obtain ⟨⟨⟨_, h2⟩, h3⟩, h4⟩ := hg
    have hc := Nat.eq_of_beq_eq_true h2
    subst hc
    exact K_iastore hd e1 (fun q => q.elim h3 (fun q => absurd (blt_lt h4) (Nat.not_lt.mpr q)))
  · rename_i e1 _ _ _ e2
    obtain ⟨⟨⟨⟨⟨_, h2⟩, h3⟩, h4⟩, h5⟩, h6⟩ := hg
    have hc := Nat.eq_of_beq_eq_true h3
    subst hc
    exact K_aastore hd e1 e2 (h2.imp Nat.eq_of_beq_eq_true Nat.eq_of_beq_eq_true) (fun q => q.elim h4 (fun q => absurd (blt_lt h5) (Nat.not_lt.mpr q))) (blt_lt h6)
