/-! MAKING: cells are made one behind the other from a base b on; what lies in them is told by places. kt: an executor for it; Kt: what it means -/
abbrev MV : Type := Int32 ⊕ Option Nat
abbrev ME : Type := (Nat × List MV) ⊕ (Nat × Nat × List (Nat × Int32)) ⊕ (Nat × Nat × List (Option Nat))
def adB (b a z : Nat) : Nat := bif Nat.beq z 1000000 then a else b + z
def evV (b a : Nat) : MV → Value
  | .inl x => .int x
  | .inr none => .null
  | .inr (some z) => .ref (adB b a z)
def lkA (xs : List (Nat × Int32)) (j : Nat) : Int32 := match xs with
  | [] => 0
  | q :: r => bif Nat.beq j q.1 then q.2 else lkA r j
def evE (ar : Nat → ClassId) (b a : Nat) : ME → va_E
  | .inl (ci, fs) => .inr (ci, fs.map (evV b a))
  | .inr (.inl (k, n, xs)) => .inl (ar k, n, bif Nat.beq k 4 then .inr (.inl fun _ => 0) else .inl (lkA xs))
  | .inr (.inr (k, n, rs)) => .inl (ar k, n, .inr (.inr (.inr (.inr (fun j => (rs.getD j none).map (fun z => adB b a z))))))
def sqW (ar : Nat → ClassId) (b a : Nat) (L : List ME) : va_W := L.mapIdx (fun i e => (b + i, evE ar b a e))
theorem sqW_get (ar : Nat → ClassId) (b a : Nat) (L : List ME) (i : Nat) : (sqW ar b a L)[i]? = (L[i]?).map (fun e => (b + i, evE ar b a e)) := by
  simp [sqW, List.getElem?_mapIdx]
theorem sqW_some {ar : Nat → ClassId} {b a : Nat} {L : List ME} {i : Nat} {e : ME} (h : L[i]? = some e) : (sqW ar b a L)[i]? = some (b + i, evE ar b a e) := by
  rw [sqW_get, h]; rfl
theorem sqW_set {ar : Nat → ClassId} {b a : Nat} {L : List ME} {i : Nat} {e : ME} : (sqW ar b a L).set i (b + i, evE ar b a e) = sqW ar b a (L.set i e) := by
  apply List.ext_getElem?
  intro j
  rw [sqW_get, List.getElem?_set, List.getElem?_set]
  by_cases h : i = j
  · subst h
    simp only [if_true]
    by_cases h2 : i < L.length
    · simp [sqW, h2]
    · simp [sqW, h2]
  · simp only [h, if_false]
    rw [sqW_get]
theorem sqW_app (ar : Nat → ClassId) (b a : Nat) (L1 L2 : List ME) : sqW ar b a (L1 ++ L2) = sqW ar b a L1 ++ L2.mapIdx (fun i e => (b + (i + L1.length), evE ar b a e)) := by
  simp [sqW, List.mapIdx_append]
theorem sqW_at {ar : Nat → ClassId} {b a : Nat} {L : List ME} {i : Nat} {q : Nat × va_E} (h : (sqW ar b a L)[i]? = some q) : ∃ e, L[i]? = some e ∧ q = (b + i, evE ar b a e) ∧ i < L.length := by
  rw [sqW_get] at h
  obtain ⟨e, h1, h2⟩ := Option.map_eq_some_iff.mp h
  exact ⟨e, h1, h2.symm, (List.getElem?_eq_some_iff.mp h1).1⟩
theorem sqW_D {ar : Nat → ClassId} {b a : Nat} {L : List ME} {A : Nat → Prop} (hA : ∀ q, b ≤ q → A q) : va_D A (sqW ar b a L) := by
  refine ⟨fun i j p q hi hj e => ?_, fun k q hk => ?_⟩
  · obtain ⟨_, _, rfl, _⟩ := sqW_at hi
    obtain ⟨_, _, rfl, _⟩ := sqW_at hj
    try dsimp only at e
    omega
  · obtain ⟨_, _, rfl, _⟩ := sqW_at hk
    exact hA _ (by dsimp only; omega)
def gb (g : Gl) (b a : Nat) : Gl := (g.1, g.2.1, g.2.2.1, adB b a)
/-- the array class over int[] -/
def aOI (U : State) : Prop := (Cond.arrayOver (.array .int)).before #[] U = true
theorem aOI.moved {u U : State} (hvm : u.vm.Alike U.vm) (h : aOI u) : aOI U := by
  have h2 : (Cond.arrayOver (.array .int)).before #[] (u.setVm U.vm) = true := by rw [Cond.arrayOver_setVmC hvm]; exact h
  unfold aOI
  simp only [Cond.before, Cond.holds, Cond.value, State.vm_setVm] at h2 ⊢
  exact h2
/-- what else the making needs of the start -/
def XK (U : State) : Prop := (∀ q ∈ nestT, va_Nw (.methodLinkNest q.1 q.2.1 q.2.2.1 q.2.2.2) U) ∧ va_AO "LostMuseum$State" U ∧ va_AO "LostMuseum$Timeline" U ∧ aOI U
theorem XK.warm {s U : State} (hW : s.WarmedH U.vm) (h : XK s) : XK U := ⟨fun q hq => (h.1 q hq).warmM hW, h.2.1.moved hW.alike, h.2.2.1.moved hW.alike, h.2.2.2.moved hW.alike⟩
theorem XK.same {s U : State} (hW : U.vm = s.vm) (h : XK s) : XK U := by
  have ha : s.vm.Alike U.vm := by rw [hW]; exact Vm.Alike.refl _
  exact ⟨fun q hq => (h.1 q hq).same rfl hW.symm, h.2.1.moved ha, h.2.2.1.moved ha, h.2.2.2.moved ha⟩
def CxK (g : Gl) (md : MD) (p : Program) (s : State) (m : MethodId) (sa : Array Value) (meth : Method) (c : Code) : Prop :=
  p.tables.exec = Jvm.exec ∧ c.code = md.2.2.1 ∧ c.maxLocals = md.2.2.2.1 ∧ s.vm.findClass (ownN md.1) = some m.cls ∧ (∀ w ∈ WD, w.before sa s = true) ∧ va_K g.2.1 classes (tyG g) s ∧ (md.2.1.name = "<init>" → meth.name = "<init>") ∧ XK s
/-- pc, locals, stack, cells, how many cells and slots were made -/
abbrev KS : Type := Nat × List (Option Value) × List Value × List ME × Nat × Nat
def Kt (g : Gl) (b a k : Nat) (md : MD) (x y : KS) : Prop :=
  (x.2.2.2.2.1 ≤ y.2.2.2.2.1 ∧ x.2.2.2.2.2 ≤ y.2.2.2.2.2 ∧ x.2.2.2.1.length ≤ y.2.2.2.1.length) ∧
  ∀ (p : Program) (e : Env) (s : State) (m : MethodId) (sa : Array Value) (below : List Frame) (meth : Method) (c : Code) (H : Heap) (locs : List Loc) (A : Nat → Prop) (ls : Array Slot) (R : Room) (Q : State → Prop),
    CxK g md p s m sa meth c → (∀ q, b ≤ q → A q) → va_P g.2.1 classes (sqW g.2.2.1 b a x.2.2.2.1) H → H.size = b + x.2.2.2.1.length → va_S A s.heap H locs → lvh (gb g b a) md.2.2.2.1 ls x.2.1 →
    (k ≤ R.frames ∧ 64 * k ≤ R.locals ∧ y.2.2.2.2.1 ≤ R.cells ∧ y.2.2.2.2.2 ≤ R.slots ∧ y.2.2.2.1.length < 1000000) →
    (∀ (ls : Array Slot) (H : Heap) (locs : List Loc), va_P g.2.1 classes (sqW g.2.2.1 b a y.2.2.2.1) H → H.size = b + y.2.2.2.1.length → va_S A s.heap H locs → lvh (gb g b a) md.2.2.2.1 ls y.2.1 → W p g.1 e R s m sa below meth c H locs y.2.2.2.2.1 y.2.2.2.2.2 Q (F0 m y.1 ls (y.2.2.1.map (cv (gb g b a).2.2.2)))) →
    W p g.1 e R s m sa below meth c H locs x.2.2.2.2.1 x.2.2.2.2.2 Q (F0 m x.1 ls (x.2.2.1.map (cv (gb g b a).2.2.2)))
theorem Kt.rf {g : Gl} {b a k : Nat} {md : MD} {x : KS} : Kt g b a k md x x := ⟨⟨Nat.le_refl _, Nat.le_refl _, Nat.le_refl _⟩, fun _ _ _ _ _ _ _ _ _ _ _ _ _ _ _ _ hP hz hS hl _ kk => kk _ _ _ hP hz hS hl⟩
theorem Kt.trans {g : Gl} {b a k : Nat} {md : MD} {x y z : KS} (h1 : Kt g b a k md x y) (h2 : Kt g b a k md y z) : Kt g b a k md x z :=
  ⟨⟨Nat.le_trans h1.1.1 h2.1.1, Nat.le_trans h1.1.2.1 h2.1.2.1, Nat.le_trans h1.1.2.2 h2.1.2.2⟩, fun p e s m sa below meth c H locs A ls R Q hC hA hP hz hS hl hR kk =>
    h1.2 p e s m sa below meth c H locs A ls R Q hC hA hP hz hS hl ⟨hR.1, hR.2.1, Nat.le_trans h2.1.1 hR.2.2.1, Nat.le_trans h2.1.2.1 hR.2.2.2.1, Nat.lt_of_le_of_lt h2.1.2.2 hR.2.2.2.2⟩ (fun ls H locs hP hz hS hl => h2.2 p e s m sa below meth c H locs A ls R Q hC hA hP hz hS hl hR kk)⟩
section KI
variable {g : Gl} {b a k : Nat} {md : MD} {pc : Nat} {lv : List (Option Value)} {st : List Value} {L : List ME} {n1 n2 : Nat}
theorem K_iconst {n : Int} (hd : decode md.2.2.1 pc = .ok (.iconst n, 1)) : Kt g b a k md (pc, lv, st, L, n1, n2) (pc + 1, lv, .int (Int32.ofInt n) :: st, L, n1, n2) :=
  ⟨⟨Nat.le_refl _, Nat.le_refl _, Nat.le_refl _⟩, fun p e s m sa below meth c H locs A ls R Q hC hA hP hz hS hl hR kk => lv_iconst hC.1 hC.2.1 hd rfl (kk ls H locs hP hz hS hl)⟩
theorem K_bipush {n : Int} (hd : decode md.2.2.1 pc = .ok (.bipush n, 2)) : Kt g b a k md (pc, lv, st, L, n1, n2) (pc + 2, lv, .int (Int8.ofInt n).toInt32 :: st, L, n1, n2) :=
  ⟨⟨Nat.le_refl _, Nat.le_refl _, Nat.le_refl _⟩, fun p e s m sa below meth c H locs A ls R Q hC hA hP hz hS hl hR kk => lv_bipush hC.1 hC.2.1 hd rfl (kk ls H locs hP hz hS hl)⟩
theorem K_sipush {n : Int} (hd : decode md.2.2.1 pc = .ok (.sipush n, 3)) : Kt g b a k md (pc, lv, st, L, n1, n2) (pc + 3, lv, .int (Int16.ofInt n).toInt32 :: st, L, n1, n2) :=
  ⟨⟨Nat.le_refl _, Nat.le_refl _, Nat.le_refl _⟩, fun p e s m sa below meth c H locs A ls R Q hC hA hP hz hS hl hR kk => lv_sipush hC.1 hC.2.1 hd rfl (kk ls H locs hP hz hS hl)⟩
theorem K_dup {w : Value} (hd : decode md.2.2.1 pc = .ok (.dup, 1)) (hw : w.category = 1) : Kt g b a k md (pc, lv, w :: st, L, n1, n2) (pc + 1, lv, w :: w :: st, L, n1, n2) :=
  ⟨⟨Nat.le_refl _, Nat.le_refl _, Nat.le_refl _⟩, fun p e s m sa below meth c H locs A ls R Q hC hA hP hz hS hl hR kk => lv_dup hC.1 hC.2.1 hd (by rw [cv_cat]; exact hw) (kk ls H locs hP hz hS hl)⟩
theorem K_iload_n {n : Fin 4} {x : Int32} (hd : decode md.2.2.1 pc = .ok (.iload_n n, 1)) (h : lv[n.val]? = some (some (.int x))) : Kt g b a k md (pc, lv, st, L, n1, n2) (pc + 1, lv, .int x :: st, L, n1, n2) :=
  ⟨⟨Nat.le_refl _, Nat.le_refl _, Nat.le_refl _⟩, fun p e s m sa below meth c H locs A ls R Q hC hA hP hz hS hl hR kk => lv_iload_n hC.1 hC.2.1 hd rfl (hl.2.2 _ _ h) (kk ls H locs hP hz hS hl)⟩
theorem K_aload_n {n : Fin 4} {x : Nat} (hd : decode md.2.2.1 pc = .ok (.aload_n n, 1)) (h : lv[n.val]? = some (some (.ref x))) : Kt g b a k md (pc, lv, st, L, n1, n2) (pc + 1, lv, .ref x :: st, L, n1, n2) :=
  ⟨⟨Nat.le_refl _, Nat.le_refl _, Nat.le_refl _⟩, fun p e s m sa below meth c H locs A ls R Q hC hA hP hz hS hl hR kk => lv_aload_n hC.1 hC.2.1 hd rfl (hl.2.2 _ _ h) (kk ls H locs hP hz hS hl)⟩
theorem K_istore_n {n : Fin 4} {x : Int32} (hd : decode md.2.2.1 pc = .ok (.istore_n n, 1)) (h : n.val < md.2.2.2.1) : Kt g b a k md (pc, lv, .int x :: st, L, n1, n2) (pc + 1, (kil lv n.val).set n.val (some (.int x)), st, L, n1, n2) :=
  ⟨⟨Nat.le_refl _, Nat.le_refl _, Nat.le_refl _⟩, fun p e s m sa below meth c H locs A ls R Q hC hA hP hz hS hl hR kk => lv_istore_n hC.1 hC.2.1 hd rfl (asc_has hl) h rfl (fun ls hl => kk ls H locs hP hz hS (sto1_lvh hl))⟩
theorem K_istore {n : Nat} {x : Int32} (hd : decode md.2.2.1 pc = .ok (.istore n, 2)) (h : n < md.2.2.2.1) : Kt g b a k md (pc, lv, .int x :: st, L, n1, n2) (pc + 2, (kil lv n).set n (some (.int x)), st, L, n1, n2) :=
  ⟨⟨Nat.le_refl _, Nat.le_refl _, Nat.le_refl _⟩, fun p e s m sa below meth c H locs A ls R Q hC hA hP hz hS hl hR kk => lv_istore hC.1 hC.2.1 hd (asc_has hl) h rfl (fun ls hl => kk ls H locs hP hz hS (sto1_lvh hl))⟩
theorem K_astore_n {n : Fin 4} {x : Nat} (hd : decode md.2.2.1 pc = .ok (.astore_n n, 1)) (h : n.val < md.2.2.2.1) : Kt g b a k md (pc, lv, .ref x :: st, L, n1, n2) (pc + 1, (kil lv n.val).set n.val (some (.ref x)), st, L, n1, n2) :=
  ⟨⟨Nat.le_refl _, Nat.le_refl _, Nat.le_refl _⟩, fun p e s m sa below meth c H locs A ls R Q hC hA hP hz hS hl hR kk => lv_astore_n hC.1 hC.2.1 hd rfl (asc_has hl) h rfl (fun ls hl => kk ls H locs hP hz hS (sto1_lvh hl))⟩
theorem K_iinc {i : Nat} {n : Int} {x : Int32} (hd : decode md.2.2.1 pc = .ok (.iinc i n, 3)) (hi : lv[i]? = some (some (.int x))) (h : i < md.2.2.2.1) : Kt g b a k md (pc, lv, st, L, n1, n2) (pc + 3, (kil lv i).set i (some (.int (x + Int32.ofInt n))), st, L, n1, n2) := by
  refine ⟨⟨Nat.le_refl _, Nat.le_refl _, Nat.le_refl _⟩, fun p e s m sa below meth c H locs A ls R Q hC hA hP hz hS hl hR kk => ?_⟩
  obtain ⟨q, hq⟩ := List.getElem?_of_mem (asc_mem (g := gb g b a) hi)
  exact lv_iinc hC.1 hC.2.1 hd (asc_has hl) hq rfl h rfl (fun ls hl => kk ls H locs hP hz hS (sto1_lvh hl))
theorem K_icmp_ge {x y : Int32} {off : Int} {tgt : Nat} (hd : decode md.2.2.1 pc = .ok (.if_icmp .ge off, 3)) (ht : (pc : Int) + off = (tgt : Int)) : Kt g b a k md (pc, lv, .int y :: .int x :: st, L, n1, n2) (if y ≤ x then tgt else pc + 3, lv, st, L, n1, n2) := by
  refine ⟨⟨Nat.le_refl _, Nat.le_refl _, Nat.le_refl _⟩, fun p e s m sa below meth c H locs A ls R Q hC hA hP hz hS hl hR kk => ?_⟩
  refine lv_icmp_ge hC.1 hC.2.1 hd ht (fun q => ?_) (fun q => ?_)
  · have h9 := kk ls H locs hP hz hS hl
    simp only [if_pos q] at h9
    exact h9
  · have h9 := kk ls H locs hP hz hS hl
    simp only [if_neg q] at h9
    exact h9
theorem K_goto {off : Int} {tgt : Nat} (hd : decode md.2.2.1 pc = .ok (.goto off, 3)) (ht : (pc : Int) + off = (tgt : Int)) : Kt g b a k md (pc, lv, st, L, n1, n2) (tgt, lv, st, L, n1, n2) :=
  ⟨⟨Nat.le_refl _, Nat.le_refl _, Nat.le_refl _⟩, fun p e s m sa below meth c H locs A ls R Q hC hA hP hz hS hl hR kk => lv_goto hC.1 hC.2.1 hd ht (kk ls H locs hP hz hS hl)⟩
theorem K_objInit {i x : Nat} (hd : decode md.2.2.1 pc = .ok (.invokespecial i, 3)) (hl0 : Cond.methodLink (ownN md.1) i Lib.objectInit ∈ WD) (hi : Cond.instanceMethod Lib.objectInit ∈ WD) (hcd : Cond.code Lib.objectInit ⟨#[0xb1]⟩ 1 none ∈ WD) (hk : 1 ≤ k) : Kt g b a k md (pc, lv, [.ref x], L, n1, n2) (pc + 3, lv, [], L, n1, n2) :=
  ⟨⟨Nat.le_refl _, Nat.le_refl _, Nat.le_refl _⟩, fun p e s m sa below meth c H locs A ls R Q hC hA hP hz hS hl hR kk =>
  W.objInit hC.1 hC.2.1 hC.2.2.2.1 (hC.2.2.2.2.1 _ hl0) (hC.2.2.2.2.1 _ hi) (hC.2.2.2.2.1 _ hcd) rfl (by rw [hC.2.2.1]; exact hl.1) rfl hd (Nat.le_trans hk hR.1) (by have h9 := hR.2.1; simp [F0]; omega) (kk ls H locs hP hz hS hl)⟩
end KI
