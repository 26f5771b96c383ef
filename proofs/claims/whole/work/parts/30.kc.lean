/-! MAKING: cells are made one behind the other from a base b on; what lies in them is told by places -/
abbrev RV : Type := Int32 ⊕ Option Nat
abbrev RE : Type := (Nat × List RV) ⊕ (Nat × Nat × List (Nat × Int32)) ⊕ (Nat × Nat × List (Option Nat))
def evV (b : Nat) : RV → Value
  | .inl x => .int x
  | .inr none => .null
  | .inr (some z) => .ref (b + z)
def lkA (xs : List (Nat × Int32)) (j : Nat) : Int32 := match xs with
  | [] => 0
  | q :: r => if q.1 = j then q.2 else lkA r j
def evE (ar : Nat → ClassId) (b : Nat) : RE → va_E
  | .inl (ci, fs) => .inr (ci, fs.map (evV b))
  | .inr (.inl (k, n, xs)) => .inl (ar k, n, if k = 4 then .inr (.inl fun _ => 0) else .inl (lkA xs))
  | .inr (.inr (k, n, rs)) => .inl (ar k, n, .inr (.inr (.inr (.inr (fun j => (rs.getD j none).map (fun z => b + z))))))
def sqW (ar : Nat → ClassId) (b : Nat) : Nat → List RE → va_W
  | _, [] => []
  | z, e :: es => (b + z, evE ar b e) :: sqW ar b (z + 1) es
theorem sqW_app (ar : Nat → ClassId) (b : Nat) : ∀ (z : Nat) (l1 l2 : List RE), sqW ar b z (l1 ++ l2) = sqW ar b z l1 ++ sqW ar b (z + l1.length) l2
  | z, [], l2 => rfl
  | z, e :: l1, l2 => by
    show (b + z, evE ar b e) :: sqW ar b (z + 1) (l1 ++ l2) = _
    rw [sqW_app ar b (z + 1) l1 l2, List.length_cons, show z + 1 + l1.length = z + (l1.length + 1) by omega]
    rfl
theorem sqW_get (ar : Nat → ClassId) (b : Nat) : ∀ (z : Nat) (l : List RE) (i : Nat), (sqW ar b z l)[i]? = (l[i]?).map (fun e => (b + (z + i), evE ar b e))
  | z, [], i => by simp [sqW]
  | z, e :: l, 0 => by simp [sqW]
  | z, e :: l, i + 1 => by
    show (sqW ar b (z + 1) l)[i]? = _
    rw [sqW_get ar b (z + 1) l i, List.getElem?_cons_succ, show z + 1 + i = z + (i + 1) by omega]
theorem sqW_len (ar : Nat → ClassId) (b : Nat) : ∀ (z : Nat) (l : List RE), (sqW ar b z l).length = l.length
  | _, [] => rfl
  | z, _ :: l => congrArg Nat.succ (sqW_len ar b (z + 1) l)
theorem sqW_set (ar : Nat → ClassId) (b : Nat) : ∀ (z : Nat) (l : List RE) (i : Nat) (e : RE), (sqW ar b z l).set i (b + (z + i), evE ar b e) = sqW ar b z (l.set i e)
  | z, [], i, e => by simp [sqW]
  | z, x :: l, 0, e => by simp [sqW]
  | z, x :: l, i + 1, e => by
    show (b + z, evE ar b x) :: (sqW ar b (z + 1) l).set i _ = _
    rw [show z + (i + 1) = z + 1 + i by omega, sqW_set ar b (z + 1) l i e]
    rfl
theorem sqW_at {ar : Nat → ClassId} {b z : Nat} {l : List RE} {i : Nat} {q : Nat × va_E} (h : (sqW ar b z l)[i]? = some q) : ∃ e, l[i]? = some e ∧ q = (b + (z + i), evE ar b e) ∧ i < l.length := by
  rw [sqW_get] at h
  obtain ⟨e, h1, h2⟩ := Option.map_eq_some_iff.mp h
  exact ⟨e, h1, h2.symm, (List.getElem?_eq_some_iff.mp h1).1⟩
theorem sqW_D {ar : Nat → ClassId} {b z : Nat} {l : List RE} {A : Nat → Prop} (hA : ∀ q, b + z ≤ q → A q) : va_D A (sqW ar b z l) := by
  refine ⟨fun i j p q hi hj e => ?_, fun k q hk => ?_⟩
  · obtain ⟨_, _, rfl, _⟩ := sqW_at hi
    obtain ⟨_, _, rfl, _⟩ := sqW_at hj
    dsimp only at e
    omega
  · obtain ⟨_, _, rfl, _⟩ := sqW_at hk
    exact hA _ (by dsimp only; omega)
def gi (g : Gl) : Gl := (g.1, g.2.1, g.2.2.1, id)
/-- the array class over int[] -/
def aOI (U : State) : Prop := (Cond.arrayOver (.array .int)).before #[] U = true
theorem aOI.moved {u U : State} (hvm : u.vm.Alike U.vm) (h : aOI u) : aOI U := by
  have h2 : (Cond.arrayOver (.array .int)).before #[] (u.setVm U.vm) = true := by rw [Cond.arrayOver_setVmC hvm]; exact h
  unfold aOI
  simp only [Cond.before, Cond.holds, Cond.value, State.vm_setVm] at h2 ⊢
  exact h2
/-- what else the making needs of the start -/
def XK (U : State) : Prop := (∀ q ∈ nestT, va_Nw (.methodLinkNest q.1 q.2.1 q.2.2.1 q.2.2.2) U) ∧ va_AO "LostMuseum$State" U ∧ va_AO "LostMuseum$Timeline" U ∧ aOI U
theorem XK.warm {s U : State} (hW : s.WarmedH U.vm) (h : XK s) : XK U := ⟨fun q hq => (h.1 q hq).warmM hW, h.2.1.moved hW.alike, h.2.2.1.moved hW.alike, h.2.2.2.moved hW.alike⟩
theorem XK.same {s U : State} (hW : U.vm = s.vm) (h : XK s) : XK U := by
  have ha : s.vm.Alike U.vm := by rw [hW]; exact Vm.Alike.refl _
  exact ⟨fun q hq => (h.1 q hq).same rfl hW.symm, h.2.1.moved ha, h.2.2.1.moved ha, h.2.2.2.moved ha⟩
def CxK (g : Gl) (md : MD) (p : Program) (s : State) (m : MethodId) (sa : Array Value) (meth : Method) (c : Code) : Prop :=
  p.tables.exec = Jvm.exec ∧ c.code = md.2.2.1 ∧ meth.sig.returnType = none ∧ c.maxLocals = md.2.2.2.1 ∧ s.vm.findClass (ownN md.1) = some m.cls ∧ (∀ w ∈ WD, w.before sa s = true) ∧ va_K g.2.1 classes (tyG g) s ∧ meth.locks = false ∧ meth.name = md.2.1.name ∧ XK s
def Kc (g : Gl) (b z k cx sx : Nat) (md : MD) (pc : Nat) (lv : List (Option Value)) (st : List Value) (L L1 : List RE) : Prop :=
  ∀ (p : Program) (e : Env) (s : State) (m : MethodId) (sa : Array Value) (below : List Frame) (meth : Method) (c : Code) (H : Heap) (locs : List Loc) (A : Nat → Prop) (ls : Array Slot) (R : Room) (n1 n2 : Nat) (Q : State → Prop),
    CxK g md p s m sa meth c → (∀ q, b + z ≤ q → A q) → va_P g.2.1 classes (sqW g.2.2.1 b z L) H → H.size = b + (z + L.length) → va_S A s.heap H locs → lvh (gi g) md.2.2.2.1 ls lv →
    (k ≤ R.frames ∧ 64 * k ≤ R.locals ∧ n1 + cx ≤ R.cells ∧ n2 + sx ≤ R.slots) →
    (∀ (pc : Nat) (ls : Array Slot) (H : Heap) (locs : List Loc), va_P g.2.1 classes (sqW g.2.2.1 b z L1) H → H.size = b + (z + L1.length) → va_S A s.heap H locs → decode md.2.2.1 pc = .ok (.return_, 1) → W p g.1 e R s m sa below meth c H locs (n1 + cx) (n2 + sx) Q (F0 m pc ls [])) →
    W p g.1 e R s m sa below meth c H locs n1 n2 Q (F0 m pc ls (st.map (cv (gi g).2.2.2)))
def rmC (k cx sx : Nat) : Room := { frames := k, cells := cx, slots := sx, locals := 64 * k }
/-- a contract of making: this lies at b + z, the cells L0 from there on, then nothing; behind it L1 -/
def MsC (g : Gl) (b z k cx sx : Nat) (md : MD) (args : List Value) (L0 L1 : List RE) : Prop :=
  Met g.1 md.2.1 (wsM md) (rmC k cx sx) (va_Pc args (fun U => U.heap.size = b + (z + L0.length) ∧ va_P g.2.1 classes (sqW g.2.2.1 b z L0) U.heap ∧ va_K g.2.1 classes (tyG g) U ∧ XK U)) (fun _ st oc t => (oc = .returned none ∧ t.heap.size = b + (z + L1.length) ∧ va_P g.2.1 classes (sqW g.2.2.1 b z L1) t.heap ∧ va_K g.2.1 classes (tyG g) t) ∧ va_F (fun q => b + z ≤ q) st t) cx sx (fun q => b + z ≤ q)
theorem cvid (v : Value) : cv id v = v := by cases v <;> rfl
theorem cvids (l : List Value) : l.map (cv id) = l := by
  induction l with
  | nil => rfl
  | cons v l ih => rw [List.map_cons, ih, cvid]
theorem MsC.of {g : Gl} {b z k cx sx : Nat} {md : MD} {args : List Value} {L0 L1 : List RE} (hok : okM md) (hret : md.2.2.2.2 = none) (hw : wid args ≤ md.2.2.2.1) (h : Kc g b z k cx sx md 0 (ent md.2.2.2.1 args) [] L0 L1) : MsC g b z k cx sx md args L0 L1 := by
  refine Met.ofW (cc := md.2.2.1) (maxL := md.2.2.2.1) (ret := md.2.2.2.2) hok.1 rfl ?_
  intro p e s m sa below meth c s₁ B hml hv
  obtain ⟨rfl, hsz, hP, hK, hX⟩ := hv
  have hts : ∀ w ∈ WD, w.before args.toArray s = true := fun w hw => atoms_spec (ws := wsM md) B.pre w (List.mem_cons_of_mem _ hw)
  have hown : s.vm.findClass (ownN md.1) = some m.cls := by rw [← hok.2.1]; exact findClass_of_methodNamed B.named
  have hl := lv_entry args (n := md.2.2.2.1) (by have := lg_wid id args; rw [cvids] at this; rw [this]; exact hw)
  rw [lg_entry_eq]
  generalize (lg_sl args ++ List.replicate (md.2.2.2.1 - (lg_sl args).length) Slot.unset).toArray = ls at hl ⊢
  refine h p e s m _ below meth c s.heap [] (fun q => b + z ≤ q) ls (rmC k cx sx) 0 0 _ ⟨B.exec, B.bytes, B.returns.trans hret, hml, hown, hts, hK, B.notSynchronized, (name_of_methodNamed B.named B.method).1, hX⟩ (fun q h => h) hP hsz va_S.rf
    ⟨hl.1, hl.2.1, fun i v hv => by
      have := ent_args id args _ 0 i v hv
      rw [Nat.zero_add, cvids] at this
      exact hl.2.2 _ this⟩ ⟨Nat.le_refl _, Nat.le_refl _, Nat.le_of_eq (Nat.zero_add _), Nat.le_of_eq (Nat.zero_add _)⟩ ?_
  intro pc ls H locs hP1 hz1 hS hd
  rw [Nat.zero_add, Nat.zero_add]
  exact W.vret B.exec B.bytes (B.returns.trans hret) (fun t ht hW => ⟨⟨rfl, by rw [ht]; exact hz1, by rw [ht]; exact hP1, va_K.moved hW.alike hK⟩, hS.F ht⟩) hS.2.2 hd B.notSynchronized
section KI
variable {g : Gl} {b z k cx sx : Nat} {md : MD} {pc : Nat} {lv : List (Option Value)} {st : List Value} {L L1 : List RE}
theorem K_iconst {n : Int} (hd : decode md.2.2.1 pc = .ok (.iconst n, 1))  (hn : Kc g b z k cx sx md (pc + 1) lv (.int (Int32.ofInt n) :: st) L L1) : Kc g b z k cx sx md pc lv (st) L L1 := fun p e s m sa below meth c H locs A ls R n1 n2 Q hC hA hP hz hS hl hR hQ => lv_iconst hC.1 hC.2.1 hd rfl (hn p e s m sa below meth c H locs A ls R n1 n2 Q hC hA hP hz hS hl hR hQ)
theorem K_bipush {n : Int} (hd : decode md.2.2.1 pc = .ok (.bipush n, 2))  (hn : Kc g b z k cx sx md (pc + 2) lv (.int (Int8.ofInt n).toInt32 :: st) L L1) : Kc g b z k cx sx md pc lv (st) L L1 := fun p e s m sa below meth c H locs A ls R n1 n2 Q hC hA hP hz hS hl hR hQ => lv_bipush hC.1 hC.2.1 hd rfl (hn p e s m sa below meth c H locs A ls R n1 n2 Q hC hA hP hz hS hl hR hQ)
theorem K_sipush {n : Int} (hd : decode md.2.2.1 pc = .ok (.sipush n, 3))  (hn : Kc g b z k cx sx md (pc + 3) lv (.int (Int16.ofInt n).toInt32 :: st) L L1) : Kc g b z k cx sx md pc lv (st) L L1 := fun p e s m sa below meth c H locs A ls R n1 n2 Q hC hA hP hz hS hl hR hQ => lv_sipush hC.1 hC.2.1 hd rfl (hn p e s m sa below meth c H locs A ls R n1 n2 Q hC hA hP hz hS hl hR hQ)
theorem K_dup {w : Value} (hd : decode md.2.2.1 pc = .ok (.dup, 1)) (hw : w.category = 1) (hn : Kc g b z k cx sx md (pc + 1) lv (w :: w :: st) L L1) : Kc g b z k cx sx md pc lv (w :: st) L L1 := fun p e s m sa below meth c H locs A ls R n1 n2 Q hC hA hP hz hS hl hR hQ => lv_dup hC.1 hC.2.1 hd (by rw [cv_cat]; exact hw) (hn p e s m sa below meth c H locs A ls R n1 n2 Q hC hA hP hz hS hl hR hQ)
theorem K_iload_n {n : Fin 4} {x : Int32} (hd : decode md.2.2.1 pc = .ok (.iload_n n, 1)) (h : lv[n.val]? = some (some (.int x))) (hn : Kc g b z k cx sx md (pc + 1) lv (.int x :: st) L L1) : Kc g b z k cx sx md pc lv st L L1 := fun p e s m sa below meth c H locs A ls R n1 n2 Q hC hA hP hz hS hl hR hQ => lv_iload_n hC.1 hC.2.1 hd rfl (hl.2.2 _ _ h) (hn p e s m sa below meth c H locs A ls R n1 n2 Q hC hA hP hz hS hl hR hQ)
theorem K_aload_n {n : Fin 4} {x : Nat} (hd : decode md.2.2.1 pc = .ok (.aload_n n, 1)) (h : lv[n.val]? = some (some (.ref x))) (hn : Kc g b z k cx sx md (pc + 1) lv (.ref x :: st) L L1) : Kc g b z k cx sx md pc lv st L L1 := fun p e s m sa below meth c H locs A ls R n1 n2 Q hC hA hP hz hS hl hR hQ => lv_aload_n hC.1 hC.2.1 hd rfl (hl.2.2 _ _ h) (hn p e s m sa below meth c H locs A ls R n1 n2 Q hC hA hP hz hS hl hR hQ)
theorem K_istore_n {n : Fin 4} {x : Int32} (hd : decode md.2.2.1 pc = .ok (.istore_n n, 1)) (h : n.val < md.2.2.2.1) (hn : Kc g b z k cx sx md (pc + 1) ((kil lv n.val).set n.val (some (.int x))) st L L1) : Kc g b z k cx sx md pc lv (.int x :: st) L L1 := fun p e s m sa below meth c H locs A ls R n1 n2 Q hC hA hP hz hS hl hR hQ => lv_istore_n hC.1 hC.2.1 hd rfl (asc_has hl) h rfl (fun ls hl => hn p e s m sa below meth c H locs A ls R n1 n2 Q hC hA hP hz hS (sto1_lvh hl) hR hQ)
theorem K_iinc {i : Nat} {n : Int} {x : Int32} (hd : decode md.2.2.1 pc = .ok (.iinc i n, 3)) (hi : lv[i]? = some (some (.int x))) (h : i < md.2.2.2.1) (hn : Kc g b z k cx sx md (pc + 3) ((kil lv i).set i (some (.int (x + Int32.ofInt n)))) st L L1) : Kc g b z k cx sx md pc lv st L L1 := by
  intro p e s m sa below meth c H locs A ls R n1 n2 Q hC hA hP hz hS hl hR hQ
  obtain ⟨q, hq⟩ := List.getElem?_of_mem (asc_mem (g := gi g) hi)
  exact lv_iinc hC.1 hC.2.1 hd (asc_has hl) hq rfl h rfl (fun ls hl => hn p e s m sa below meth c H locs A ls R n1 n2 Q hC hA hP hz hS (sto1_lvh hl) hR hQ)
theorem K_icmp_ge {x y : Int32} {off : Int} {tgt : Nat} (hd : decode md.2.2.1 pc = .ok (.if_icmp .ge off, 3)) (ht : (pc : Int) + off = (tgt : Int)) (kt : y ≤ x → Kc g b z k cx sx md tgt lv st L L1) (kf : ¬ y ≤ x → Kc g b z k cx sx md (pc + 3) lv st L L1) : Kc g b z k cx sx md pc lv (.int y :: .int x :: st) L L1 := fun p e s m sa below meth c H locs A ls R n1 n2 Q hC hA hP hz hS hl hR hQ => lv_icmp_ge hC.1 hC.2.1 hd ht (fun q => kt q p e s m sa below meth c H locs A ls R n1 n2 Q hC hA hP hz hS hl hR hQ) (fun q => kf q p e s m sa below meth c H locs A ls R n1 n2 Q hC hA hP hz hS hl hR hQ)
theorem K_goto {off : Int} {tgt : Nat} (hd : decode md.2.2.1 pc = .ok (.goto off, 3)) (ht : (pc : Int) + off = (tgt : Int)) (kt : Kc g b z k cx sx md tgt lv st L L1) : Kc g b z k cx sx md pc lv st L L1 := fun p e s m sa below meth c H locs A ls R n1 n2 Q hC hA hP hz hS hl hR hQ => lv_goto hC.1 hC.2.1 hd ht (kt p e s m sa below meth c H locs A ls R n1 n2 Q hC hA hP hz hS hl hR hQ)
theorem K_ret (hd : decode md.2.2.1 pc = .ok (.return_, 1)) : Kc g b z k 0 0 md pc lv [] L L := fun p e s m sa below meth c H locs A ls R n1 n2 Q hC hA hP hz hS hl hR hQ => hQ pc ls H locs hP hz hS hd
theorem K_objInit {i a : Nat} (hd : decode md.2.2.1 pc = .ok (.invokespecial i, 3)) (hl0 : Cond.methodLink (ownN md.1) i Lib.objectInit ∈ WD) (hi : Cond.instanceMethod Lib.objectInit ∈ WD) (hcd : Cond.code Lib.objectInit ⟨#[0xb1]⟩ 1 none ∈ WD) (hk : 1 ≤ k) (hn : Kc g b z k cx sx md (pc + 3) lv [] L L1) : Kc g b z k cx sx md pc lv [.ref a] L L1 := fun p e s m sa below meth c H locs A ls R n1 n2 Q hC hA hP hz hS hl hR hQ =>
  W.objInit hC.1 hC.2.1 hC.2.2.2.2.1 (hC.2.2.2.2.2.1 _ hl0) (hC.2.2.2.2.2.1 _ hi) (hC.2.2.2.2.2.1 _ hcd) rfl (by rw [hC.2.2.2.1]; exact hl.1) rfl hd (Nat.le_trans hk hR.1) (by have h9 := hR.2.1; simp [F0]; omega) (hn p e s m sa below meth c H locs A ls R n1 n2 Q hC hA hP hz hS hl hR hQ)
end KI
