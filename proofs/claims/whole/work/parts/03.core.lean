/-! THE CORE. Memory of numbers (rd, rl); the shape of the heap is fixed (kd, rf). Rn: a method's body at pc, with locals lv, stack st, memory M, comes to its end with v and M'. Ms: a method's contract. -/
abbrev Mem : Type := (Nat → Nat → Int32) × (Nat → Nat → Int64)
def rd (M : Mem) (c i : Nat) : Int32 := M.1 c i
def rl (M : Mem) (c i : Nat) : Int64 := M.2 c i
def wr (M : Mem) (c i : Nat) (v : Int32) : Mem := (fun a j => if a = c ∧ j = i then v else M.1 a j, M.2)
def wl (M : Mem) (c i : Nat) (v : Int64) : Mem := (M.1, fun a j => if a = c ∧ j = i then v else M.2 a j)
def z0 : Mem := (fun _ _ => 0, fun _ _ => 0)
/-- launch, classes' numbers, arrays' classes, addresses -/
abbrev Gl : Type := Launch × va_G × (Nat → ClassId) × (Nat → Nat)
def cv (ad : Nat → Nat) : Value → Value
  | .ref a => .ref (ad a)
  | v => v
def fvs (g : Gl) (M : Mem) (ci c : Nat) : List Value := (List.range (nfl ci)).map (fun j => if frq ci j = true then Value.ref (g.2.2.2 (rf c j)) else .int (rd M c j))
def cnc (g : Gl) (M : Mem) (c : Nat) : va_E := match kd c with
  | (0, ci) => .inr (ci, fvs g M ci c)
  | (1, n) => .inl (g.2.2.1 1, n, .inl (rd M c))
  | (2, n) => .inl (g.2.2.1 2, n, .inl (rd M c))
  | (3, n) => .inl (g.2.2.1 3, n, .inl (rd M c))
  | (4, n) => .inl (g.2.2.1 4, n, .inr (.inl (rl M c)))
  | (k, n) => .inl (g.2.2.1 k, n, .inr (.inr (.inr (.inr (fun j => some (g.2.2.2 (rf c j)))))))
def wld (g : Gl) (M : Mem) : va_W := (List.range NC).map (fun c => (g.2.2.2 c, cnc g M c))
def tyG (g : Gl) : List (ClassId × FieldType) := [(g.2.2.1 1, .int), (g.2.2.1 2, .byte), (g.2.2.1 3, .boolean), (g.2.2.1 4, .long), (g.2.2.1 5, .array .int), (g.2.2.1 6, .object "LostMuseum$State"), (g.2.2.1 7, .object "LostMuseum$Timeline")]
theorem wld_get (g : Gl) (M : Mem) {c : Nat} (h : c < NC) : (wld g M)[c]? = some (g.2.2.2 c, cnc g M c) := by
  simp [wld, h]
theorem wld_getI {g : Gl} {M : Mem} {c : Nat} {q : Nat × va_E} (h : (wld g M)[c]? = some q) : c < NC ∧ q = (g.2.2.2 c, cnc g M c) := by
  have h1 : c < NC := by
    have := (List.getElem?_eq_some_iff.mp h).1
    simpa [wld] using this
  exact ⟨h1, Option.some.inj (h.symm.trans (wld_get g M h1))⟩
theorem wld_D {g : Gl} {M M' : Mem} {A : Nat → Prop} (h : va_D A (wld g M)) : va_D A (wld g M') := by
  refine ⟨fun i j p q hi hj e => ?_, fun k q hk => ?_⟩
  · obtain ⟨h1, rfl⟩ := wld_getI hi
    obtain ⟨h2, rfl⟩ := wld_getI hj
    exact h.1 i j _ _ (wld_get g M h1) (wld_get g M h2) e
  · obtain ⟨h1, rfl⟩ := wld_getI hk
    exact h.2 k (_, cnc g M k) (wld_get g M h1)
theorem wld_set {g : Gl} {M M' : Mem} {c : Nat} {e : va_E} (hc : c < NC) (he : cnc g M' c = e) (ho : ∀ a, a ≠ c → cnc g M' a = cnc g M a) : (wld g M).set c (g.2.2.2 c, e) = wld g M' := by
  apply List.ext_getElem?
  intro i
  by_cases hi : i < NC
  · rw [wld_get g M' hi]
    by_cases hic : i = c
    · subst hic
      rw [List.getElem?_set_self (by simpa [wld] using hi), he]
    · rw [List.getElem?_set_ne (Ne.symm hic), wld_get g M hi, ho i hic]
  · rw [List.getElem?_eq_none (by simp [wld]; omega), List.getElem?_eq_none (by simp [wld]; omega)]
theorem cnc_wr_ne (g : Gl) (M : Mem) {c a : Nat} (i : Nat) (v : Int32) (h : a ≠ c) : cnc g (wr M c i v) a = cnc g M a := by
  have e : ∀ j, rd (wr M c i v) a j = rd M a j := fun j => by simp [rd, wr, h]
  have e' : rd (wr M c i v) a = rd M a := funext e
  have e2 : rl (wr M c i v) a = rl M a := rfl
  unfold cnc fvs
  rw [e', e2]
theorem cnc_wl_ne (g : Gl) (M : Mem) {c a : Nat} (i : Nat) (v : Int64) (h : a ≠ c) : cnc g (wl M c i v) a = cnc g M a := by
  have e' : rl (wl M c i v) a = rl M a := funext fun j => by simp [rl, wl, h]
  have e2 : rd (wl M c i v) a = rd M a := rfl
  unfold cnc fvs
  rw [e', e2]
theorem cnc_o {g : Gl} {M : Mem} {c ci : Nat} (h : kd c = (0, ci)) : cnc g M c = .inr (ci, fvs g M ci c) := by unfold cnc; rw [h]; rfl
theorem cnc_1 {g : Gl} {M : Mem} {c n : Nat} (h : kd c = (1, n)) : cnc g M c = .inl (g.2.2.1 1, n, .inl (rd M c)) := by unfold cnc; rw [h]; rfl
theorem cnc_2 {g : Gl} {M : Mem} {c n : Nat} (h : kd c = (2, n)) : cnc g M c = .inl (g.2.2.1 2, n, .inl (rd M c)) := by unfold cnc; rw [h]; rfl
theorem cnc_3 {g : Gl} {M : Mem} {c n : Nat} (h : kd c = (3, n)) : cnc g M c = .inl (g.2.2.1 3, n, .inl (rd M c)) := by unfold cnc; rw [h]; rfl
theorem cnc_4 {g : Gl} {M : Mem} {c n : Nat} (h : kd c = (4, n)) : cnc g M c = .inl (g.2.2.1 4, n, .inr (.inl (rl M c))) := by unfold cnc; rw [h]; rfl
theorem cnc_5 {g : Gl} {M : Mem} {c n : Nat} (h : kd c = (5, n)) : cnc g M c = .inl (g.2.2.1 5, n, .inr (.inr (.inr (.inr (fun j => some (g.2.2.2 (rf c j))))))) := by unfold cnc; rw [h]; rfl
theorem cnc_6 {g : Gl} {M : Mem} {c n : Nat} (h : kd c = (6, n)) : cnc g M c = .inl (g.2.2.1 6, n, .inr (.inr (.inr (.inr (fun j => some (g.2.2.2 (rf c j))))))) := by unfold cnc; rw [h]; rfl
theorem cnc_7 {g : Gl} {M : Mem} {c n : Nat} (h : kd c = (7, n)) : cnc g M c = .inl (g.2.2.1 7, n, .inr (.inr (.inr (.inr (fun j => some (g.2.2.2 (rf c j))))))) := by unfold cnc; rw [h]; rfl
/-- the words of 'throw new NoSuchElementException(text)': its own constructor calls by another entry of its pool -/
def nseAt (own : String) (ic : Nat) : List Cond := (Bundle.throwableAtoms ++ Bundle.throwableSAtoms ++ Bundle.passSAtoms "java/util/NoSuchElementException" "java/lang/RuntimeException" 13 prog_30_method_4_code ++ Bundle.chainSAtoms "java/lang/RuntimeException" ["java/lang/Exception"] ++ [Cond.methodLink own ic (Bundle.initS "java/util/NoSuchElementException"), Cond.instantiable "java/util/NoSuchElementException" 6, Cond.castable "java/util/NoSuchElementException" "java/util/NoSuchElementException", Cond.selects "java/util/NoSuchElementException" Bundle.tFill0 Bundle.tFill0, Cond.selects "java/util/NoSuchElementException" Bundle.tFill Bundle.tFill, Cond.lays "java/util/NoSuchElementException" Bundle.tN "cause" "Ljava/lang/Throwable;", Cond.lays "java/util/NoSuchElementException" Bundle.tN "stackTrace" Bundle.steD, Cond.lays "java/util/NoSuchElementException" Bundle.tN "suppressedExceptions" Bundle.listD, Cond.lays "java/util/NoSuchElementException" Bundle.tN "detailMessage" "Ljava/lang/String;", Cond.isRef (Term.static Bundle.tN "UNASSIGNED_STACK" Bundle.steD), Cond.isRef (Term.static Bundle.tN "SUPPRESSED_SENTINEL" Bundle.listD), Cond.fieldLink Bundle.tN 198 Bundle.tN "backtrace" "Ljava/lang/Object;", Cond.lays Bundle.tN Bundle.tN "backtrace" "Ljava/lang/Object;", Cond.lays "java/util/NoSuchElementException" Bundle.tN "backtrace" "Ljava/lang/Object;"]).filter vx_no
/-- OWED (open): the law of that throw; the same as vx_throwSW, over nseAt -/
def NseLaw : Prop := ∀ (p : Program) (l : Launch) (e : Env) (R : Room) (s : State) (m : MethodId) (args : Array Value) (below : List Frame) (meth : Method) (c : Code) (H : Heap) (locs : List Loc) (cells slots : Nat) (free : Addr → Prop) (ls : Array Slot) (rest : List Value) (Qc : Array Value → State → Outcome → State → Prop) (XC : String → State → State → Prop) (cc : ByteArray) (pc : Nat) (own text : String) (ik is ic mc ms sa : Nat) (A : Nat → Prop),
  p.tables.exec = Jvm.exec → c.code = cc → l.stackTraces = false → s.vm.findClass own = some m.cls → (Cond.classLink own ik "java/util/NoSuchElementException").before args s = true → (Cond.initialized "java/util/NoSuchElementException").before args s = true → vk_R own is text sa s → (∀ w ∈ nseAt own ic, w.before args s = true) → (∀ w ∈ Cond.classLink own ik "java/util/NoSuchElementException" :: Cond.initialized "java/util/NoSuchElementException" :: nseAt own ic, vx_ot w = true) →
  vx_Zq Bundle.tN "UNASSIGNED_STACK" Bundle.steD A s s.heap → vx_Zq Bundle.tN "SUPPRESSED_SENTINEL" Bundle.listD A s s.heap → va_S A s.heap H locs → ls.size = c.maxLocals → decode cc pc = .ok (.new ik, 3) → decode cc (pc + 3) = .ok (.dup, 1) → decode cc (pc + 4) = .ok (.ldc_w is, 3) → decode cc (pc + 7) = .ok (.invokespecial ic, 3) → decode cc (pc + 10) = .ok (.athrow, 1) → (∀ x ∈ c.exceptionTable.toList, covers x (pc + 10) = false) →
  2 + 3 < R.frames → (rest.map fun v => v.category).sum + (13 * (2 + 1) + 43) ≤ R.locals → cells + 1 ≤ R.cells → slots + 6 ≤ R.slots → meth.locks = false → (∀ t : State, s.vm.Alike t.vm → H.size ≤ t.heap.size → (∀ q : Nat, q < H.size → t.heap[q]? = H[q]?) → XC "java/util/NoSuchElementException" s t) → (∀ z ∈ locs, free z.base) → cells + 1 ≤ mc → slots + 6 ≤ ms →
  W p l e R s m args below meth c H locs cells slots (vx_MQ below Qc XC args s mc ms free) (F0 m pc ls rest)
/-- the law's own script: its address, length and numbers stand in the address map, beyond all cells -/
def ScrOK (g : Gl) (A : Nat → Prop) (U : State) (H : Heap) : Prop := va_X (g.2.2.2 5000000) (g.2.2.2 5000001) (fun j => Int32.ofNat (g.2.2.2 (5000002 + j))) U H ∧ g.2.2.2 5000000 < H.size ∧ ¬ A (g.2.2.2 5000000)
theorem ScrOK.moved {g : Gl} {A : Nat → Prop} {u U : State} {H : Heap} (hvm : u.vm.Alike U.vm) (h : ScrOK g A u H) : ScrOK g A U H := ⟨h.1.moved hvm, h.2⟩
theorem ScrOK.kept {g : Gl} {A : Nat → Prop} {s : State} {H H1 : Heap} (h : ScrOK g A s H) (hq : ∀ a : Nat, a < H.size → ¬ A a → H1[a]? = H[a]?) : ScrOK g A s H1 := by
  have e := hq _ h.2.1 h.2.2
  refine ⟨h.1.kept e, ?_, h.2.2⟩
  rw [Array.getElem?_eq_getElem h.2.1] at e
  exact (Array.getElem?_eq_some_iff.mp e).1
theorem ScrOK.narrow {g : Gl} {A B : Nat → Prop} {s : State} {H : Heap} (h : ScrOK g A s H) (hAB : ∀ q, B q → A q) : ScrOK g B s H := ⟨h.1, h.2.1, fun z => h.2.2 (hAB _ z)⟩
/-- what else must hold of the start: texts and the like, that no method changes -/
def Xtra (g : Gl) (A : Nat → Prop) (U : State) (H : Heap) : Prop :=
  g.1.stackTraces = false ∧ vk_S nTX lenT bytT (fun i => g.2.2.2 (1000000 + i)) (fun i => g.2.2.2 (2000000 + i)) A U H ∧ va_Z "java/lang/String" "COMPACT_STRINGS" "Z" (.int 1) A U H ∧ (∀ q ∈ strT, vk_R q.1 q.2.1 q.2.2.1 (g.2.2.2 (1000000 + q.2.2.2)) U) ∧ vx_Zq Bundle.tN "UNASSIGNED_STACK" Bundle.steD A U H ∧ vx_Zq Bundle.tN "SUPPRESSED_SENTINEL" Bundle.listD A U H ∧ (∀ q ∈ nestT, va_Nw (.methodLinkNest q.1 q.2.1 q.2.2.1 q.2.2.2) U) ∧ (∀ q ∈ castT, va_Nw (.castable q.1 q.2) U) ∧ (∀ q ∈ declT, va_Nw (.declares q) U) ∧ va_Nc "java/lang/IllegalArgumentException" "java/util/NoSuchElementException" U ∧ (va_Z "jdk/internal/util/Preconditions" "SIOOBE_FORMATTER" "Ljava/util/function/BiFunction;" .null A U H ∨ va_Z "jdk/internal/util/Preconditions" "SIOOBE_FORMATTER" "Ljava/util/function/BiFunction;" (.ref (g.2.2.2 3000000)) A U H) ∧ ScrOK g A U H ∧ NseLaw
theorem Nc_moved {C T : String} {u U : State} (hvm : u.vm.Alike U.vm) (h : va_Nc C T u) : va_Nc C T U := h.moved hvm
theorem Xtra.warm {g : Gl} {A : Nat → Prop} {s U : State} {H : Heap} (hW : s.WarmedH U.vm) (h : Xtra g A s H) : Xtra g A U H :=
  ⟨h.1, h.2.1.moved hW.alike, h.2.2.1.moved hW.alike, fun q hq => (h.2.2.2.1 q hq).warm hW, h.2.2.2.2.1.moved hW.alike, h.2.2.2.2.2.1.moved hW.alike, fun q hq => (h.2.2.2.2.2.2.1 q hq).warmM hW, fun q hq => (h.2.2.2.2.2.2.2.1 q hq).warmC hW, fun q hq => (h.2.2.2.2.2.2.2.2.1 q hq).warmD hW, Nc_moved hW.alike h.2.2.2.2.2.2.2.2.2.1, h.2.2.2.2.2.2.2.2.2.2.1.imp (fun z => z.moved hW.alike) (fun z => z.moved hW.alike), h.2.2.2.2.2.2.2.2.2.2.2.1.moved hW.alike, h.2.2.2.2.2.2.2.2.2.2.2.2⟩
theorem Xtra.same {g : Gl} {A : Nat → Prop} {s U : State} {H : Heap} (hW : U.vm = s.vm) (h : Xtra g A s H) : Xtra g A U H := by
  have ha : s.vm.Alike U.vm := by rw [hW]; exact Vm.Alike.refl _
  exact ⟨h.1, h.2.1.moved ha, h.2.2.1.moved ha, fun q hq => (h.2.2.2.1 q hq).same hW, h.2.2.2.2.1.moved ha, h.2.2.2.2.2.1.moved ha, fun q hq => (h.2.2.2.2.2.2.1 q hq).same rfl hW.symm, fun q hq => (h.2.2.2.2.2.2.2.1 q hq).same rfl hW.symm, fun q hq => (h.2.2.2.2.2.2.2.2.1 q hq).same rfl hW.symm, Nc_moved ha h.2.2.2.2.2.2.2.2.2.1, h.2.2.2.2.2.2.2.2.2.2.1.imp (fun z => z.moved ha) (fun z => z.moved ha), h.2.2.2.2.2.2.2.2.2.2.2.1.moved ha, h.2.2.2.2.2.2.2.2.2.2.2.2⟩
theorem Xtra.kept {g : Gl} {A : Nat → Prop} {s : State} {H H1 : Heap} (h : Xtra g A s H) (hq : ∀ a : Nat, a < H.size → ¬ A a → H1[a]? = H[a]?) : Xtra g A s H1 :=
  ⟨h.1, h.2.1.kept hq, h.2.2.1.kept hq, h.2.2.2.1, h.2.2.2.2.1.kept hq, h.2.2.2.2.2.1.kept hq, h.2.2.2.2.2.2.1, h.2.2.2.2.2.2.2.1, h.2.2.2.2.2.2.2.2.1, h.2.2.2.2.2.2.2.2.2.1, h.2.2.2.2.2.2.2.2.2.2.1.imp (fun z => z.kept hq) (fun z => z.kept hq), h.2.2.2.2.2.2.2.2.2.2.2.1.kept hq, h.2.2.2.2.2.2.2.2.2.2.2.2⟩
theorem Xtra.narrow {g : Gl} {A B : Nat → Prop} {s : State} {H : Heap} (h : Xtra g A s H) (hAB : ∀ q, B q → A q) : Xtra g B s H :=
  ⟨h.1, h.2.1.narrow hAB, h.2.2.1.narrow hAB, h.2.2.2.1, h.2.2.2.2.1.narrow hAB, h.2.2.2.2.2.1.narrow hAB, h.2.2.2.2.2.2.1, h.2.2.2.2.2.2.2.1, h.2.2.2.2.2.2.2.2.1, h.2.2.2.2.2.2.2.2.2.1, h.2.2.2.2.2.2.2.2.2.2.1.imp (fun z => z.narrow hAB) (fun z => z.narrow hAB), h.2.2.2.2.2.2.2.2.2.2.2.1.narrow hAB, h.2.2.2.2.2.2.2.2.2.2.2.2⟩
/-- own class, name, code, locals, answer -/
abbrev MD : Type := Nat × MethodName × ByteArray × Nat × Option FieldType
def rmk (k : Nat) : Room := { frames := k, cells := 0, slots := 0, locals := 64 * k }
def CxF (g : Gl) (md : MD) (p : Program) (s : State) (m : MethodId) (sa : Array Value) (meth : Method) (c : Code) (A : Nat → Prop) : Prop :=
  p.tables.exec = Jvm.exec ∧ c.code = md.2.2.1 ∧ meth.sig.returnType = md.2.2.2.2 ∧ c.maxLocals = md.2.2.2.1 ∧ s.vm.findClass (ownN md.1) = some m.cls ∧ (∀ w ∈ WD, w.before sa s = true) ∧ va_K g.2.1 classes (tyG g) s ∧ va_D A (wld g z0) ∧ (∀ q, s.heap.size ≤ q → A q) ∧ meth.locks = false ∧ Xtra g A s s.heap
def lvh (g : Gl) (n : Nat) (ls : Array Slot) (lv : List (Option Value)) : Prop := ls.size = n ∧ lv_wf ls ∧ ∀ (i : Nat) (v : Value), lv[i]? = some (some v) → ls[i]? = some (.val (cv g.2.2.2 v))
def QcO (g : Gl) (A : Nat → Prop) (v : Option Value) (M' : Mem) : Array Value → State → Outcome → State → Prop := fun _ st oc t => (oc = .returned (v.map (cv g.2.2.2)) ∧ va_P g.2.1 classes (wld g M') t.heap ∧ va_K g.2.1 classes (tyG g) t) ∧ va_F A st t
/-- what the tables say of 'throw new E(text)' in a class -/
def thrOK (o ik ic : Nat) (E : String) : Prop := Bundle.fit E = true ∧ Cond.classLink (ownN o) ik E ∈ WD ∧ Cond.initialized E ∈ WD ∧ ((E = "java/lang/IllegalArgumentException" ∧ (∀ w ∈ Cond.classLink (ownN o) ik E :: Cond.initialized E :: vx_atS (ownN o) ic E ["java/lang/RuntimeException", "java/lang/Exception"], vx_ot w = true) ∧ ∀ w ∈ vx_atS (ownN o) ic E ["java/lang/RuntimeException", "java/lang/Exception"], w ∈ WD ∨ (∃ q ∈ castT, w = Cond.castable q.1 q.2) ∨ ∃ q ∈ declT, w = Cond.declares q) ∨
  (E = "java/util/NoSuchElementException" ∧ (∀ w ∈ Cond.classLink (ownN o) ik E :: Cond.initialized E :: nseAt (ownN o) ic, vx_ot w = true) ∧ ∀ w ∈ nseAt (ownN o) ic, w ∈ WD ∨ (∃ q ∈ castT, w = Cond.castable q.1 q.2) ∨ ∃ q ∈ declT, w = Cond.declares q))
/-- how a method ends: returned (what, memory), or threw (the name, memory) -/
abbrev Oc : Type := (Option Value × Mem) ⊕ (String × Mem)
def EndOK (g : Gl) (md : MD) (o : Oc) (p : Program) (e : Env) (s : State) (m : MethodId) (sa : Array Value) (below : List Frame) (meth : Method) (c : Code) (A : Nat → Prop) (R : Room) (b1 b2 : Nat) (Q : State → Prop) : Prop :=
  ∀ (pc : Nat) (ls : Array Slot) (H : Heap) (locs : List Loc) (n1 n2 : Nat), n1 ≤ b1 → n2 ≤ b2 → va_S A s.heap H locs → match o with
    | .inl (v, M') => va_P g.2.1 classes (wld g M') H → (∀ (x : Int32) (ty : FieldType), v = some (.int x) → md.2.2.2.2 = some ty → narrow ty (.int x) = .int x → decode md.2.2.1 pc = .ok (.ireturn, 1) → W p g.1 e R s m sa below meth c H locs n1 n2 Q (F0 m pc ls [.int x])) ∧ (∀ x : Int64, v = some (.long x) → md.2.2.2.2 = some .long → decode md.2.2.1 pc = .ok (.lreturn, 1) → W p g.1 e R s m sa below meth c H locs n1 n2 Q (F0 m pc ls [.long x])) ∧ (v = none → md.2.2.2.2 = none → decode md.2.2.1 pc = .ok (.return_, 1) → W p g.1 e R s m sa below meth c H locs n1 n2 Q (F0 m pc ls []))
    | .inr (E, M') => va_P g.2.1 classes (wld g M') H → (∀ (rest : List Value) (ce : Cell) (q9 : Addr) (i9 : Nat), decode md.2.2.1 pc = .ok (.invokevirtual i9, 3) → ls.size = md.2.2.2.1 → lv_wf ls → H[q9]? = some ce → ce.vm = .none → s.vm.findClass E = some ce.cls → vx_W p g.1 e R s m sa below meth c H locs n1 n2 Q (F0 m pc ls rest) q9) ∧ (∀ (rest : List Value) (ik is ic q : Nat) (tx : String), ls.size = md.2.2.2.1 → (rest.map fun v => v.category).sum ≤ 8 → n1 + 1 ≤ b1 → n2 + 6 ≤ b2 → n1 + 1 ≤ R.cells → n2 + 6 ≤ R.slots → 6 ≤ R.frames → 384 ≤ R.locals → (ownN md.1, is, tx, q) ∈ strT → thrOK md.1 ik ic E → decode md.2.2.1 pc = .ok (.new ik, 3) → decode md.2.2.1 (pc + 3) = .ok (.dup, 1) → decode md.2.2.1 (pc + 4) = .ok (.ldc_w is, 3) → decode md.2.2.1 (pc + 7) = .ok (.invokespecial ic, 3) → decode md.2.2.1 (pc + 10) = .ok (.athrow, 1) → W p g.1 e R s m sa below meth c H locs n1 n2 Q (F0 m pc ls rest))
def Rc (g : Gl) (k cx : Nat) (md : MD) (pc : Nat) (lv : List (Option Value)) (st : List Value) (M : Mem) (o : Oc) : Prop :=
  ∀ (p : Program) (e : Env) (s : State) (m : MethodId) (sa : Array Value) (below : List Frame) (meth : Method) (c : Code) (H : Heap) (locs : List Loc) (A : Nat → Prop) (ls : Array Slot) (R : Room) (n1 n2 b1 b2 : Nat) (Q : State → Prop),
    CxF g md p s m sa meth c A → va_P g.2.1 classes (wld g M) H → va_S A s.heap H locs → lvh g md.2.2.2.1 ls lv →
    (k ≤ R.frames ∧ 64 * k ≤ R.locals ∧ n1 + cx ≤ R.cells ∧ n2 + 6 * cx ≤ R.slots ∧ n1 + cx ≤ b1 ∧ n2 + 6 * cx ≤ b2) → EndOK g md o p e s m sa below meth c A R b1 b2 Q →
    W p g.1 e R s m sa below meth c H locs n1 n2 Q (F0 m pc ls (st.map (cv g.2.2.2)))
abbrev Rn (g : Gl) (k : Nat) (md : MD) (pc : Nat) (lv : List (Option Value)) (st : List Value) (M : Mem) (v : Option Value) (M' : Mem) : Prop := Rc g k 0 md pc lv st M (.inl (v, M'))
def PcO (g : Gl) (args : List Value) (M : Mem) (sz : Nat) : Array Value → State → Prop := va_Pc (args.map (cv g.2.2.2)) (fun U => U.heap.size = sz ∧ va_P g.2.1 classes (wld g M) U.heap ∧ va_K g.2.1 classes (tyG g) U ∧ va_D (fun _ => True) (wld g z0) ∧ Xtra g (va_A (wld g M) sz) U U.heap)
def wsM (md : MD) : List Cond := .code md.2.1 md.2.2.1 md.2.2.2.1 md.2.2.2.2 :: WD
def Ms (g : Gl) (k : Nat) (md : MD) (args : List Value) (M : Mem) (v : Option Value) (M' : Mem) : Prop :=
  ∀ sz : Nat, Met g.1 md.2.1 (wsM md) (rmk k) (PcO g args M sz) (QcO g (va_A (wld g M) sz) v M') 0 0 (va_A (wld g M) sz)
/-- what the tables say of a method -/
def okM (md : MD) : Prop := plainName md.2.1.cls = true ∧ md.2.1.cls = ownN md.1 ∧ md.2.2.2.1 ≤ 45 ∧ Cond.code md.2.1 md.2.2.1 md.2.2.2.1 md.2.2.2.2 ∈ WD
/-- the locals at the entry -/
def ent (n : Nat) : List Value → List (Option Value)
  | [] => List.replicate n none
  | v :: vs => if v.category = 2 then some v :: none :: ent (n - 2) vs else some v :: ent (n - 1) vs
def wid : List Value → Nat
  | [] => 0
  | v :: vs => (if v.category = 2 then 2 else 1) + wid vs
theorem cv_cat (ad : Nat → Nat) (v : Value) : (cv ad v).category = v.category := by cases v <;> rfl
theorem lg_wid (ad : Nat → Nat) (vs : List Value) : (lg_sl (vs.map (cv ad))).length = wid vs := by
  induction vs with
  | nil => rfl
  | cons v vs ih =>
    simp only [lg_sl, List.map_cons, List.flatMap_cons, List.length_append, cv_cat] at *
    rw [ih]
    show _ = (if v.category = 2 then 2 else 1) + wid vs
    by_cases h : v.category = 2 <;> simp [h]
theorem ent_args (ad : Nat → Nat) (vs : List Value) : ∀ (n i : Nat) (j : Nat) (v : Value), (ent n vs)[j]? = some (some v) → (i + j, cv ad v) ∈ lv_args i (vs.map (cv ad)) := by
  induction vs with
  | nil =>
    intro n i j v h
    simp only [ent] at h
    rw [List.getElem?_replicate] at h
    split at h <;> cases h
  | cons w vs ih =>
    intro n i j v h
    unfold ent at h
    simp only [List.map_cons, lv_args, cv_cat]
    by_cases hc : w.category = 2
    · rw [if_pos hc] at h
      simp only [hc, if_true]
      match j, h with
      | 0, h =>
        have : w = v := by simpa using h
        subst this
        exact List.mem_cons_self
      | 1, h => simp at h
      | j + 2, h =>
        refine List.mem_cons_of_mem _ ?_
        have h' : (ent (n - 2) vs)[j]? = some (some v) := by simpa using h
        have := ih (n - 2) (i + 2) j v h'
        rwa [show i + 2 + j = i + (j + 2) by omega] at this
    · rw [if_neg hc] at h
      simp only [hc, if_false]
      match j, h with
      | 0, h =>
        have : w = v := by simpa using h
        subst this
        exact List.mem_cons_self
      | j + 1, h =>
        refine List.mem_cons_of_mem _ ?_
        have h' : (ent (n - 1) vs)[j]? = some (some v) := by simpa using h
        have := ih (n - 1) (i + 1) j v h'
        rwa [show i + 1 + j = i + (j + 1) by omega] at this
theorem Ms.of {g : Gl} {k : Nat} {md : MD} {args : List Value} {M M' : Mem} {v : Option Value} (hok : okM md) (hw : wid args ≤ md.2.2.2.1) (h : Rn g k md 0 (ent md.2.2.2.1 args) [] M v M') : Ms g k md args M v M' := by
  intro sz
  refine Met.ofW (cc := md.2.2.1) (maxL := md.2.2.2.1) (ret := md.2.2.2.2) hok.1 rfl ?_
  intro p e s m sa below meth c s₁ B hml hv
  obtain ⟨rfl, hsz, hP, hK, hD0, hX⟩ := hv
  subst hsz
  have hts : ∀ w ∈ WD, w.before (args.map (cv g.2.2.2)).toArray s = true := fun w hw => atoms_spec (ws := wsM md) B.pre w (List.mem_cons_of_mem _ hw)
  have hown : s.vm.findClass (ownN md.1) = some m.cls := by rw [← hok.2.1]; exact findClass_of_methodNamed B.named
  have hl := lv_entry (args.map (cv g.2.2.2)) (n := md.2.2.2.1) (by rw [lg_wid]; exact hw)
  rw [lg_entry_eq]
  generalize (lg_sl (args.map (cv g.2.2.2)) ++ List.replicate (md.2.2.2.1 - (lg_sl (args.map (cv g.2.2.2))).length) Slot.unset).toArray = ls at hl ⊢
  have hD : va_D (va_A (wld g M) s.heap.size) (wld g z0) := wld_D (M := M) ((wld_D (M' := M) hD0).self)
  refine h p e s m _ below meth c s.heap [] (va_A (wld g M) s.heap.size) ls (rmk k) 0 0 0 0 _ ⟨B.exec, B.bytes, B.returns, hml, hown, hts, hK, hD, fun q h => Or.inr h, B.notSynchronized, hX⟩ hP va_S.rf
    ⟨hl.1, hl.2.1, fun i v hv => by
      have := ent_args g.2.2.2 args _ 0 i v hv
      rw [Nat.zero_add] at this
      exact hl.2.2 _ this⟩ ⟨Nat.le_refl _, Nat.le_refl _, Nat.le_refl _, Nat.le_refl _, Nat.le_refl _, Nat.le_refl _⟩ ?_
  intro pc ls H locs n1 n2 hn1 hn2 hS
  have e1 : n1 = 0 := Nat.le_zero.mp hn1
  have e2 : n2 = 0 := Nat.le_zero.mp hn2
  subst e1
  subst e2
  intro hP
  refine ⟨fun x ty hv ht hx hd => ?_, fun x hv ht hd => ?_, fun hv ht hd => ?_⟩
  · subst hv
    exact W.zret (v := x) B.exec B.bytes (B.returns.trans ht) hx (fun t ht hW => ⟨⟨rfl, by rw [ht]; exact hP, va_K.moved hW.alike hK⟩, hS.F ht⟩) hS.2.2 hd B.notSynchronized
  · subst hv
    exact W.lret (v := x) B.exec B.bytes (B.returns.trans ht) (fun t ht hW => ⟨⟨rfl, by rw [ht]; exact hP, va_K.moved hW.alike hK⟩, hS.F ht⟩) hS.2.2 hd B.notSynchronized
  · subst hv
    exact W.vret B.exec B.bytes (B.returns.trans ht) (fun t ht hW => ⟨⟨rfl, by rw [ht]; exact hP, va_K.moved hW.alike hK⟩, hS.F ht⟩) hS.2.2 hd B.notSynchronized
