/-! MAKING: new int[n][k], and calls -/
theorem outer_at (c : ClassId) (N h0 : Nat) : ∀ i : Nat, Jvm.Free.Multi.outerC c N h0 i = arrV c N (fun j => va_rf (if j < i then some (h0 + 1 + j) else none))
  | 0 => by
    show ({ cls := c, slots := Array.replicate N .null, vm := .none } : Cell) = _
    rw [arrV_new]
    refine congrArg (arrV c N) (funext fun j => ?_)
    simp [va_rf]
  | i + 1 => by
    show (Jvm.Free.Multi.outerC c N h0 i).setSlot i (.ref (h0 + 1 + i)) = _
    rw [outer_at c N h0 i, arrV_store]
    refine congrArg (arrV c N) (funext fun j => ?_)
    by_cases e : j = i
    · subst e
      simp [updV, va_rf]
    · by_cases h : j < i
      · simp [updV, e, h, Nat.lt_succ_of_lt h]
      · simp [updV, e, h, show ¬ j < i + 1 by omega]
def rwsL (z N : Nat) : List (Option Nat) := (List.range N).map (fun i => some (z + 1 + i))
theorem rwsL_at (z N j : Nat) : (rwsL z N).getD j none = if j < N then some (z + 1 + j) else none := by
  rw [rwsL, List.getD_eq_getElem?_getD, List.getElem?_map]
  by_cases h : j < N
  · rw [List.getElem?_range h, if_pos h]; rfl
  · rw [List.getElem?_eq_none (by rw [List.length_range]; omega), if_neg h]; rfl
def rwsC (K N : Nat) : List ME := List.replicate N (.inr (.inl (1, K, [])))
section KC
variable {g : Gl} {b a k : Nat} {md : MD} {pc : Nat} {lv : List (Option Value)} {st : List Value} {L : List ME} {n1 n2 : Nat}
theorem K_mna {i : Nat} {n q : Int32} (hd : decode md.2.2.1 pc = .ok (.multianewarray i 2, 4)) (hf : md.1 = 12 ∧ i = 44) (hn : ¬ n < 0) (hq : ¬ q < 0) (hb1 : n.toNatClampNeg * 4 ≤ 536870912) (hb2 : q.toNatClampNeg * 4 ≤ 536870912) : Kt g b a k md (pc, lv, .int q :: .int n :: st, L, n1, n2) (pc + 4, lv, .ref L.length :: st, L ++ (.inr (.inr (5, n.toNatClampNeg, rwsL L.length n.toNatClampNeg)) :: rwsC q.toNatClampNeg n.toNatClampNeg), n1 + 1 + n.toNatClampNeg, n2 + n.toNatClampNeg + n.toNatClampNeg * q.toNatClampNeg) := by
  refine ⟨⟨by show n1 ≤ n1 + 1 + n.toNatClampNeg; omega, by show n2 ≤ n2 + n.toNatClampNeg + _; omega, by simp⟩, fun p e s m sa below meth c H locs A ls R Q hC hA hP hz hS hl hR kk2 => ?_⟩
  have hlen : L.length + (n.toNatClampNeg + 1) < 1000000 := by have := hR.2.2.2.2; simp [rwsC] at this; omega
  intro T hT Xs
  obtain ⟨hf1, rfl⟩ := hf
  have hown := hC.2.2.2.1
  have w1 : Cond.classLink (ownN md.1) 44 ("[" ++ (FieldType.array .int).toString) ∈ WD := by rw [hf1]; exact inW (i := 1404) (by decide +kernel) (by decide +kernel)
  have w2 : Cond.arrayClass .int ∈ WD := inW (i := 165) (by decide +kernel) (by decide +kernel)
  have hov : (Cond.arrayOver (.array .int)).before sa s = true := hC.2.2.2.2.2.2.2.2.2.2
  obtain ⟨vm₁, cA, comp, -, fA, fC, hO, -, X', step⟩ := Xs.multianewarray2F hC.1 hown (hC.2.2.2.2.1 _ w1) hov (hC.2.2.2.2.1 _ w2) (g := F0 m pc ls (.int q :: .int n :: st.map (cv (gb g b a).2.2.2))) rfl (by rw [hC.2.1]; exact hd) rfl hn hq hb1 hb2 (by omega) rfl rfl (by rw [← Nat.add_assoc]; exact hR.2.2.1) (by rw [← Nat.add_assoc]; exact hR.2.2.2.1)
  have hcy : s.vm.findClass ("[" ++ (FieldType.int).toString) = some (g.2.2.1 1) := (hC.2.2.2.2.2.1.2 0 _ rfl).2
  have hcA : s.vm.findClass ("[" ++ (FieldType.array .int).toString) = some (g.2.2.1 5) := (hC.2.2.2.2.2.1.2 4 _ rfl).2
  have ec : some (g.2.2.1 1) = some comp := hcy.symm.trans fC
  have ec := Option.some.inj ec
  have ea := Option.some.inj (hcA.symm.trans fA)
  subst ec
  subst ea
  generalize hF : Jvm.Free.Multi.fill (T.setVm vm₁) (g.2.2.1 5) (g.2.2.1 1) n.toNatClampNeg q.toNatClampNeg (defaultValue .int) n.toNatClampNeg = F at X' step
  have hTh : (T.setVm vm₁).heap = H := hT
  obtain ⟨f1, f2, -, -⟩ := Jvm.Free.Multi.fill_facts (T.setVm vm₁) (g.2.2.1 5) (g.2.2.1 1) n.toNatClampNeg q.toNatClampNeg (defaultValue .int) n.toNatClampNeg
  rw [hF, hTh] at f1 f2
  have hold : ∀ x : Nat, x < H.size → F.heap[x]? = H[x]? := fun x hx => by
    have := Jvm.Free.Multi.fill_old (T.setVm vm₁) (g.2.2.1 5) (g.2.2.1 1) n.toNatClampNeg q.toNatClampNeg (defaultValue .int) (a := x) (by rw [hTh]; exact hx) n.toNatClampNeg
    rw [hF, hTh] at this
    exact this
  have hrow : ∀ j : Nat, j < n.toNatClampNeg → F.heap[H.size + 1 + j]? = some (Jvm.Free.Multi.innerC (g.2.2.1 1) q.toNatClampNeg (defaultValue .int)) := fun j hj => by
    have := Jvm.Free.Multi.fill_inner (T.setVm vm₁) (g.2.2.1 5) (g.2.2.1 1) n.toNatClampNeg q.toNatClampNeg (defaultValue .int) n.toNatClampNeg j hj
    rw [hF, hTh] at this
    exact this
  rw [outer_at] at f2
  obtain ⟨y1, y2, y3⟩ := mkN (H1 := F.heap) (es := .inr (.inr (5, n.toNatClampNeg, rwsL L.length n.toNatClampNeg)) :: rwsC q.toNatClampNeg n.toNatClampNeg) hP hz hS (by rw [f1]; simp [rwsC]; omega) hold (fun j x hx => by
    cases j with
    | zero =>
      cases hx
      rw [Nat.add_zero, ← hz]
      show F.heap[H.size]? = some (vp_cell (g.2.2.1 5) _)
      rw [f2, vp_cell_q]
      congr 2
      funext j
      rw [rwsL_at]
      by_cases h : j < n.toNatClampNeg
      · simp only [h, if_true, Option.map_some]
        rw [adB_lt (by omega), hz, show b + (L.length + 1 + j) = b + L.length + 1 + j by omega]
      · simp only [h, if_false, Option.map_none]
    | succ j =>
      rw [List.getElem?_cons_succ, rwsC, List.getElem?_replicate] at hx
      split at hx
      · rename_i hj
        cases hx
        have h8 := hrow j hj
        rw [hz] at h8
        show F.heap[b + (L.length + (j + 1))]? = some (vp_cell (g.2.2.1 1) _)
        rw [show b + (L.length + (j + 1)) = b + L.length + 1 + j by omega, h8]
        congr 1
        show ({ cls := _, slots := Array.replicate _ _, vm := .none } : Cell) = _
        rw [arrV_new]
        rfl
      · cases hx)
  have h9 := kk2 ls F.heap locs y1 y2 y3 hl
  have e9 : (cv (gb g b a).2.2.2 (.ref L.length)) = .ref H.size := by
    show Value.ref (adB b a L.length) = _
    rw [adB_lt (by omega), hz]
  simp only [List.map_cons, e9] at h9
  obtain ⟨t, a1, b1⟩ := h9 F rfl X'
  refine ⟨t, step t ?_, b1⟩
  have e : T.heap.size = H.size := by rw [hT]
  rw [e]
  exact a1
end KC
def rmC (k cx sx : Nat) : Room := { frames := k, cells := cx, slots := sx, locals := 64 * k }
/-- a contract of making: L0 lies from b on, then nothing; behind it L1 -/
def MsC (g : Gl) (b a k cx sx : Nat) (md : MD) (args : List Value) (L0 L1 : List ME) : Prop :=
  Met g.1 md.2.1 (wsM md) (rmC k cx sx) (va_Pc (args.map (cv (adB b a))) (fun U => U.heap.size = b + L0.length ∧ va_P g.2.1 classes (sqW g.2.2.1 b a L0) U.heap ∧ va_K g.2.1 classes (tyG g) U ∧ XK U)) (fun _ st oc t => (oc = .returned none ∧ t.heap.size = b + L1.length ∧ va_P g.2.1 classes (sqW g.2.2.1 b a L1) t.heap) ∧ va_F (fun q => b ≤ q) st t) cx sx (fun q => b ≤ q)
theorem MsC.of {g : Gl} {b a k cx sx pcE : Nat} {md : MD} {args : List Value} {L0 L1 : List ME} {lv : List (Option Value)} (hok : okM md) (hret : md.2.2.2.2 = none) (hw : wid args ≤ md.2.2.2.1) (hE : decode md.2.2.1 pcE = .ok (.return_, 1)) (hL : L1.length < 1000000) (h : Kt g b a k md (0, ent md.2.2.2.1 args, [], L0, 0, 0) (pcE, lv, [], L1, cx, sx)) : MsC g b a k cx sx md args L0 L1 := by
  refine Met.ofW (cc := md.2.2.1) (maxL := md.2.2.2.1) (ret := md.2.2.2.2) hok.1 rfl ?_
  intro p e s m sa below meth c s₁ B hml hv
  obtain ⟨rfl, hsz, hP, hK, hX⟩ := hv
  have hts : ∀ w ∈ WD, w.before (args.map (cv (adB b a))).toArray s = true := fun w hw => atoms_spec (ws := wsM md) B.pre w (List.mem_cons_of_mem _ hw)
  have hown : s.vm.findClass (ownN md.1) = some m.cls := by rw [← hok.2.1]; exact findClass_of_methodNamed B.named
  have hl := lv_entry (args.map (cv (adB b a))) (n := md.2.2.2.1) (by rw [lg_wid]; exact hw)
  rw [lg_entry_eq]
  generalize (lg_sl (args.map (cv (adB b a))) ++ List.replicate (md.2.2.2.1 - (lg_sl (args.map (cv (adB b a)))).length) Slot.unset).toArray = ls at hl ⊢
  refine h.2 p e s m _ below meth c s.heap [] (fun q => b ≤ q) ls (rmC k cx sx) _ ⟨B.exec, B.bytes, hml, hown, hts, hK, fun h => (name_of_methodNamed B.named B.method).1.trans h, hX⟩ (fun q h => h) hP hsz va_S.rf
    ⟨hl.1, hl.2.1, fun i v hv => by
      have := ent_args (adB b a) args _ 0 i v hv
      rw [Nat.zero_add] at this
      exact hl.2.2 _ this⟩ ⟨Nat.le_refl _, Nat.le_refl _, Nat.le_refl _, Nat.le_refl _, hL⟩ ?_
  intro ls H locs hP1 hz1 hS _
  exact W.vret B.exec B.bytes (B.returns.trans hret) (fun t ht hW => ⟨⟨rfl, by rw [ht]; exact hz1, by rw [ht]; exact hP1⟩, hS.F ht⟩) hS.2.2 hE B.notSynchronized
theorem goK {g : Gl} {R : Room} {n1 n2 cx sx b a : Nat} {p : Program} {e : Env} {s : State} {m : MethodId} {sa : Array Value} {below : List Frame} {meth : Method} {c : Code} {H : Heap} {locs : List Loc} {A : Nat → Prop} {ls : Array Slot} {st0 rest : List Value} {pc : Nat} {L1 : List ME} {Q : State → Prop}
    (hr : va_Run p g.1 e R s m sa below meth c H locs n1 n2 cx sx (F0 m pc ls st0) rest (fun st oc t => (oc = .returned none ∧ t.heap.size = b + L1.length ∧ va_P g.2.1 classes (sqW g.2.2.1 b a L1) t.heap) ∧ va_F (fun q => b ≤ q) st t) (fun q => b ≤ q)) (hS : va_S A s.heap H locs) (hA : ∀ q, b ≤ q → A q)
    (kk : ∀ (H1 : Heap) (locs1 : List Loc), va_P g.2.1 classes (sqW g.2.2.1 b a L1) H1 → H1.size = b + L1.length → va_S A s.heap H1 locs1 → W p g.1 e R s m sa below meth c H1 locs1 (n1 + cx) (n2 + sx) Q (F0 m (pc + 3) ls rest)) : W p g.1 e R s m sa below meth c H locs n1 n2 Q (F0 m pc ls st0) := by
  intro T hT X
  obtain ⟨v, st₀, t, T', L, h0, X', hL, e1, e2, ⟨⟨hv, hz1, hP1⟩, hz, hk⟩, st⟩ := hr T hT X
  have hv : v = none := Outcome.returned.inj hv
  subst hv
  rw [h0] at hz hk
  obtain ⟨t2, a1, b1⟩ := kk T'.heap (locs ++ L) (by rw [e1]; exact hP1) (by rw [e1]; exact hz1)
    ⟨Nat.le_trans hS.1 (by rw [e1]; exact hz), fun q h1 h2 => by rw [e1, hk q (Nat.lt_of_lt_of_le h1 hS.1) (fun z => h2 (hA q z))]; exact hS.2.1 q h1 h2, fun q hq => by
      rcases List.mem_append.mp hq with h | h
      · exact hS.2.2 q h
      · exact hA _ (hL q h)⟩ T' rfl X'
  exact ⟨t2, st t2 a1, b1⟩
/-- constructors as a call names them -/
def okJ (o i n : Nat) (mc : MD) : Prop := okM mc ∧ (mc.2.1.cls ≠ "java/lang/invoke/MethodHandle" ∧ mc.2.1.cls ≠ "java/lang/invoke/VarHandle" ∧ (parseMethodDescriptor mc.2.1.desc).map (fun d => d.parameters.length) = some n) ∧ (Cond.methodLink (ownN o) i mc.2.1 ∈ WD ∨ (ownN o, i, mc.2.1, "LostMuseum") ∈ nestT) ∧ Cond.initialized mc.2.1.cls ∈ WD ∧ Cond.instanceMethod mc.2.1 ∈ WD ∧ mc.2.1.name = "<init>" ∧ mc.2.2.2.2 = none
theorem rmC_ok {d k maxL cx sx : Nat} {R : Room} (h : d + 1 ≤ k) (hm : maxL ≤ 45) (h1 : k ≤ R.frames) (h2 : 64 * k ≤ R.locals) : (rmC d cx sx).frames + 1 ≤ R.frames ∧ 8 + (maxL + 11) + (rmC d cx sx).locals ≤ R.locals := by
  refine ⟨Nat.le_trans h h1, ?_⟩
  show 8 + (maxL + 11) + 64 * d ≤ R.locals
  omega
theorem PcK_blind {g : Gl} {b a : Nat} {args : List Value} {L : List ME} : FrameBlind (va_Pc args (fun U => U.heap.size = b + L.length ∧ va_P g.2.1 classes (sqW g.2.2.1 b a L) U.heap ∧ va_K g.2.1 classes (tyG g) U ∧ XK U)) := by
  intro x U f mk q
  obtain ⟨q0, q1, qP, qK, qX⟩ := q
  exact ⟨q0, q1, qP, va_K.moved (u := U) (U := U.calling f mk x) (Vm.Alike.refl U.vm) qK, qX.same rfl⟩
theorem PcK_at {g : Gl} {b a : Nat} {md : MD} {p : Program} {s : State} {m : MethodId} {sa : Array Value} {meth : Method} {c : Code} {H : Heap} {L : List ME} (args : List Value) (hC : CxK g md p s m sa meth c) (hP : va_P g.2.1 classes (sqW g.2.2.1 b a L) H) (hz : H.size = b + L.length) : ∀ U : State, U.heap = H → s.WarmedH U.vm → va_Pc (args.map (cv (adB b a))) (fun U => U.heap.size = b + L.length ∧ va_P g.2.1 classes (sqW g.2.2.1 b a L) U.heap ∧ va_K g.2.1 classes (tyG g) U ∧ XK U) (args.map (cv (adB b a))).toArray U := by
  intro U hU hW
  exact ⟨rfl, by rw [hU]; exact hz, by rw [hU]; exact hP, va_K.moved hW.alike hC.2.2.2.2.2.1, hC.2.2.2.2.2.2.2.warm hW⟩
section KD
variable {g : Gl} {b a k : Nat} {md : MD} {pc : Nat} {lv : List (Option Value)} {st : List Value} {L L1 : List ME} {n1 n2 cx sx : Nat}
theorem K_callI {i n d z : Nat} {mc : MD} {As rest : List Value} (hd : decode md.2.2.1 pc = .ok (.invokespecial i, 3)) (hc : okJ md.1 i n mc) (hM : MsC g b a d cx sx mc (.ref z :: As) L L1) (hk : d + 1 ≤ k) (hs : st = As.reverse ++ .ref z :: rest) (hlen : As.length = n) (hst : wid rest ≤ 8) (hL : L.length ≤ L1.length) : Kt g b a k md (pc, lv, st, L, n1, n2) (pc + 3, lv, rest, L1, n1 + cx, n2 + sx) := by
  refine ⟨⟨Nat.le_add_right _ _, Nat.le_add_right _ _, hL⟩, fun p e s m sa below meth c H locs A ls R Q hC hA hP hz hS hl hR kk => ?_⟩
  obtain ⟨hok, hnm, hlink, hini, hinst, hnam, hret⟩ := hc
  have hst2 : (F0 m pc ls (st.map (cv (gb g b a).2.2.2))).stack = (As.map (cv (adB b a))).reverse ++ .ref (adB b a z) :: rest.map (cv (adB b a)) := by
    show st.map (cv (adB b a)) = _
    rw [hs]; simp [cv]
  have hrun : va_Run p g.1 e R s m sa below meth c H locs n1 n2 cx sx (F0 m pc ls (st.map (cv (gb g b a).2.2.2))) (rest.map (cv (adB b a))) (fun st oc t => (oc = .returned none ∧ t.heap.size = b + L1.length ∧ va_P g.2.1 classes (sqW g.2.2.1 b a L1) t.heap) ∧ va_F (fun q => b ≤ q) st t) (fun q => b ≤ q) := by
    rcases hlink with hlink | hlink
    · exact va_runI (As := As.map (cv (adB b a))) ⟨hC.1, hC.2.1, hC.2.2.1, hC.2.2.2.1, hC.2.2.2.2.1⟩ hM
        ⟨callB_of n hC.2.2.2.2.1 (goodWD (wsM_in hok)) (by rw [wsM, hret]) rfl rfl (hC.2.2.2.2.1 _ hini) (hC.2.2.2.2.1 _ hlink) hnm (rmC_ok hk hok.2.2.1 hR.1 hR.2.1), hnam, hC.2.2.2.2.1 _ hinst⟩
        ⟨PcK_blind, fun U hU hW => PcK_at (.ref z :: As) hC hP hz U hU hW⟩ rfl (by rw [List.length_map]; exact hlen) hl.1 hst2 (lv_room (by rw [wid_sum]; exact hst)) hd ⟨hR.2.2.1, hR.2.2.2.1⟩
    · exact va_runIN (As := As.map (cv (adB b a))) ⟨hC.1, hC.2.1, hC.2.2.1, hC.2.2.2.1, hC.2.2.2.2.1⟩ hM
        ⟨va_cnB n hC.2.2.2.2.1 (goodWD (wsM_in hok)) (by rw [wsM, hret]) rfl rfl (hC.2.2.2.2.2.2.2.1 _ hlink) (hC.2.2.2.2.1 _ hini) hnm (rmC_ok hk hok.2.2.1 hR.1 hR.2.1), hnam, hC.2.2.2.2.1 _ hinst⟩
        ⟨PcK_blind, fun U hU hW => PcK_at (.ref z :: As) hC hP hz U hU hW⟩ rfl (by rw [List.length_map]; exact hlen) hl.1 hst2 (lv_room (by rw [wid_sum]; exact hst)) hd ⟨hR.2.2.1, hR.2.2.2.1⟩
  exact goK hrun hS hA (fun H1 locs1 hP1 hz1 hS1 => kk ls H1 locs1 hP1 hz1 hS1 hl)
theorem K_callV {i n d z : Nat} {mc : MD} {As rest : List Value} {fs : List MV} (hd : decode md.2.2.1 pc = .ok (.invokevirtual i, 3)) (hc : okV md.1 i n mc) (hM : MsC g b a d cx sx mc (.ref z :: As) L L1) (hk : d + 1 ≤ k) (hb : L[z]? = some (.inl (mc.1, fs))) (hs : st = As.reverse ++ .ref z :: rest) (hlen : As.length = n) (hst : wid rest ≤ 8) (hL : L.length ≤ L1.length) : Kt g b a k md (pc, lv, st, L, n1, n2) (pc + 3, lv, rest, L1, n1 + cx, n2 + sx) := by
  refine ⟨⟨Nat.le_add_right _ _, Nat.le_add_right _ _, hL⟩, fun p e s m sa below meth c H locs A ls R Q hC hA hP hz hS hl hR kk => ?_⟩
  obtain ⟨h13, hok, hnm, hlink, hini, hinst, hsel⟩ := hc
  have hz1 : z < 1000000 := Nat.lt_of_lt_of_le (List.getElem?_eq_some_iff.mp hb).1 (Nat.le_trans hL (Nat.le_of_lt hR.2.2.2.2))
  have hst2 : (F0 m pc ls (st.map (cv (gb g b a).2.2.2))).stack = (As.map (cv (adB b a))).reverse ++ .ref (adB b a z) :: rest.map (cv (adB b a)) := by
    show st.map (cv (adB b a)) = _
    rw [hs]; simp [cv]
  obtain ⟨C, T, N, h1⟩ : ∃ (C : String) (T : u_T) (N : Nat), classes[mc.1]? = some (C, T, N) := cls_ex h13
  have hCls : ownN mc.1 = C := (clsOK h1).2.2.2.2.2
  have hyC : mc.2.1.cls = C := hok.2.1.trans hCls
  have hr : ∃ cell : Cell, H[adB b a z]? = some cell ∧ cell.vm.isStatics = false ∧ s.vm.findClass C = some cell.cls := by
    rw [adB_lt hz1]
    exact va_recv hC.2.2.2.2.2.1 hP h1 (q0 := z) (sqW_some hb)
  have hrun := va_runV (As := As.map (cv (adB b a))) (rest := rest.map (cv (adB b a))) (g := F0 m pc ls (st.map (cv (gb g b a).2.2.2))) (C := C) (locs := locs) (cells := n1) (slots := n2) (e := e) (below := below) (meth := meth) ⟨hC.1, hC.2.1, hC.2.2.1, hC.2.2.2.1, hC.2.2.2.2.1⟩ hM
    (show CallW R s sa (ownN md.1) C i mc.2.1 mc.2.2.1 mc.2.2.2.1 mc.2.2.2.2 (wsM mc) (rmC d cx sx) cx sx n from ⟨callB_of n hC.2.2.2.2.1 (goodWD (wsM_in hok)) rfl rfl rfl (hC.2.2.2.2.1 _ hini) (hC.2.2.2.2.1 _ hlink) hnm (rmC_ok hk hok.2.2.1 hR.1 hR.2.1), hC.2.2.2.2.1 _ hinst, by rw [← hyC]; exact hC.2.2.2.2.1 _ hsel⟩)
    ⟨PcK_blind, hr, fun U hU hW => PcK_at (.ref z :: As) hC hP hz U hU hW⟩ rfl (by rw [List.length_map]; exact hlen) hl.1 hst2 (lv_room (by rw [wid_sum]; exact hst)) hd ⟨hR.2.2.1, hR.2.2.2.1⟩
  exact goK hrun hS hA (fun H1 locs1 hP1 hz1 hS1 => kk ls H1 locs1 hP1 hz1 hS1 hl)
theorem K_callS {i n d : Nat} {mc : MD} {As rest : List Value} (hd : decode md.2.2.1 pc = .ok (.invokestatic i, 3)) (hc : okS md.1 i n mc) (hM : MsC g b a d cx sx mc As L L1) (hk : d + 1 ≤ k) (hs : st = As.reverse ++ rest) (hlen : As.length = n) (hst : wid rest ≤ 8) (hL : L.length ≤ L1.length) : Kt g b a k md (pc, lv, st, L, n1, n2) (pc + 3, lv, rest, L1, n1 + cx, n2 + sx) := by
  refine ⟨⟨Nat.le_add_right _ _, Nat.le_add_right _ _, hL⟩, fun p e s m sa below meth c H locs A ls R Q hC hA hP hz hS hl hR kk => ?_⟩
  obtain ⟨hok, hnm, hlink, hini, hstat⟩ := hc
  have hst2 : (F0 m pc ls (st.map (cv (gb g b a).2.2.2))).stack = (As.map (cv (adB b a))).reverse ++ rest.map (cv (adB b a)) := by
    show st.map (cv (adB b a)) = _
    rw [hs]; simp
  have hrun := va_runS (As := As.map (cv (adB b a))) (rest := rest.map (cv (adB b a))) (g := F0 m pc ls (st.map (cv (gb g b a).2.2.2))) (locs := locs) (cells := n1) (slots := n2) (e := e) (below := below) (meth := meth) ⟨hC.1, hC.2.1, hC.2.2.1, hC.2.2.2.1, hC.2.2.2.2.1⟩ hM
    (show CallB R s sa (ownN md.1) i mc.2.1 mc.2.2.1 mc.2.2.2.1 mc.2.2.2.2 (wsM mc) (rmC d cx sx) cx sx n ∧ (Cond.static mc.2.1).before sa s = true from ⟨callB_of n hC.2.2.2.2.1 (goodWD (wsM_in hok)) rfl rfl rfl (hC.2.2.2.2.1 _ hini) (hC.2.2.2.2.1 _ hlink) hnm (rmC_ok hk hok.2.2.1 hR.1 hR.2.1), hC.2.2.2.2.1 _ hstat⟩)
    ⟨PcK_blind, fun U hU hW => PcK_at As hC hP hz U hU hW⟩ rfl (by rw [List.length_map]; exact hlen) hl.1 hst2 (lv_room (by rw [wid_sum]; exact hst)) hd ⟨hR.2.2.1, hR.2.2.2.1⟩
  exact goK hrun hS hA (fun H1 locs1 hP1 hz1 hS1 => kk ls H1 locs1 hP1 hz1 hS1 hl)
end KD
