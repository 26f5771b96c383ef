/-! THE LAW's OWN: its script; its methods that catch -/
theorem rb_err {α β : Type} {b : ByteArray} {pc : Nat} {x : DecodeError} (r : ClassFile.Decoder α) (f : α → ClassFile.Decoder β) (h : r.runAt b pc = .error x) : (r >>= f).runAt b pc = .error x := by
  show Except.bind (r.runAt b pc) _ = _
  rw [h]
  rfl
theorem u1_err {b : ByteArray} {pc : Nat} (h : ¬ pc < b.size) : (ClassFile.Reader.u1 : ClassFile.Decoder Nat).runAt b pc = .error (HasTruncated.truncated pc) := by
  show (dite (pc < b.size) _ _ : ClassFile.Decoder Nat) b pc = _
  rw [dif_neg h]
  rfl
theorem dec_out {b : ByteArray} {pc : Nat} (h : b.size ≤ pc) (r : Instr × Nat) : decode b pc ≠ .ok r := by
  have h2 : (ClassFile.Decoder.instr pc).runAt b pc = .error (HasTruncated.truncated pc) := by
    unfold ClassFile.Decoder.instr
    exact rb_err _ _ (u1_err (Nat.not_lt.mpr h))
  unfold decode
  rw [h2]
  intro h3
  cases h3
section RL
variable {g : Gl} {k : Nat} {md : MD} {pc : Nat} {lv : List (Option Value)} {st : List Value} {M : Mem} {o : Oc} {cx : Nat}
/-- the script's number at i -/
def scX (g : Gl) (i : Nat) : Int32 := Int32.ofNat (g.2.2.2 (5000002 + i))
theorem R_sld {i : Int32} (hd : decode md.2.2.1 pc = .ok (.iaload, 1)) (hi : vp_in i (g.2.2.2 5000001)) (hn : Rc g k cx md (pc + 1) lv (.int (scX g i.toNatClampNeg) :: st) M o) : Rc g k cx md pc lv (.int i :: .ref 5000000 :: st) M o := by
  intro p e s m sa below meth cc H locs A ls R n1 n2 b1 b2 Q hC hP hS hl hR hQ
  have hX := hC.2.2.2.2.2.2.2.2.2.2.2.2.2.2.2.2.2.2.2.2.2.1
  exact va_sld hC.1 hC.2.1 hX.1 hX.2.1 hX.2.2 hS hi hd (hn p e s m sa below meth cc H locs A ls R n1 n2 b1 b2 Q hC hP hS hl hR hQ)
theorem R_slen (hd : decode md.2.2.1 pc = .ok (.arraylength, 1)) (hn : Rc g k cx md (pc + 1) lv (.int (Int32.ofNat (g.2.2.2 5000001)) :: st) M o) : Rc g k cx md pc lv (.ref 5000000 :: st) M o := by
  intro p e s m sa below meth cc H locs A ls R n1 n2 b1 b2 Q hC hP hS hl hR hQ
  have hX := hC.2.2.2.2.2.2.2.2.2.2.2.2.2.2.2.2.2.2.2.2.2.1
  exact va_slen hC.1 hC.2.1 hX.1 hX.2.1 hX.2.2 hS hd (hn p e s m sa below meth cc H locs A ls R n1 n2 b1 b2 Q hC hP hS hl hR hQ)
end RL
abbrev HT : Type := List (Nat × Nat × Nat × Nat)
def wsW (md : MD) (hh : HT) : List Cond := .codeWith md.2.1 md.2.2.1 md.2.2.2.1 md.2.2.2.2 hh :: WD
def MsW (g : Gl) (k c : Nat) (md : MD) (hh : HT) (args : List Value) (M : Mem) (v : Int32) (M' : Mem) : Prop :=
  ∀ sz : Nat, vx_Met g.1 md.2.1 (wsW md hh) (rmX k c) (PcO g args M sz) (QcO g (va_A (wld g M) sz) (some (.int v)) M') (fun _ _ _ => False) c (6 * c) (va_A (wld g M) sz)
/-- what the tables say of a method that catches -/
def okW (md : MD) (hh : HT) : Prop := plainName md.2.1.cls = true ∧ md.2.1.cls = ownN md.1 ∧ md.2.2.2.1 ≤ 45 ∧ Cond.codeWith md.2.1 md.2.2.1 md.2.2.2.1 md.2.2.2.2 hh ∈ WD ∧ md.2.2.2.2 = some .int
/-- where it goes with E: the row that catches, those before it, the handler's code, that answers v -/
def catOK (md : MD) (hh : HT) (E : String) (v : Int32) : Prop :=
  (∃ (pre : HT) (x : Nat × Nat × Nat × Nat) (suf : HT) (n pc1 : Nat), hh = pre ++ x :: suf ∧ (pre = [] ∨ (E = "java/lang/IllegalArgumentException" ∧ ∀ z ∈ pre, z.2.2.2 ≠ 0 ∧ Cond.classLink (ownN md.1) z.2.2.2 "java/util/NoSuchElementException" ∈ WD)) ∧ x.2.2.2 ≠ 0 ∧ Cond.classLink (ownN md.1) x.2.2.2 E ∈ WD ∧ (E, E) ∈ castT ∧ n < md.2.2.2.1 ∧
    (∀ pc i, pc < md.2.2.1.size → decode md.2.2.1 pc = .ok (.invokevirtual i, 3) → x.1 ≤ pc ∧ pc < x.2.1) ∧
    ((decode md.2.2.1 x.2.2.1 = .ok (.astore n, 2) ∧ pc1 = x.2.2.1 + 2) ∨ (∃ f : Fin 4, decode md.2.2.1 x.2.2.1 = .ok (.astore_n f, 1) ∧ f.val = n ∧ pc1 = x.2.2.1 + 1)) ∧ decode md.2.2.1 pc1 = .ok (.iconst v.toInt, 1) ∧ decode md.2.2.1 (pc1 + 1) = .ok (.ireturn, 1))
theorem MsW.of {g : Gl} {k c : Nat} {md : MD} {hh : HT} {args : List Value} {M M' : Mem} {o : Oc} {v : Int32} (hok : okW md hh) (hw : wid args ≤ md.2.2.2.1) (hnew : ∀ pc ik, pc < md.2.2.1.size → decode md.2.2.1 pc ≠ .ok (.new ik, 3)) (h : Rc g k c md 0 (ent md.2.2.2.1 args) [] M o)
    (ho : o = .inl (some (.int v), M') ∨ ∃ E, o = .inr (E, M') ∧ catOK md hh E v) : MsW g k c md hh args M v M' := by
  intro sz
  refine vx_ofWH (cc := md.2.2.1) (maxL := md.2.2.2.1) (ret := md.2.2.2.2) (hh := hh) hok.1 rfl ?_
  intro p e s m sa below meth cd s₁ B hml hv
  obtain ⟨rfl, hsz, hP, hK, hD0, hX⟩ := hv
  subst hsz
  have hts0 : ∀ w ∈ wsW md hh, w.before (args.map (cv g.2.2.2)).toArray s = true := fun w hw => atoms_spec (ws := wsW md hh) B.pre w hw
  have hts : ∀ w ∈ WD, w.before (args.map (cv g.2.2.2)).toArray s = true := fun w hw => hts0 w (List.mem_cons_of_mem _ hw)
  have htab : cd.exceptionTable.toList = tableOf hh := vx_table (x := md.2.1) B (hts0 _ List.mem_cons_self)
  have hown : s.vm.findClass (ownN md.1) = some m.cls := by rw [← hok.2.1]; exact findClass_of_methodNamed B.named
  have hl := lv_entry (args.map (cv g.2.2.2)) (n := md.2.2.2.1) (by rw [lg_wid]; exact hw)
  rw [lg_entry_eq]
  generalize (lg_sl (args.map (cv g.2.2.2)) ++ List.replicate (md.2.2.2.1 - (lg_sl (args.map (cv g.2.2.2))).length) Slot.unset).toArray = ls at hl ⊢
  have hD : va_D (va_A (wld g M) s.heap.size) (wld g z0) := wld_D (M := M) ((wld_D (M' := M) hD0).self)
  have hC : CxF g md p s m (args.map (cv g.2.2.2)).toArray meth cd (va_A (wld g M) s.heap.size) := ⟨B.exec, B.bytes, B.returns, hml, hown, hts, hK, hD, fun q h => Or.inr h, B.notSynchronized, hX⟩
  have hret : ∀ (pc : Nat) (ls : Array Slot) (H : Heap) (locs : List Loc) (n1 n2 : Nat), n1 ≤ c → n2 ≤ 6 * c → va_S (va_A (wld g M) s.heap.size) s.heap H locs → va_P g.2.1 classes (wld g M') H → decode md.2.2.1 pc = .ok (.ireturn, 1) → W p g.1 e (rmX k c) s m (args.map (cv g.2.2.2)).toArray below meth cd H locs n1 n2 (vx_MQ below (QcO g (va_A (wld g M) s.heap.size) (some (.int v)) M') (fun _ _ _ => False) (args.map (cv g.2.2.2)).toArray s c (6 * c) (va_A (wld g M) s.heap.size)) (F0 m pc ls [.int v]) := by
    intro pc ls H locs n1 n2 hn1 hn2 hS hP1 hd
    refine W.widen (k := c) (n := 6 * c) hn1 hn2 (vx_ret ?_)
    exact W.zret (v := v) B.exec B.bytes (B.returns.trans hok.2.2.2.2) rfl (fun t ht hW => ⟨⟨rfl, by rw [ht]; exact hP1, va_K.moved hW.alike hK⟩, hS.F ht⟩) hS.2.2 hd B.notSynchronized
  refine h p e s m _ below meth cd s.heap [] (va_A (wld g M) s.heap.size) ls (rmX k c) 0 0 c (6 * c) _ hC hP va_S.rf
    ⟨hl.1, hl.2.1, fun i v hv => by
      have := ent_args g.2.2.2 args _ 0 i v hv
      rw [Nat.zero_add] at this
      exact hl.2.2 _ this⟩ ⟨Nat.le_refl _, Nat.le_refl _, Nat.le_of_eq (Nat.zero_add _), Nat.le_of_eq (Nat.zero_add _), Nat.le_of_eq (Nat.zero_add _), Nat.le_of_eq (Nat.zero_add _)⟩ ?_
  intro pc ls H locs n1 n2 hn1 hn2 hS
  rcases ho with rfl | ⟨E, rfl, hcat⟩
  · intro hP1
    refine ⟨fun x ty hv ht hx hd => ?_, fun x hv ht hd => ?_, fun hv ht hd => ?_⟩
    · cases hv
      exact hret pc ls H locs n1 n2 hn1 hn2 hS hP1 hd
    · cases hv
    · cases hv
  · intro hP1
    refine ⟨fun rest ce q9 i9 hd9 hz9 hw9 hc hv hcl => ?_, fun rest ik is ic q tx hsz hst hb1 hb2 hc1 hc2 hfr hlo hstr hthr d0 d3 d4 d6 d9 => ?_⟩
    · obtain ⟨pre, x, suf, n, pc1, hsp, hpre, hx0, hlk, hca, hn, hcov, hst, hic, hir⟩ := hcat
      have hlt : pc < md.2.2.1.size := Nat.not_le.mp fun z => dec_out z _ hd9
      have hco := hcov pc i9 hlt hd9
      have hcast : (Cond.castable E E).before (args.map (cv g.2.2.2)).toArray s = true := va_Nw.use rfl (hX.2.2.2.2.2.2.2.1 (E, E) hca)
      refine vx_catch (own := ownN md.1) (name := E) (E := E) hown (tableOf pre) ⟨x.1, x.2.1, x.2.2.1, x.2.2.2⟩ (tableOf suf) (by rw [htab, hsp]; simp [tableOf]) (fun z hz => ?_) (by simp [covers, hco.1, hco.2]) hx0 (hts _ hlk) hcast hc hv hcl ?_
      · obtain ⟨y, hy, rfl⟩ := List.mem_map.mp hz
        rcases hpre with rfl | ⟨rfl, hall⟩
        · cases hy
        · exact Or.inr ⟨(hall y hy).1, _, hts _ (hall y hy).2, hX.2.2.2.2.2.2.2.2.2.1⟩
      · have hfin : ∀ ls' : Array Slot, W p g.1 e (rmX k c) s m (args.map (cv g.2.2.2)).toArray below meth cd H locs n1 n2 (vx_MQ below (QcO g (va_A (wld g M) s.heap.size) (some (.int v)) M') (fun _ _ _ => False) (args.map (cv g.2.2.2)).toArray s c (6 * c) (va_A (wld g M) s.heap.size)) (F0 m pc1 ls' []) := fun ls' =>
          lv_iconst B.exec B.bytes hic rfl (by rw [Int32.ofInt_toInt]; exact hret (pc1 + 1) ls' H locs n1 n2 hn1 hn2 hS hP1 hir)
        have hh9 : lv_has ls md.2.2.2.1 [] := ⟨hz9, hw9, fun q hq => by cases hq⟩
        rcases hst with ⟨h1, h2⟩ | ⟨f, h1, h3, h2⟩
        · subst h2
          exact lv_astore B.exec B.bytes h1 hh9 hn rfl (fun ls' _ => hfin ls')
        · subst h2
          exact lv_astore_n B.exec B.bytes h1 h3 hh9 hn rfl (fun ls' _ => hfin ls')
    · exact absurd d0 (hnew pc ik (Nat.not_le.mp fun z => dec_out z _ d0))
/-- what the tables say of a call of it -/
def okWS (o i n : Nat) (mc : MD) (hh : HT) : Prop := okW mc hh ∧ (mc.2.1.cls ≠ "java/lang/invoke/MethodHandle" ∧ mc.2.1.cls ≠ "java/lang/invoke/VarHandle" ∧ (parseMethodDescriptor mc.2.1.desc).map (fun d => d.parameters.length) = some n) ∧ Cond.methodLink (ownN o) i mc.2.1 ∈ WD ∧ Cond.initialized mc.2.1.cls ∈ WD ∧ Cond.static mc.2.1 ∈ WD
section RW
variable {g : Gl} {k : Nat} {md : MD} {pc : Nat} {lv : List (Option Value)} {st : List Value} {M : Mem} {o : Oc} {cx : Nat}
theorem R_callW {i n d c1 : Nat} {mc : MD} {hh : HT} {As rest : List Value} {v : Int32} {M1 : Mem} (hd : decode md.2.2.1 pc = .ok (.invokestatic i, 3)) (hc : okWS md.1 i n mc hh) (hM : MsW g d c1 mc hh As M v M1) (hk : d + 1 ≤ k) (hs : st = As.reverse ++ rest) (hlen : As.length = n) (hst : wid rest ≤ 8) (hn : Rc g k cx md (pc + 3) lv (.int v :: rest) M1 o) : Rc g k (cx + c1) md pc lv st M o := by
  intro p e s m sa below meth cc H locs A ls R n1 n2 b1 b2 Q hC hP hS hl hR hQ
  obtain ⟨hok, hnm, hlink, hini, hstat⟩ := hc
  have hf : ∀ q, va_A (wld g M) H.size q → A q := wld_free hC.2.2.2.2.2.2.2.1 hS hC.2.2.2.2.2.2.2.2.1
  have hin : ∀ w ∈ va_wsS (ownN md.1) i mc.2.1 (wsW mc hh), w ∈ WD := by
    intro w hw
    simp only [va_wsS, List.mem_append, List.mem_cons, wsW] at hw
    rcases hw with hw | hw
    · rcases hw with rfl | rfl | rfl | hw
      · assumption
      · assumption
      · assumption
      · cases hw
    · rcases hw with rfl | hw
      · exact hok.2.2.2.1
      · exact hw
  have hrun := vx_runSX (hh := hh) (As := As.map (cv g.2.2.2)) (rest := rest.map (cv g.2.2.2)) (g := F0 m pc ls (st.map (cv g.2.2.2))) (locs := locs) (cells := n1) (slots := n2) (e := e) (below := below) (meth := meth) (n := n) (mc := c1) (ms := 6 * c1) (own := ownN md.1) (index := i) (maxL := mc.2.2.2.1) (bytes := mc.2.2.1) (ret := mc.2.2.2.2) (R := R) ⟨hC.1, hC.2.1, hC.2.2.2.1, hC.2.2.2.2.1, hC.2.2.2.2.2.1⟩ (hM H.size)
    (vx_cwSW n hC.2.2.2.2.2.1 (goodWD hin) rfl rfl rfl hnm (rmX_ok hk hok.2.2.1 hR.1 hR.2.1))
    ⟨PcO_blind, fun U hU hW => PcO_at As hC hP hS hf U hU hW⟩ rfl (by rw [List.length_map]; exact hlen) hl.1 (by rw [hs]; simp) (lv_room (by rw [wid_sum]; exact hst)) hd ⟨by omega, by omega⟩
  intro T0 hT X
  rcases hrun T0 hT X with ⟨v9, st₀, t, T', L, h0, X', hL, e1, e2, hQc, stp9⟩ | ⟨q, st₀, t, T', L, E, ce, h0, X', hL, e1, e2, hXc, hce, hcv, hcl, stp9⟩
  · obtain ⟨⟨hv, hP1, hK1⟩, hF⟩ := hQc
    have hv : v9 = some (.int v) := Outcome.returned.inj hv
    subst hv
    obtain ⟨hz, hk9⟩ := hF
    rw [h0] at hz hk9
    have h9 := hn p e s m sa below meth cc T'.heap (locs ++ L) A ls R (n1 + c1) (n2 + 6 * c1) b1 b2 Q hC (by rw [e1]; exact hP1)
      ⟨Nat.le_trans hS.1 (by rw [e1]; exact hz), fun q h1 h2 => by rw [e1, hk9 q (Nat.lt_of_lt_of_le h1 hS.1) (fun z => h2 (hf q z))]; exact hS.2.1 q h1 h2, fun q hq => by
        rcases List.mem_append.mp hq with h | h
        · exact hS.2.2 q h
        · exact hf _ (hL q h)⟩ hl ⟨hR.1, hR.2.1, by omega, by omega, by omega, by omega⟩ hQ
    obtain ⟨t2, a1, b1'⟩ := h9 T' rfl X'
    exact ⟨t2, stp9 t2 a1, b1'⟩
  · exact hXc.elim
end RW
