/-! METHODS THAT RETURN OR THROW -/
def rmX (k c : Nat) : Room := { frames := k, cells := c, slots := 6 * c, locals := 64 * k }
def QcX (g : Gl) (A : Nat → Prop) (o : Oc) : Array Value → State → Outcome → State → Prop := fun a st oc t => match o with
  | .inl (v, M') => QcO g A v M' a st oc t
  | .inr _ => False
def XcX (g : Gl) (A : Nat → Prop) (o : Oc) : String → State → State → Prop := fun E st t => match o with
  | .inl _ => False
  | .inr (E0, M') => E = E0 ∧ va_P g.2.1 classes (wld g M') t.heap ∧ va_K g.2.1 classes (tyG g) t ∧ va_F A st t
def MsX (g : Gl) (k c : Nat) (md : MD) (args : List Value) (M : Mem) (o : Oc) : Prop :=
  ∀ sz : Nat, vx_Met g.1 md.2.1 (wsM md) (rmX k c) (PcO g args M sz) (QcX g (va_A (wld g M) sz) o) (XcX g (va_A (wld g M) sz) o) c (6 * c) (va_A (wld g M) sz)
theorem MsX.of {g : Gl} {k c : Nat} {md : MD} {args : List Value} {M : Mem} {o : Oc} (hok : okM md) (hw : wid args ≤ md.2.2.2.1) (h : Rc g k c md 0 (ent md.2.2.2.1 args) [] M o) : MsX g k c md args M o := by
  intro sz
  refine vx_ofW (cc := md.2.2.1) (maxL := md.2.2.2.1) (ret := md.2.2.2.2) hok.1 rfl ?_
  intro p e s m sa below meth cd s₁ B hml hex hv
  obtain ⟨rfl, hsz, hP, hK, hD0, hX⟩ := hv
  subst hsz
  have hts : ∀ w ∈ WD, w.before (args.map (cv g.2.2.2)).toArray s = true := fun w hw => atoms_spec (ws := wsM md) B.pre w (List.mem_cons_of_mem _ hw)
  have hown : s.vm.findClass (ownN md.1) = some m.cls := by rw [← hok.2.1]; exact findClass_of_methodNamed B.named
  have hl := lv_entry (args.map (cv g.2.2.2)) (n := md.2.2.2.1) (by rw [lg_wid]; exact hw)
  rw [lg_entry_eq]
  generalize (lg_sl (args.map (cv g.2.2.2)) ++ List.replicate (md.2.2.2.1 - (lg_sl (args.map (cv g.2.2.2))).length) Slot.unset).toArray = ls at hl ⊢
  have hD : va_D (va_A (wld g M) s.heap.size) (wld g z0) := wld_D (M := M) ((wld_D (M' := M) hD0).self)
  refine h p e s m _ below meth cd s.heap [] (va_A (wld g M) s.heap.size) ls (rmX k c) 0 0 c (6 * c) _ ⟨B.exec, B.bytes, B.returns, hml, hown, hts, hK, hD, fun q h => Or.inr h, B.notSynchronized, hX⟩ hP va_S.rf
    ⟨hl.1, hl.2.1, fun i v hv => by
      have := ent_args g.2.2.2 args _ 0 i v hv
      rw [Nat.zero_add] at this
      exact hl.2.2 _ this⟩ ⟨Nat.le_refl _, Nat.le_refl _, Nat.le_of_eq (Nat.zero_add _), Nat.le_of_eq (Nat.zero_add _), Nat.le_of_eq (Nat.zero_add _), Nat.le_of_eq (Nat.zero_add _)⟩ ?_
  intro pc ls H locs n1 n2 hn1 hn2 hS
  match o with
  | .inl (v, M') =>
    intro hP
    refine ⟨fun x ty hv ht hx hd => ?_, fun x hv ht hd => ?_, fun hv ht hd => ?_⟩
    · subst hv
      refine W.widen (k := c) (n := 6 * c) hn1 hn2 (vx_ret ?_)
      exact W.zret (v := x) B.exec B.bytes (B.returns.trans ht) hx (fun t ht hW => ⟨⟨rfl, by rw [ht]; exact hP, va_K.moved hW.alike hK⟩, hS.F ht⟩) hS.2.2 hd B.notSynchronized
    · subst hv
      refine W.widen (k := c) (n := 6 * c) hn1 hn2 (vx_ret ?_)
      exact W.lret (v := x) B.exec B.bytes (B.returns.trans ht) (fun t ht hW => ⟨⟨rfl, by rw [ht]; exact hP, va_K.moved hW.alike hK⟩, hS.F ht⟩) hS.2.2 hd B.notSynchronized
    · subst hv
      refine W.widen (k := c) (n := 6 * c) hn1 hn2 (vx_ret ?_)
      exact W.vret B.exec B.bytes (B.returns.trans ht) (fun t ht hW => ⟨⟨rfl, by rw [ht]; exact hP, va_K.moved hW.alike hK⟩, hS.F ht⟩) hS.2.2 hd B.notSynchronized
  | .inr (E, M') =>
    intro hP
    refine ⟨fun rest ce q9 i9 hd9 hz9 hw9 hc hv hcl => ?_, fun rest ik is ic q tx hsz hst hb1 hb2 hc1 hc2 hfr hlo hstr hthr d0 d3 d4 d6 d9 => ?_⟩
    · exact vx_out (fun x hx => (hex x hx).elim) B.notSynchronized hc hv hcl (fun t ht hA => ⟨rfl, by rw [ht]; exact hP, va_K.moved hA hK, hS.F ht⟩) hS.2.2 hn1 hn2
    · obtain ⟨t1, t2, t3, t45⟩ := hthr
      have hz : vk_R (ownN md.1) is tx (g.2.2.2 (1000000 + q)) s := hX.2.2.2.1 (ownN md.1, is, tx, q) hstr
      have hXc : ∀ t : State, s.vm.Alike t.vm → H.size ≤ t.heap.size → (∀ q : Nat, q < H.size → t.heap[q]? = H[q]?) → XcX g (va_A (wld g M) s.heap.size) (.inr (E, M')) E s t := fun t hA hz hq => ⟨rfl, hP.kept (fun k x hk => hq x.1 ((hP k x hk).lt)), va_K.moved hA hK, Nat.le_trans hS.1 hz, fun q h1 h2 => (hq q (Nat.lt_of_lt_of_le h1 hS.1)).trans (hS.2.1 q h1 h2)⟩
      have hat : ∀ w : Cond, (w ∈ WD ∨ (∃ q ∈ castT, w = Cond.castable q.1 q.2) ∨ ∃ q ∈ declT, w = Cond.declares q) → w.before (args.map (cv g.2.2.2)).toArray s = true := by
        intro w h
        rcases h with h | ⟨q, hq, rfl⟩ | ⟨q, hq, rfl⟩
        · exact hts _ h
        · exact va_Nw.use rfl (hX.2.2.2.2.2.2.2.1 q hq)
        · exact va_Nw.use rfl (hX.2.2.2.2.2.2.2.2.1 q hq)
      rcases t45 with ⟨_, t4, t5⟩ | ⟨rfl, t4, t5⟩
      · exact vx_throwSW (names := ["java/lang/RuntimeException", "java/lang/Exception"]) (A := va_A (wld g M) s.heap.size) B.exec B.bytes hX.1 hown t1 (by decide +kernel) (hts _ t2) (hts _ t3) hz (fun w hw => hat w (t5 w hw)) t4 hX.2.2.2.2.1 hX.2.2.2.2.2.1 hS (by rw [hsz, hml]) d0 d3 d4 d6 d9 (fun x hx => (hex x hx).elim) (by show 2 + 3 < _; omega) (by show _ + (13 * (2 + 1) + 43) ≤ _; omega) hc1 hc2 B.notSynchronized hXc hS.2.2 hb1 hb2
      · exact hX.2.2.2.2.2.2.2.2.2.2.2.2 p g.1 e (rmX k c) s m _ below meth cd H locs n1 n2 (va_A (wld g M) s.heap.size) ls rest _ _ md.2.2.1 pc (ownN md.1) tx ik is ic c (6 * c) (g.2.2.2 (1000000 + q)) (va_A (wld g M) s.heap.size) B.exec B.bytes hX.1 hown (hts _ t2) (hts _ t3) hz (fun w hw => hat w (t5 w hw)) t4 hX.2.2.2.2.1 hX.2.2.2.2.2.1 hS (by rw [hsz, hml]) d0 d3 d4 d6 d9 (fun x hx => (hex x hx).elim) (by omega) (by omega) hc1 hc2 B.notSynchronized hXc hS.2.2 hb1 hb2
section RX
variable {g : Gl} {k : Nat} {md : MD} {pc : Nat} {lv : List (Option Value)} {st : List Value} {M : Mem} {o : Oc} {cx : Nat}
/-- room to spare -/
theorem R_cw {c2 : Nat} (h : cx ≤ c2) (hn : Rc g k cx md pc lv st M o) : Rc g k c2 md pc lv st M o := fun p e s m sa below meth c H locs A ls R n1 n2 b1 b2 Q hC hP hS hl hR hQ => hn p e s m sa below meth c H locs A ls R n1 n2 b1 b2 Q hC hP hS hl (by omega) hQ
theorem R_throw {ik is ic q : Nat} {tx E : String} (hk : 6 ≤ k) (hst : wid st ≤ 8) (hstr : (ownN md.1, is, tx, q) ∈ strT) (hthr : thrOK md.1 ik ic E) (d0 : decode md.2.2.1 pc = .ok (.new ik, 3)) (d3 : decode md.2.2.1 (pc + 3) = .ok (.dup, 1)) (d4 : decode md.2.2.1 (pc + 4) = .ok (.ldc_w is, 3)) (d6 : decode md.2.2.1 (pc + 7) = .ok (.invokespecial ic, 3)) (d9 : decode md.2.2.1 (pc + 10) = .ok (.athrow, 1)) : Rc g k (cx + 1) md pc lv st M (.inr (E, M)) := by
  intro p e s m sa below meth c H locs A ls R n1 n2 b1 b2 Q hC hP hS hl hR hQ
  exact (hQ pc ls H locs n1 n2 (by omega) (by omega) hS hP).2 _ ik is ic q tx hl.1 (by rw [wid_sum]; exact hst) (by omega) (by omega) (by omega) (by omega) (by omega) (by omega) hstr hthr d0 d3 d4 d6 d9
theorem rmX_ok {d c k maxL : Nat} {R : Room} (h : d + 1 ≤ k) (hm : maxL ≤ 45) (h1 : k ≤ R.frames) (h2 : 64 * k ≤ R.locals) : (rmX d c).frames + 1 ≤ R.frames ∧ 8 + (maxL + 11) + (rmX d c).locals ≤ R.locals := by
  refine ⟨Nat.le_trans h h1, ?_⟩
  show 8 + (maxL + 11) + 64 * d ≤ R.locals
  omega
/-- a call of one that may throw: it returns, or throws; both as its contract says -/
theorem R_callX {i n d b c1 : Nat} {mc : MD} {As rest : List Value} {o1 : Oc} (hd : decode md.2.2.1 pc = .ok (.invokevirtual i, 3)) (hc : okV md.1 i n mc) (hM : MsX g d c1 mc (.ref b :: As) M o1) (hk : d + 1 ≤ k) (hb : oF b mc.1) (hs : st = As.reverse ++ .ref b :: rest) (hlen : As.length = n) (hst : wid rest ≤ 8)
    (hr : ∀ (w : Option Value) (M1 : Mem), o1 = .inl (w, M1) → Rc g k cx md (pc + 3) lv (w.toList ++ rest) M1 o) (ht : ∀ (E : String) (M1 : Mem), o1 = .inr (E, M1) → o = .inr (E, M1)) : Rc g k (cx + c1) md pc lv st M o := by
  intro p e s m sa below meth cc H locs A ls R n1 n2 b1 b2 Q hC hP hS hl hR hQ
  obtain ⟨h13, hok, hnm, hlink, hini, hinst, hsel⟩ := hc
  have hf : ∀ q, va_A (wld g M) H.size q → A q := wld_free hC.2.2.2.2.2.2.2.1 hS hC.2.2.2.2.2.2.2.2.1
  obtain ⟨C, T, N, h1⟩ : ∃ (C : String) (T : u_T) (N : Nat), classes[mc.1]? = some (C, T, N) := by
    have : mc.1 < classes.length := h13
    exact ⟨_, _, _, List.getElem?_eq_getElem this⟩
  have hCls : ownN mc.1 = C := (clsOK h1).2.2.2.2.2
  have hrc : ∃ cell : Cell, H[g.2.2.2 b]? = some cell ∧ cell.vm.isStatics = false ∧ s.vm.findClass C = some cell.cls := va_recv hC.2.2.2.2.2.2.1 hP h1 (q0 := b) (by rw [wld_get g M hb.1, cnc_o hb.2])
  have hyC : mc.2.1.cls = C := hok.2.1.trans hCls
  have hrun := vx_runV (As := As.map (cv g.2.2.2)) (rest := rest.map (cv g.2.2.2)) (g := F0 m pc ls (st.map (cv g.2.2.2))) (C := C) (locs := locs) (cells := n1) (slots := n2) (e := e) (below := below) (meth := meth) ⟨hC.1, hC.2.1, hC.2.2.2.1, hC.2.2.2.2.1, hC.2.2.2.2.2.1⟩ (hM H.size)
    (show CallW R s sa (ownN md.1) C i mc.2.1 mc.2.2.1 mc.2.2.2.1 mc.2.2.2.2 (wsM mc) (rmX d c1) c1 (6 * c1) n from ⟨callB_of n hC.2.2.2.2.2.1 (goodWD (wsM_in hok)) rfl rfl rfl (hC.2.2.2.2.2.1 _ hini) (hC.2.2.2.2.2.1 _ hlink) hnm (rmX_ok hk hok.2.2.1 hR.1 hR.2.1), hC.2.2.2.2.2.1 _ hinst, by rw [← hyC]; exact hC.2.2.2.2.2.1 _ hsel⟩)
    ⟨PcO_blind, hrc, fun U hU hW => PcO_at (.ref b :: As) hC hP hS hf U hU hW⟩ rfl (by rw [List.length_map]; exact hlen) hl.1 (by rw [hs]; simp [cv]) (lv_room (by rw [wid_sum]; exact hst)) hd ⟨by omega, by omega⟩
  intro T0 hT X
  have keepS : ∀ {t T' : State} {L : List Loc} {st₀ : State}, st₀.heap = H → T'.heap = t.heap → va_F (va_A (wld g M) H.size) st₀ t → (∀ q ∈ L, va_A (wld g M) H.size q.base) → va_S A s.heap T'.heap (locs ++ L) := by
    intro t T' L st₀ h0 e1 hF hL
    obtain ⟨hz, hk9⟩ := hF
    rw [h0] at hz hk9
    exact ⟨Nat.le_trans hS.1 (by rw [e1]; exact hz), fun q h1 h2 => by rw [e1, hk9 q (Nat.lt_of_lt_of_le h1 hS.1) (fun z => h2 (hf q z))]; exact hS.2.1 q h1 h2, fun q hq => by
      rcases List.mem_append.mp hq with h | h
      · exact hS.2.2 q h
      · exact hf _ (hL q h)⟩
  rcases hrun T0 hT X with ⟨v, st₀, t, T', L, h0, X', hL, e1, e2, hQc, stp9⟩ | ⟨q, st₀, t, T', L, E, ce, h0, X', hL, e1, e2, hXc, hce, hcv, hcl, stp9⟩
  · match o1, hQc, hr, ht with
    | .inl (w, M1), hQc, hr, _ =>
      obtain ⟨⟨hv, hP1, hK1⟩, hF⟩ := hQc
      have hv : v = w.map (cv g.2.2.2) := Outcome.returned.inj hv
      subst hv
      have h9 := hr w M1 rfl p e s m sa below meth cc T'.heap (locs ++ L) A ls R (n1 + c1) (n2 + 6 * c1) b1 b2 Q hC (by rw [e1]; exact hP1) (keepS h0 e1 hF hL) hl ⟨hR.1, hR.2.1, by omega, by omega, by omega, by omega⟩ hQ
      have e9 : (w.toList ++ rest).map (cv g.2.2.2) = (w.map (cv g.2.2.2)).toList ++ rest.map (cv g.2.2.2) := by cases w <;> rfl
      rw [e9] at h9
      obtain ⟨t2, a1, b1'⟩ := h9 T' rfl X'
      exact ⟨t2, stp9 t2 a1, b1'⟩
    | .inr _, hQc, _, _ => exact hQc.elim
  · match o1, hXc, hr, ht with
    | .inl _, hXc, _, _ => exact hXc.elim
    | .inr (E0, M1), hXc, _, ht =>
      obtain ⟨rfl, hP1, hK1, hF⟩ := hXc
      have ho := ht E M1 rfl
      subst ho
      have h9 := (hQ pc ls T'.heap (locs ++ L) (n1 + c1) (n2 + 6 * c1) (by omega) (by omega) (keepS h0 e1 hF hL) (by rw [e1]; exact hP1)).1 (rest.map (cv g.2.2.2)) ce q i hd hl.1 hl.2.1 (by rw [e1]; exact hce) hcv hcl
      obtain ⟨t2, a1, b1'⟩ := h9 T' rfl X'
      exact ⟨t2, stp9.trans a1, b1'⟩
/-- a call of one of the four that ask: it returns and nothing is changed, or throws -/
theorem R_callN {i n d b : Nat} {mc : MD} {As rest : List Value} {ok : Prop} [Decidable ok] {E : String} {M2 : Mem} (hd : decode md.2.2.1 pc = .ok (.invokevirtual i, 3)) (hc : okV md.1 i n mc) (hM : MsX g d 1 mc (.ref b :: As) M (if ok then .inl (none, M) else .inr (E, M2))) (hk : d + 1 ≤ k) (hb : oF b mc.1) (hs : st = As.reverse ++ .ref b :: rest) (hlen : As.length = n) (hst : wid rest ≤ 8)
    (hr : ok → Rc g k cx md (pc + 3) lv rest M o) (ht : ¬ ok → o = .inr (E, M2)) : Rc g k (cx + 1) md pc lv st M o := by
  refine R_callX hd hc hM hk hb hs hlen hst (fun w M1 h => ?_) (fun E1 M1 h => ?_)
  · by_cases hok : ok
    · rw [if_pos hok] at h
      cases h
      exact hr hok
    · rw [if_neg hok] at h
      cases h
  · by_cases hok : ok
    · rw [if_pos hok] at h
      cases h
    · rw [if_neg hok] at h
      cases h
      exact ht hok
end RX
