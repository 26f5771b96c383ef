/-! THE JDK's OWN, and what lies outside the world -/
theorem w_minStat : Cond.static Lib.Math.min.name ∈ WD := inT3 (i := 123) rfl rfl
theorem w_minCode : Cond.code Lib.Math.min.name Lib.Math.min.code 2 (some .int) ∈ WD := inT3 (i := 124) rfl rfl
theorem w_maxStat : Cond.static Lib.Math.max.name ∈ WD := inT3 (i := 112) rfl rfl
theorem w_maxCode : Cond.code Lib.Math.max.name Lib.Math.max.code 2 (some .int) ∈ WD := inT3 (i := 113) rfl rfl
theorem w_mathIni : Cond.initialized "java/lang/Math" ∈ WD := inT1 (i := 18) rfl rfl
theorem w_acStat : Cond.static arraycopyName ∈ WD := inT3 (i := 36) rfl rfl
theorem w_acNat : Cond.native arraycopyName ∈ WD := inT3 (i := 37) rfl rfl
def cpM (M : Mem) (a sp b dp n : Nat) : Mem := (fun c j => if c = b ∧ dp ≤ j ∧ j < dp + n then M.1 a (sp + (j - dp)) else M.1 c j, M.2)
theorem cpM_b {M : Mem} {a sp b dp n : Nat} : rd (cpM M a sp b dp n) b = va_cpy (rd M a) (rd M b) sp dp n := by
  funext j
  simp [rd, cpM, va_cpy]
theorem cnc_cp_ne (g : Gl) (M : Mem) {a sp b dp n c : Nat} (h : c ≠ b) : cnc g (cpM M a sp b dp n) c = cnc g M c := by
  have e' : rd (cpM M a sp b dp n) c = rd M c := funext fun j => by simp [rd, cpM, h]
  have e2 : rl (cpM M a sp b dp n) c = rl M c := rfl
  unfold cnc fvs
  rw [e', e2]
def isS (c : Nat) : Prop := c + 2 < NC ∧ kd c = (0, 7) ∧ kd (c + 1) = (1, 24) ∧ kd (c + 2) = (1, 6) ∧ rf c 3 = c + 1 ∧ rf c 4 = c + 2
theorem isS_all : ∀ q, q < 68 → isS (1622 + 3 * q) := by
  intro q h
  have key : ∀ q, q < 68 → (1622 + 3 * q + 2 < NC ∧ kd (1622 + 3 * q) = (0, 7) ∧ kd (1622 + 3 * q + 1) = (1, 24) ∧ kd (1622 + 3 * q + 2) = (1, 6) ∧ rf (1622 + 3 * q) 3 = 1622 + 3 * q + 1 ∧ rf (1622 + 3 * q) 4 = 1622 + 3 * q + 2) := by decide +kernel
  exact key q h
theorem w_sysIni : Cond.initialized "java/lang/System" ∈ WD := inT1 (i := 23) rfl rfl
theorem w_strIni : Cond.initialized "java/lang/String" ∈ WD := inT1 (i := 19) rfl rfl
section RJ
variable {g : Gl} {k : Nat} {md : MD} {pc : Nat} {lv : List (Option Value)} {st : List Value} {M : Mem} {o : Oc} {cx : Nat}
theorem R_min {i : Nat} {x y : Int32} (hd : decode md.2.2.1 pc = .ok (.invokestatic i, 3)) (hl : Cond.methodLink (ownN md.1) i Lib.Math.min.name ∈ WD) (hk : 1 ≤ k) (hst : wid st ≤ 8) (hn : Rc g k cx md (pc + 3) lv (.int (if y < x then y else x) :: st) M o) : Rc g k cx md pc lv (.int y :: .int x :: st) M o := by
  intro p e s m sa below meth cc H locs A ls R n1 n2 b1 b2 Q hC hP hS hl' hR hQ
  exact va_mmin hC.1 hC.2.1 (hC.2.2.2.1.trans hl'.1.symm) hC.2.2.2.2.1 (hC.2.2.2.2.2.1 _ hl) (hC.2.2.2.2.2.1 _ w_minStat) (hC.2.2.2.2.2.1 _ w_mathIni) (hC.2.2.2.2.2.1 _ w_minCode) (Nat.le_trans hk hR.1) (by rw [wid_sum]; have h9 := hR.2.1; omega) (Nat.le_trans (Nat.le_add_right _ _) hR.2.2.1) (Nat.le_trans (Nat.le_add_right _ _) hR.2.2.2.1) hd (hn p e s m sa below meth cc H locs A ls R n1 n2 b1 b2 Q hC hP hS hl' hR hQ)
theorem R_max {i : Nat} {x y : Int32} (hd : decode md.2.2.1 pc = .ok (.invokestatic i, 3)) (hl : Cond.methodLink (ownN md.1) i Lib.Math.max.name ∈ WD) (hk : 1 ≤ k) (hst : wid st ≤ 8) (hn : Rc g k cx md (pc + 3) lv (.int (if x < y then y else x) :: st) M o) : Rc g k cx md pc lv (.int y :: .int x :: st) M o := by
  intro p e s m sa below meth cc H locs A ls R n1 n2 b1 b2 Q hC hP hS hl' hR hQ
  exact va_mmax hC.1 hC.2.1 (hC.2.2.2.1.trans hl'.1.symm) hC.2.2.2.2.1 (hC.2.2.2.2.2.1 _ hl) (hC.2.2.2.2.2.1 _ w_maxStat) (hC.2.2.2.2.2.1 _ w_mathIni) (hC.2.2.2.2.2.1 _ w_maxCode) (Nat.le_trans hk hR.1) (by rw [wid_sum]; have h9 := hR.2.1; omega) (Nat.le_trans (Nat.le_add_right _ _) hR.2.2.1) (Nat.le_trans (Nat.le_add_right _ _) hR.2.2.2.1) hd (hn p e s m sa below meth cc H locs A ls R n1 n2 b1 b2 Q hC hP hS hl' hR hQ)
theorem R_copy {i a b na nb : Nat} {sp dp n : Int32} (hd : decode md.2.2.1 pc = .ok (.invokestatic i, 3)) (hl : Cond.methodLink (ownN md.1) i arraycopyName ∈ WD) (hk : 1 ≤ k) (hst : wid st ≤ 8) (ha : a < NC) (hka : kd a = (1, na)) (hb : b < NC) (hkb : kd b = (1, nb)) (h1 : ¬ sp < 0) (h2 : ¬ dp < 0) (h3 : ¬ n < 0) (h4 : sp.toNatClampNeg + n.toNatClampNeg ≤ na) (h5 : dp.toNatClampNeg + n.toNatClampNeg ≤ nb)
    (hn : Rc g k cx md (pc + 3) lv st (cpM M a sp.toNatClampNeg b dp.toNatClampNeg n.toNatClampNeg) o) : Rc g k cx md pc lv (.int n :: .int dp :: .ref b :: .int sp :: .ref a :: st) M o := by
  intro p e s m sa below meth cc H locs A ls R n1 n2 b1 b2 Q hC hP hS hl' hR hQ
  have hw : nativeFrameWords "java/lang/System" "arraycopy" 5 + 11 ≤ 50 := by decide +kernel
  have hloc : ((st.map (cv g.2.2.2)).map fun v => v.category).sum + (nativeFrameWords "java/lang/System" "arraycopy" 5 + 11) ≤ R.locals := by
    rw [wid_sum]
    have h9 := hR.2.1
    omega
  refine va_copyi (ty := .int) hC.1 hC.2.1 (hC.2.2.2.1.trans hl'.1.symm) hC.2.2.2.2.1 (hC.2.2.2.2.2.1 _ hl) (hC.2.2.2.2.2.1 _ w_acNat) (hC.2.2.2.2.2.1 _ w_acStat) (hC.2.2.2.2.2.1 _ w_sysIni) hC.2.2.2.2.2.2.1 hP (wld_D hC.2.2.2.2.2.2.2.1) hS a b 0 0 (by rw [wld_get g M ha, cnc_1 hka]) (by rw [wld_get g M hb, cnc_1 hkb]) rfl rfl rfl h1 h2 h3 h4 h5 (fun _ _ => rfl) (Nat.le_trans hk hR.1) hloc hd (fun H1 locs1 hP1 hD1 hS1 => ?_)
  rw [wld_set (M' := cpM M a sp.toNatClampNeg b dp.toNatClampNeg n.toNatClampNeg) hb (by rw [cnc_1 hkb, cpM_b]) (fun c hc => cnc_cp_ne g M hc)] at hP1
  exact hn p e s m sa below meth cc H1 locs1 A ls R n1 n2 b1 b2 Q hC hP1 hS1 hl' hR hQ
theorem R_ldcS {i q : Nat} {tx : String} (hd : decode md.2.2.1 pc = .ok (.ldc i, 2)) (h : (ownN md.1, i, tx, q) ∈ strT) (hn : Rc g k cx md (pc + 2) lv (.ref (1000000 + q) :: st) M o) : Rc g k cx md pc lv st M o := by
  intro p e s m sa below meth cc H locs A ls R n1 n2 b1 b2 Q hC hP hS hl hR hQ
  have hX := hC.2.2.2.2.2.2.2.2.2.2
  have hz : vk_R (ownN md.1) i tx (g.2.2.2 (1000000 + q)) s := hX.2.2.2.1 (ownN md.1, i, tx, q) h
  exact va_ldcS (q := g.2.2.2 (1000000 + q)) hC.1 hC.2.1 hC.2.2.2.2.1 hz hd (hn p e s m sa below meth cc H locs A ls R n1 n2 b1 b2 Q hC hP hS hl hR hQ)
theorem R_callSN {i n d : Nat} {mc : MD} {host : String} {As rest : List Value} {w : Option Value} {M1 : Mem} (hd : decode md.2.2.1 pc = .ok (.invokestatic i, 3)) (hok : okM mc) (hnm : mc.2.1.cls ≠ "java/lang/invoke/MethodHandle" ∧ mc.2.1.cls ≠ "java/lang/invoke/VarHandle" ∧ (parseMethodDescriptor mc.2.1.desc).map (fun d => d.parameters.length) = some n) (hlink : (ownN md.1, i, mc.2.1, host) ∈ nestT) (hini : Cond.initialized mc.2.1.cls ∈ WD) (hstat : Cond.static mc.2.1 ∈ WD) (hM : Ms g d mc As M w M1) (hk : d + 1 ≤ k) (hs : st = As.reverse ++ rest) (hlen : As.length = n) (hst : wid rest ≤ 8) (hn : Rc g k cx md (pc + 3) lv (w.toList ++ rest) M1 o) : Rc g k cx md pc lv st M o := by
  intro p e s m sa below meth cc H locs A ls R n1 n2 b1 b2 Q hC hP hS hl hR hQ
  have hf : ∀ q, va_A (wld g M) H.size q → A q := wld_free hC.2.2.2.2.2.2.2.1 hS hC.2.2.2.2.2.2.2.2.1
  have hrun := va_runSN (As := As.map (cv g.2.2.2)) (rest := rest.map (cv g.2.2.2)) (g := F0 m pc ls (st.map (cv g.2.2.2))) (locs := locs) (cells := n1) (slots := n2) (e := e) (below := below) (meth := meth) ⟨hC.1, hC.2.1, hC.2.2.2.1, hC.2.2.2.2.1, hC.2.2.2.2.2.1⟩ (hM H.size)
    (show va_CN R s sa (ownN md.1) i mc.2.1 host mc.2.2.1 mc.2.2.2.1 mc.2.2.2.2 (wsM mc) (rmk d) 0 0 n ∧ (Cond.static mc.2.1).before sa s = true ∧ True from ⟨va_cnB n hC.2.2.2.2.2.1 (goodWD (wsM_in hok)) rfl rfl rfl (hC.2.2.2.2.2.2.2.2.2.2.2.2.2.2.2.2.1 _ hlink) (hC.2.2.2.2.2.1 _ hini) hnm (rmk_ok hk hok.2.2.1 hR.1 hR.2.1), hC.2.2.2.2.2.1 _ hstat, trivial⟩)
    ⟨PcO_blind, fun U hU hW => PcO_at As hC hP hS hf U hU hW⟩ rfl (by rw [List.length_map]; exact hlen) hl.1 (by rw [hs]; simp) (lv_room (by rw [wid_sum]; exact hst)) hd ⟨Nat.le_trans (Nat.le_add_right _ _) hR.2.2.1, Nat.le_trans (Nat.le_add_right _ _) hR.2.2.2.1⟩
  refine goOn hrun hS hf (fun H1 locs1 hP1 hS1 => ?_)
  have h9 := hn p e s m sa below meth cc H1 locs1 A ls R n1 n2 b1 b2 Q hC hP1 hS1 hl hR hQ
  have e9 : (w.toList ++ rest).map (cv g.2.2.2) = (w.map (cv g.2.2.2)).toList ++ rest.map (cv g.2.2.2) := by cases w <;> rfl
  rw [e9] at h9
  exact h9
theorem R_nret {x : Int32} {ty : FieldType} (hd : decode md.2.2.1 pc = .ok (.ireturn, 1)) (hr : md.2.2.2.2 = some ty) (hx : narrow ty (.int x) = .int x) : Rc g k cx md pc lv [.int x] M (.inl (some (.int x), M)) := fun p e s m sa below meth cc H locs A ls R n1 n2 b1 b2 Q hC hP hS hl hR hQ => (hQ pc ls H locs n1 n2 (by omega) (by omega) hS hP).1 x ty rfl hr hx hd
theorem R_pop {w : Value} (hd : decode md.2.2.1 pc = .ok (.pop, 1)) (hw : w.category = 1) (hn : Rc g k cx md (pc + 1) lv st M o) : Rc g k cx md pc lv (w :: st) M o := fun p e s m sa below meth c H locs A ls R n1 n2 b1 b2 Q hC hP hS hl hR hQ => lv_pop hC.1 hC.2.1 hd (by rw [cv_cat]; exact hw) (hn p e s m sa below meth c H locs A ls R n1 n2 b1 b2 Q hC hP hS hl hR hQ)
theorem R_i2c {x : Int32} (hd : decode md.2.2.1 pc = .ok (.i2c, 1)) (hn : Rc g k cx md (pc + 1) lv (.int (x.toUInt32 % 65536).toInt32 :: st) M o) : Rc g k cx md pc lv (.int x :: st) M o := fun p e s m sa below meth c H locs A ls R n1 n2 b1 b2 Q hC hP hS hl hR hQ => lv_i2c hC.1 hC.2.1 hd rfl (hn p e s m sa below meth c H locs A ls R n1 n2 b1 b2 Q hC hP hS hl hR hQ)
/-- a text's own fields -/
theorem R_strv {q : Nat} (hm : md.1 = 14) (hd : decode md.2.2.1 pc = .ok (.getfield 9, 3)) (hq : q < nTX) (hn : Rc g k cx md (pc + 3) lv (.ref (2000000 + q) :: st) M o) : Rc g k cx md pc lv (.ref (1000000 + q) :: st) M o := by
  intro p e s m sa below meth cc H locs A ls R n1 n2 b1 b2 Q hC hP hS hl hR hQ
  have hown : s.vm.findClass "java/lang/String" = some m.cls := by
    have h9 := hC.2.2.2.2.1
    rw [hm] at h9
    exact h9
  have hX := hC.2.2.2.2.2.2.2.2.2.2
  exact vk_getf (ref := "java/lang/String") hC.1 hC.2.1 (hX.2.1.1 q hq).2.2.1 hS hown (hC.2.2.2.2.2.1 _ (inT9 (i := 104) rfl rfl)) (fun _ h9 => h9) hd (hn p e s m sa below meth cc H locs A ls R n1 n2 b1 b2 Q hC hP hS hl hR hQ)
theorem R_strc {q : Nat} (hm : md.1 = 14) (hd : decode md.2.2.1 pc = .ok (.getfield 15, 3)) (hq : q < nTX) (hn : Rc g k cx md (pc + 3) lv (.int 0 :: st) M o) : Rc g k cx md pc lv (.ref (1000000 + q) :: st) M o := by
  intro p e s m sa below meth cc H locs A ls R n1 n2 b1 b2 Q hC hP hS hl hR hQ
  have hown : s.vm.findClass "java/lang/String" = some m.cls := by
    have h9 := hC.2.2.2.2.1
    rw [hm] at h9
    exact h9
  have hX := hC.2.2.2.2.2.2.2.2.2.2
  exact vk_getf (ref := "java/lang/String") hC.1 hC.2.1 (hX.2.1.1 q hq).2.1 hS hown (hC.2.2.2.2.2.1 _ (inT9 (i := 105) rfl rfl)) (fun _ h9 => h9) hd (hn p e s m sa below meth cc H locs A ls R n1 n2 b1 b2 Q hC hP hS hl hR hQ)
theorem R_comp (hm : md.1 = 14) (hd : decode md.2.2.1 pc = .ok (.getstatic 38, 3)) (hn : Rc g k cx md (pc + 3) lv (.int 1 :: st) M o) : Rc g k cx md pc lv st M o := by
  intro p e s m sa below meth cc H locs A ls R n1 n2 b1 b2 Q hC hP hS hl hR hQ
  have hown : s.vm.findClass "java/lang/String" = some m.cls := by
    have h9 := hC.2.2.2.2.1
    rw [hm] at h9
    exact h9
  have hX := hC.2.2.2.2.2.2.2.2.2.2
  exact va_gets (ref := "java/lang/String") hC.1 hC.2.1 hX.2.2.1 hS hown (hC.2.2.2.2.2.1 _ (inT4 (i := 36) rfl rfl)) (fun _ h9 => h9) hd (hn p e s m sa below meth cc H locs A ls R n1 n2 b1 b2 Q hC hP hS hl hR hQ)
theorem R_form (hm : md.1 = 14) (hd : decode md.2.2.1 pc = .ok (.getstatic 1053, 3)) (hn : Rc g k cx md (pc + 3) lv (.null :: st) M o) (hn2 : Rc g k cx md (pc + 3) lv (.ref 3000000 :: st) M o) : Rc g k cx md pc lv st M o := by
  intro p e s m sa below meth cc H locs A ls R n1 n2 b1 b2 Q hC hP hS hl hR hQ
  have hX := hC.2.2.2.2.2.2.2.2.2.2
  have hown : s.vm.findClass "java/lang/String" = some m.cls := by
    have h9 := hC.2.2.2.2.1
    rw [hm] at h9
    exact h9
  have hlk := hC.2.2.2.2.2.1 _ (inT4 (i := 52) (w := Cond.fieldLink "java/lang/String" 1053 "jdk/internal/util/Preconditions" "SIOOBE_FORMATTER" "Ljava/util/function/BiFunction;") rfl rfl)
  rcases hX.2.2.2.2.2.2.2.2.2.2.1 with hz | hz
  · exact va_gets hC.1 hC.2.1 hz hS hown hlk (fun _ h9 => h9) hd (hn p e s m sa below meth cc H locs A ls R n1 n2 b1 b2 Q hC hP hS hl hR hQ)
  · exact va_gets hC.1 hC.2.1 hz hS hown hlk (fun _ h9 => h9) hd (hn2 p e s m sa below meth cc H locs A ls R n1 n2 b1 b2 Q hC hP hS hl hR hQ)
theorem R_tlen {q : Nat} (hd : decode md.2.2.1 pc = .ok (.arraylength, 1)) (hq : q < nTX) (hn : Rc g k cx md (pc + 1) lv (.int (Int32.ofNat (lenT.getD q 0)) :: st) M o) : Rc g k cx md pc lv (.ref (2000000 + q) :: st) M o := by
  intro p e s m sa below meth cc H locs A ls R n1 n2 b1 b2 Q hC hP hS hl hR hQ
  exact va_tlen hC.1 hC.2.1 (hC.2.2.2.2.2.2.2.2.2.2.2.1.1 q hq).2.2.2 hS rfl hd (hn p e s m sa below meth cc H locs A ls R n1 n2 b1 b2 Q hC hP hS hl hR hQ)
theorem R_tb {q : Nat} {i : Int32} (hd : decode md.2.2.1 pc = .ok (.baload, 1)) (hq : q < nTX) (hi : vp_in i (lenT.getD q 0)) (hn : Rc g k cx md (pc + 1) lv (.int ((bytT.getD q []).getD i.toNatClampNeg 0) :: st) M o) : Rc g k cx md pc lv (.int i :: .ref (2000000 + q) :: st) M o := by
  intro p e s m sa below meth cc H locs A ls R n1 n2 b1 b2 Q hC hP hS hl hR hQ
  exact va_tb hC.1 hC.2.1 (hC.2.2.2.2.2.2.2.2.2.2.2.1.1 q hq).2.2.2 hS hi rfl hd (hn p e s m sa below meth cc H locs A ls R n1 n2 b1 b2 Q hC hP hS hl hR hQ)
/-- what a static call needs of the callee, its class's place apart -/
def okT (o i n : Nat) (mc : MD) : Prop := mc.2.2.2.1 ≤ 45 ∧ Cond.code mc.2.1 mc.2.2.1 mc.2.2.2.1 mc.2.2.2.2 ∈ WD ∧ (mc.2.1.cls ≠ "java/lang/invoke/MethodHandle" ∧ mc.2.1.cls ≠ "java/lang/invoke/VarHandle" ∧ (parseMethodDescriptor mc.2.1.desc).map (fun d => d.parameters.length) = some n) ∧ Cond.methodLink (ownN o) i mc.2.1 ∈ WD ∧ Cond.initialized mc.2.1.cls ∈ WD
theorem wsM_in2 {mc : MD} (h : Cond.code mc.2.1 mc.2.2.1 mc.2.2.2.1 mc.2.2.2.2 ∈ WD) : ∀ w ∈ wsM mc, w ∈ WD := fun w hw => by
  rcases List.mem_cons.mp hw with rfl | hw
  · exact h
  · exact hw
theorem R_callT {i n d : Nat} {mc : MD} {As rest : List Value} {w : Option Value} {M1 : Mem} (hd : decode md.2.2.1 pc = .ok (.invokestatic i, 3)) (hc : okT md.1 i n mc) (hstat : Cond.static mc.2.1 ∈ WD) (hM : Ms g d mc As M w M1) (hk : d + 1 ≤ k) (hs : st = As.reverse ++ rest) (hlen : As.length = n) (hst : wid rest ≤ 8) (hn : Rc g k cx md (pc + 3) lv (w.toList ++ rest) M1 o) : Rc g k cx md pc lv st M o := by
  intro p e s m sa below meth cc H locs A ls R n1 n2 b1 b2 Q hC hP hS hl hR hQ
  obtain ⟨hm45, hcode, hnm, hlink, hini⟩ := hc
  have hf : ∀ q, va_A (wld g M) H.size q → A q := wld_free hC.2.2.2.2.2.2.2.1 hS hC.2.2.2.2.2.2.2.2.1
  have hrun := va_runS (As := As.map (cv g.2.2.2)) (rest := rest.map (cv g.2.2.2)) (g := F0 m pc ls (st.map (cv g.2.2.2))) (locs := locs) (cells := n1) (slots := n2) (e := e) (below := below) (meth := meth) ⟨hC.1, hC.2.1, hC.2.2.2.1, hC.2.2.2.2.1, hC.2.2.2.2.2.1⟩ (hM H.size)
    (show CallB R s sa (ownN md.1) i mc.2.1 mc.2.2.1 mc.2.2.2.1 mc.2.2.2.2 (wsM mc) (rmk d) 0 0 n ∧ (Cond.static mc.2.1).before sa s = true from ⟨callB_of n hC.2.2.2.2.2.1 (goodWD (wsM_in2 hcode)) rfl rfl rfl (hC.2.2.2.2.2.1 _ hini) (hC.2.2.2.2.2.1 _ hlink) hnm (rmk_ok hk hm45 hR.1 hR.2.1), hC.2.2.2.2.2.1 _ hstat⟩)
    ⟨PcO_blind, fun U hU hW => PcO_at As hC hP hS hf U hU hW⟩ rfl (by rw [List.length_map]; exact hlen) hl.1 (by rw [hs]; simp) (lv_room (by rw [wid_sum]; exact hst)) hd ⟨Nat.le_trans (Nat.le_add_right _ _) hR.2.2.1, Nat.le_trans (Nat.le_add_right _ _) hR.2.2.2.1⟩
  refine goOn hrun hS hf (fun H1 locs1 hP1 hS1 => ?_)
  have h9 := hn p e s m sa below meth cc H1 locs1 A ls R n1 n2 b1 b2 Q hC hP1 hS1 hl hR hQ
  have e9 : (w.toList ++ rest).map (cv g.2.2.2) = (w.map (cv g.2.2.2)).toList ++ rest.map (cv g.2.2.2) := by cases w <;> rfl
  rw [e9] at h9
  exact h9
theorem R_callVT {i n d q : Nat} {mc : MD} {As rest : List Value} {w : Option Value} {M1 : Mem} (hd : decode md.2.2.1 pc = .ok (.invokevirtual i, 3)) (hc : okT md.1 i n mc) (hC0 : mc.2.1.cls = "java/lang/String") (hinst : Cond.instanceMethod mc.2.1 ∈ WD) (hsel : Cond.selects "java/lang/String" mc.2.1 mc.2.1 ∈ WD) (hq : q < nTX) (hM : Ms g d mc (.ref (1000000 + q) :: As) M w M1) (hk : d + 1 ≤ k) (hs : st = As.reverse ++ .ref (1000000 + q) :: rest) (hlen : As.length = n) (hst : wid rest ≤ 8) (hn : Rc g k cx md (pc + 3) lv (w.toList ++ rest) M1 o) : Rc g k cx md pc lv st M o := by
  intro p e s m sa below meth cc H locs A ls R n1 n2 b1 b2 Q hC hP hS hl hR hQ
  obtain ⟨hm45, hcode, hnm, hlink, hini⟩ := hc
  have hf : ∀ q, va_A (wld g M) H.size q → A q := wld_free hC.2.2.2.2.2.2.2.1 hS hC.2.2.2.2.2.2.2.2.1
  have hr := vk_recv (hC.2.2.2.2.2.2.2.2.2.2.2.1) hq hS
  have hrun := va_runV (As := As.map (cv g.2.2.2)) (rest := rest.map (cv g.2.2.2)) (g := F0 m pc ls (st.map (cv g.2.2.2))) (C := "java/lang/String") (locs := locs) (cells := n1) (slots := n2) (e := e) (below := below) (meth := meth) ⟨hC.1, hC.2.1, hC.2.2.2.1, hC.2.2.2.2.1, hC.2.2.2.2.2.1⟩ (hM H.size)
    (show CallW R s sa (ownN md.1) "java/lang/String" i mc.2.1 mc.2.2.1 mc.2.2.2.1 mc.2.2.2.2 (wsM mc) (rmk d) 0 0 n from ⟨callB_of n hC.2.2.2.2.2.1 (goodWD (wsM_in2 hcode)) rfl rfl rfl (hC.2.2.2.2.2.1 _ hini) (hC.2.2.2.2.2.1 _ hlink) hnm (rmk_ok hk hm45 hR.1 hR.2.1), hC.2.2.2.2.2.1 _ hinst, hC.2.2.2.2.2.1 _ hsel⟩)
    ⟨PcO_blind, hr, fun U hU hW => PcO_at (.ref (1000000 + q) :: As) hC hP hS hf U hU hW⟩ rfl (by rw [List.length_map]; exact hlen) hl.1 (by rw [hs]; simp [cv]) (lv_room (by rw [wid_sum]; exact hst)) hd ⟨Nat.le_trans (Nat.le_add_right _ _) hR.2.2.1, Nat.le_trans (Nat.le_add_right _ _) hR.2.2.2.1⟩
  refine goOn hrun hS hf (fun H1 locs1 hP1 hS1 => ?_)
  have h9 := hn p e s m sa below meth cc H1 locs1 A ls R n1 n2 b1 b2 Q hC hP1 hS1 hl hR hQ
  have e9 : (w.toList ++ rest).map (cv g.2.2.2) = (w.map (cv g.2.2.2)).toList ++ rest.map (cv g.2.2.2) := by cases w <;> rfl
  rw [e9] at h9
  exact h9
end RJ
