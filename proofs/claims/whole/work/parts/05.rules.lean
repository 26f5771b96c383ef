/-! MEMORY, BRANCHES, CALLS, RETURNS as rules of Rn -/
def oF (c ci : Nat) : Prop := c < NC ∧ kd c = (0, ci)
def oA (t c : Nat) (i : Int32) : Prop := c < NC ∧ (kd c).1 = t ∧ vp_in i (kd c).2
theorem oA_of {t c n : Nat} {i : Int32} (hc : c < NC) (hk : kd c = (t, n)) (h : vp_in i n) : oA t c i := ⟨hc, by rw [hk], by rw [hk]; exact h⟩
theorem oA_kd {t c : Nat} {i : Int32} (h : oA t c i) : kd c = (t, (kd c).2) := by
  rw [← h.2.1]
theorem clsOK {ci : Nat} {C : String} {T : u_T} {N : Nat} (h : classes[ci]? = some (C, T, N)) : (∀ w ∈ u_ws C T N, w ∈ WD) ∧ nfl ci = N ∧ (∃ ty0 : Nat → FieldType, ∀ k, k < N → parseFieldDescriptor (T k).2.2.1 = some (ty0 k)) ∧ (∀ a, a < N → ∀ b, b < N → a ≠ b → (T a).2.1 ≠ (T b).2.1) ∧ (∀ k, k < N → frq ci k = false → (T k).2.2.2 = false ∧ (T k).2.2.1 = "I") ∧ ownN ci = C := by
  match ci, h with
  | 0, h => cases h; exact ⟨inX0, rfl, ⟨tyX0, tyX0_ok⟩, nmX0, by decide +kernel, rfl⟩
  | 1, h => cases h; exact ⟨inX1, rfl, ⟨tyX1, tyX1_ok⟩, nmX1, by decide +kernel, rfl⟩
  | 2, h => cases h; exact ⟨inX2, rfl, ⟨tyX2, tyX2_ok⟩, nmX2, by decide +kernel, rfl⟩
  | 3, h => cases h; exact ⟨inX3, rfl, ⟨tyX3, tyX3_ok⟩, nmX3, by decide +kernel, rfl⟩
  | 4, h => cases h; exact ⟨inX4, rfl, ⟨tyX4, tyX4_ok⟩, nmX4, by decide +kernel, rfl⟩
  | 5, h => cases h; exact ⟨inX5, rfl, ⟨tyX5, tyX5_ok⟩, nmX5, by decide +kernel, rfl⟩
  | 6, h => cases h; exact ⟨inX6, rfl, ⟨tyX6, tyX6_ok⟩, nmX6, by decide +kernel, rfl⟩
  | 7, h => cases h; exact ⟨inX7, rfl, ⟨tyX7, tyX7_ok⟩, nmX7, by decide +kernel, rfl⟩
  | 8, h => cases h; exact ⟨inX8, rfl, ⟨tyX8, tyX8_ok⟩, nmX8, by decide +kernel, rfl⟩
  | 9, h => cases h; exact ⟨inX9, rfl, ⟨tyX9, tyX9_ok⟩, nmX9, by decide +kernel, rfl⟩
  | 10, h => cases h; exact ⟨inX10, rfl, ⟨tyX10, tyX10_ok⟩, nmX10, by decide +kernel, rfl⟩
  | 11, h => cases h; exact ⟨inX11, rfl, ⟨tyX11, tyX11_ok⟩, nmX11, by decide +kernel, rfl⟩
  | 12, h => cases h; exact ⟨inX12, rfl, ⟨tyX12, tyX12_ok⟩, nmX12, by decide +kernel, rfl⟩
  | k + 13, h => simp [classes] at h
theorem flOK {o i ci j w : Nat} (ho : o < 17) (h : lk (flT o) i = some (ci, j, w)) : ∃ (C : String) (T : u_T) (N : Nat), classes[ci]? = some (C, T, N) ∧ j < N ∧ Cond.fieldLink (ownN o) i (T j).1 (T j).2.1 (T j).2.2.1 ∈ WD := by
  have h1 := List.all_eq_true.mp (chF_all o ho) _ (lk_mem h)
  unfold chF at h1
  split at h1
  · rename_i C T N hc
    simp only [Bool.and_eq_true, decide_eq_true_eq] at h1
    exact ⟨C, T, N, hc, h1.1.1, inW h1.1.2 h1.2⟩
  · cases h1
theorem fvs_get {g : Gl} {M : Mem} {ci c j : Nat} (h : j < nfl ci) : (fvs g M ci c)[j]? = some (cv g.2.2.2 (if frq ci j = true then .ref (rf c j) else .int (rd M c j))) := by
  simp only [fvs, List.getElem?_map, List.getElem?_range h, Option.map_some]
  split <;> rfl
theorem fvs_len {g : Gl} {M : Mem} {ci c : Nat} : (fvs g M ci c).length = nfl ci := by simp [fvs]
theorem fvs_wr {g : Gl} {M : Mem} {ci c j : Nat} {x : Int32} (hf : frq ci j = false) : fvs g (wr M c j x) ci c = (fvs g M ci c).set j (.int x) := by
  apply List.ext_getElem?
  intro i
  by_cases hi : i < nfl ci
  · rw [fvs_get hi]
    by_cases e : i = j
    · subst e
      rw [List.getElem?_set_self (by rw [fvs_len]; exact hi)]
      simp [hf, cv, rd, wr]
    · rw [List.getElem?_set_ne (Ne.symm e), fvs_get hi]
      simp [rd, wr, e]
  · rw [List.getElem?_eq_none (by rw [fvs_len]; omega), List.getElem?_eq_none (by rw [List.length_set, fvs_len]; omega)]
section RM
variable {g : Gl} {k : Nat} {md : MD} {pc : Nat} {lv : List (Option Value)} {st : List Value} {M : Mem} {o : Oc} {cx : Nat}
theorem R_getfield {i ci j w c : Nat} (ho : md.1 < 17) (hd : decode md.2.2.1 pc = .ok (.getfield i, 3)) (hf : lk (flT md.1) i = some (ci, j, w)) (hc : oF c ci) (hn : Rc g k cx md (pc + 3) lv ((if frq ci j = true then .ref (rf c j) else .int (rd M c j)) :: st) M o) : Rc g k cx md pc lv (.ref c :: st) M o := by
  intro p e s m sa below meth cc H locs A ls R n1 n2 b1 b2 Q hC hP hS hl hR hQ
  obtain ⟨C, T, N, h1, h2, h3⟩ := flOK ho hf
  obtain ⟨q1, q2, -, -, -, -⟩ := clsOK h1
  exact va_get (D := g.2.1) (ci := ci) (C := C) (T := T) (N := N) (ws := wld g M) hC.1 hC.2.1 hC.2.2.2.2.2.1 q1 hC.2.2.2.2.1 hC.2.2.2.2.2.2.1 hP c (by rw [wld_get g M hc.1, cnc_o hc.2]) h1 j h2 (hC.2.2.2.2.2.1 _ h3) (fun _ h9 => h9) (fvs_get (by rw [q2]; exact h2)) hd (hn p e s m sa below meth cc H locs A ls R n1 n2 b1 b2 Q hC hP hS hl hR hQ)
theorem R_putfield {i ci j w c : Nat} {x : Int32} (ho : md.1 < 17) (hd : decode md.2.2.1 pc = .ok (.putfield i, 3)) (hf : lk (flT md.1) i = some (ci, j, w)) (hq : frq ci j = false) (hc : oF c ci) (hn : Rc g k cx md (pc + 3) lv st (wr M c j x) o) : Rc g k cx md pc lv (.int x :: .ref c :: st) M o := by
  intro p e s m sa below meth cc H locs A ls R n1 n2 b1 b2 Q hC hP hS hl hR hQ
  obtain ⟨C, T, N, h1, h2, h3⟩ := flOK ho hf
  obtain ⟨q1, q2, ⟨ty0, q3⟩, q4, q5, -⟩ := clsOK h1
  obtain ⟨z1, z2⟩ := q5 j h2 hq
  have hlen : j < (fvs g M ci c).length := by rw [fvs_len, q2]; exact h2
  refine va_put (D := g.2.1) (ci := ci) (v := .int x) (ty := .int) (C := C) (T := T) (N := N) (ws := wld g M) hC.1 hC.2.1 hC.2.2.2.2.2.1 q1 ty0 q3 q4 hC.2.2.2.2.1 hC.2.2.2.2.2.2.1 hP (wld_D hC.2.2.2.2.2.2.2.1) hS c (by rw [wld_get g M hc.1, cnc_o hc.2]) h1 j h2 (hC.2.2.2.2.2.1 _ h3) (fun _ h9 => h9) z1 (by rw [z2]; rfl) rfl rfl hlen hd (fun H1 locs1 hP1 hD1 hS1 => ?_)
  rw [wld_set (M' := wr M c j x) hc.1 (by rw [cnc_o hc.2, fvs_wr hq]) (fun a ha => cnc_wr_ne g M j x ha)] at hP1
  exact hn p e s m sa below meth cc H1 locs1 A ls R n1 n2 b1 b2 Q hC hP1 hS1 hl hR hQ
theorem R_iaload {c : Nat} {i : Int32} (hd : decode md.2.2.1 pc = .ok (.iaload, 1)) (hc : oA 1 c i) (hn : Rc g k cx md (pc + 1) lv (.int (rd M c i.toNatClampNeg) :: st) M o) : Rc g k cx md pc lv (.int i :: .ref c :: st) M o := by
  intro p e s m sa below meth cc H locs A ls R n1 n2 b1 b2 Q hC hP hS hl hR hQ
  exact va_iald hC.1 hC.2.1 hC.2.2.2.2.2.2.1 hP c 0 (by rw [wld_get g M hc.1, cnc_1 (oA_kd hc)]) rfl hc.2.2 hd (hn p e s m sa below meth cc H locs A ls R n1 n2 b1 b2 Q hC hP hS hl hR hQ)
theorem R_baload {c : Nat} {i : Int32} (hd : decode md.2.2.1 pc = .ok (.baload, 1)) (hc : oA 2 c i) (hn : Rc g k cx md (pc + 1) lv (.int (rd M c i.toNatClampNeg) :: st) M o) : Rc g k cx md pc lv (.int i :: .ref c :: st) M o := by
  intro p e s m sa below meth cc H locs A ls R n1 n2 b1 b2 Q hC hP hS hl hR hQ
  exact va_bald hC.1 hC.2.1 hC.2.2.2.2.2.2.1 hP c 1 (by rw [wld_get g M hc.1, cnc_2 (oA_kd hc)]) rfl hc.2.2 hd (hn p e s m sa below meth cc H locs A ls R n1 n2 b1 b2 Q hC hP hS hl hR hQ)
theorem R_zaload {c : Nat} {i : Int32} (hd : decode md.2.2.1 pc = .ok (.baload, 1)) (hc : oA 3 c i) (hn : Rc g k cx md (pc + 1) lv (.int (rd M c i.toNatClampNeg) :: st) M o) : Rc g k cx md pc lv (.int i :: .ref c :: st) M o := by
  intro p e s m sa below meth cc H locs A ls R n1 n2 b1 b2 Q hC hP hS hl hR hQ
  exact va_zald hC.1 hC.2.1 hC.2.2.2.2.2.2.1 hP c 2 (by rw [wld_get g M hc.1, cnc_3 (oA_kd hc)]) rfl hc.2.2 hd (hn p e s m sa below meth cc H locs A ls R n1 n2 b1 b2 Q hC hP hS hl hR hQ)
theorem R_laload {c : Nat} {i : Int32} (hd : decode md.2.2.1 pc = .ok (.laload, 1)) (hc : oA 4 c i) (hn : Rc g k cx md (pc + 1) lv (.long (rl M c i.toNatClampNeg) :: st) M o) : Rc g k cx md pc lv (.int i :: .ref c :: st) M o := by
  intro p e s m sa below meth cc H locs A ls R n1 n2 b1 b2 Q hC hP hS hl hR hQ
  exact va_lald hC.1 hC.2.1 hC.2.2.2.2.2.2.1 hP c 3 (by rw [wld_get g M hc.1, cnc_4 (oA_kd hc)]) rfl hc.2.2 hd (hn p e s m sa below meth cc H locs A ls R n1 n2 b1 b2 Q hC hP hS hl hR hQ)
theorem upd_wr {M : Mem} {c i : Nat} {x : Int32} : rd (wr M c i x) c = upd (rd M c) i x := by
  funext j
  simp [rd, wr, upd]
theorem upd_wl {M : Mem} {c i : Nat} {x : Int64} : rl (wl M c i x) c = vp_updL (rl M c) i x := by
  funext j
  simp [rl, wl, vp_updL]
theorem R_iastore {c : Nat} {i x : Int32} (hd : decode md.2.2.1 pc = .ok (.iastore, 1)) (hc : oA 1 c i) (hn : Rc g k cx md (pc + 1) lv st (wr M c i.toNatClampNeg x) o) : Rc g k cx md pc lv (.int x :: .int i :: .ref c :: st) M o := by
  intro p e s m sa below meth cc H locs A ls R n1 n2 b1 b2 Q hC hP hS hl hR hQ
  refine va_iast hC.1 hC.2.1 hC.2.2.2.2.2.2.1 hP (wld_D hC.2.2.2.2.2.2.2.1) hS c 0 (by rw [wld_get g M hc.1, cnc_1 (oA_kd hc)]) rfl hc.2.2 hd (fun H1 locs1 hP1 hD1 hS1 => ?_)
  rw [wld_set (M' := wr M c i.toNatClampNeg x) hc.1 (by rw [cnc_1 (oA_kd hc), upd_wr]) (fun a ha => cnc_wr_ne g M _ _ ha)] at hP1
  exact hn p e s m sa below meth cc H1 locs1 A ls R n1 n2 b1 b2 Q hC hP1 hS1 hl hR hQ
theorem R_bastore {c : Nat} {i x : Int32} (hd : decode md.2.2.1 pc = .ok (.bastore, 1)) (hc : oA 2 c i) (hn : Rc g k cx md (pc + 1) lv st (wr M c i.toNatClampNeg (vp_nar .byte x)) o) : Rc g k cx md pc lv (.int x :: .int i :: .ref c :: st) M o := by
  intro p e s m sa below meth cc H locs A ls R n1 n2 b1 b2 Q hC hP hS hl hR hQ
  refine va_bast hC.1 hC.2.1 hC.2.2.2.2.2.2.1 hP (wld_D hC.2.2.2.2.2.2.2.1) hS c 1 (by rw [wld_get g M hc.1, cnc_2 (oA_kd hc)]) rfl hc.2.2 hd (fun H1 locs1 hP1 hD1 hS1 => ?_)
  rw [wld_set (M' := wr M c i.toNatClampNeg (vp_nar .byte x)) hc.1 (by rw [cnc_2 (oA_kd hc), upd_wr]) (fun a ha => cnc_wr_ne g M _ _ ha)] at hP1
  exact hn p e s m sa below meth cc H1 locs1 A ls R n1 n2 b1 b2 Q hC hP1 hS1 hl hR hQ
theorem R_zastore {c : Nat} {i x : Int32} (hd : decode md.2.2.1 pc = .ok (.bastore, 1)) (hc : oA 3 c i) (hn : Rc g k cx md (pc + 1) lv st (wr M c i.toNatClampNeg (vp_nar .boolean x)) o) : Rc g k cx md pc lv (.int x :: .int i :: .ref c :: st) M o := by
  intro p e s m sa below meth cc H locs A ls R n1 n2 b1 b2 Q hC hP hS hl hR hQ
  refine va_zast hC.1 hC.2.1 hC.2.2.2.2.2.2.1 hP (wld_D hC.2.2.2.2.2.2.2.1) hS c 2 (by rw [wld_get g M hc.1, cnc_3 (oA_kd hc)]) rfl hc.2.2 hd (fun H1 locs1 hP1 hD1 hS1 => ?_)
  rw [wld_set (M' := wr M c i.toNatClampNeg (vp_nar .boolean x)) hc.1 (by rw [cnc_3 (oA_kd hc), upd_wr]) (fun a ha => cnc_wr_ne g M _ _ ha)] at hP1
  exact hn p e s m sa below meth cc H1 locs1 A ls R n1 n2 b1 b2 Q hC hP1 hS1 hl hR hQ
theorem R_lastore {c : Nat} {i : Int32} {x : Int64} (hd : decode md.2.2.1 pc = .ok (.lastore, 1)) (hc : oA 4 c i) (hn : Rc g k cx md (pc + 1) lv st (wl M c i.toNatClampNeg x) o) : Rc g k cx md pc lv (.long x :: .int i :: .ref c :: st) M o := by
  intro p e s m sa below meth cc H locs A ls R n1 n2 b1 b2 Q hC hP hS hl hR hQ
  refine va_last hC.1 hC.2.1 hC.2.2.2.2.2.2.1 hP (wld_D hC.2.2.2.2.2.2.2.1) hS c 3 (by rw [wld_get g M hc.1, cnc_4 (oA_kd hc)]) rfl hc.2.2 hd (fun H1 locs1 hP1 hD1 hS1 => ?_)
  rw [wld_set (M' := wl M c i.toNatClampNeg x) hc.1 (by rw [cnc_4 (oA_kd hc), upd_wl]) (fun a ha => cnc_wl_ne g M _ _ ha)] at hP1
  exact hn p e s m sa below meth cc H1 locs1 A ls R n1 n2 b1 b2 Q hC hP1 hS1 hl hR hQ
theorem R_aaload5 {c : Nat} {i : Int32} (hd : decode md.2.2.1 pc = .ok (.aaload, 1)) (hc : oA 5 c i) (hn : Rc g k cx md (pc + 1) lv (.ref (rf c i.toNatClampNeg) :: st) M o) : Rc g k cx md pc lv (.int i :: .ref c :: st) M o := by
  intro p e s m sa below meth cc H locs A ls R n1 n2 b1 b2 Q hC hP hS hl hR hQ
  have hlt : i.toNatClampNeg < (kd c).2 := Nat.not_le.mp fun q => hc.2.2 (Or.inr q)
  have hcell := hP c _ (show (wld g M)[c]? = some (g.2.2.2 c, .inl (g.2.2.1 5, (kd c).2, .inr (.inr (.inr (.inr (fun j => some (g.2.2.2 (rf c j)))))))) by rw [wld_get g M hc.1, cnc_5 (oA_kd hc)])
  exact W.aald (v := .ref (g.2.2.2 (rf c i.toNatClampNeg))) (ty := (.array .int)) hC.1 hC.2.1 hcell ((hC.2.2.2.2.2.2.1.2 4 _ rfl).1 (kd c).2 (fun j => va_rf (some (g.2.2.2 (rf c j))))) rfl (fun q => by cases q) (by show ¬ (i < 0 ∨ (arrV _ _ _).slots.size ≤ _); rw [arrV_size]; exact hc.2.2) (by show (arrV _ _ _).slots[_]? = _; rw [arrV_read _ _ hlt]; rfl) rfl rfl hd (hn p e s m sa below meth cc H locs A ls R n1 n2 b1 b2 Q hC hP hS hl hR hQ)
theorem R_aaload6 {c : Nat} {i : Int32} (hd : decode md.2.2.1 pc = .ok (.aaload, 1)) (hc : oA 6 c i) (hn : Rc g k cx md (pc + 1) lv (.ref (rf c i.toNatClampNeg) :: st) M o) : Rc g k cx md pc lv (.int i :: .ref c :: st) M o := by
  intro p e s m sa below meth cc H locs A ls R n1 n2 b1 b2 Q hC hP hS hl hR hQ
  have hlt : i.toNatClampNeg < (kd c).2 := Nat.not_le.mp fun q => hc.2.2 (Or.inr q)
  have hcell := hP c _ (show (wld g M)[c]? = some (g.2.2.2 c, .inl (g.2.2.1 6, (kd c).2, .inr (.inr (.inr (.inr (fun j => some (g.2.2.2 (rf c j)))))))) by rw [wld_get g M hc.1, cnc_6 (oA_kd hc)])
  exact W.aald (v := .ref (g.2.2.2 (rf c i.toNatClampNeg))) (ty := (.object "LostMuseum$State")) hC.1 hC.2.1 hcell ((hC.2.2.2.2.2.2.1.2 5 _ rfl).1 (kd c).2 (fun j => va_rf (some (g.2.2.2 (rf c j))))) rfl (fun q => by cases q) (by show ¬ (i < 0 ∨ (arrV _ _ _).slots.size ≤ _); rw [arrV_size]; exact hc.2.2) (by show (arrV _ _ _).slots[_]? = _; rw [arrV_read _ _ hlt]; rfl) rfl rfl hd (hn p e s m sa below meth cc H locs A ls R n1 n2 b1 b2 Q hC hP hS hl hR hQ)
theorem R_aaload7 {c : Nat} {i : Int32} (hd : decode md.2.2.1 pc = .ok (.aaload, 1)) (hc : oA 7 c i) (hn : Rc g k cx md (pc + 1) lv (.ref (rf c i.toNatClampNeg) :: st) M o) : Rc g k cx md pc lv (.int i :: .ref c :: st) M o := by
  intro p e s m sa below meth cc H locs A ls R n1 n2 b1 b2 Q hC hP hS hl hR hQ
  have hlt : i.toNatClampNeg < (kd c).2 := Nat.not_le.mp fun q => hc.2.2 (Or.inr q)
  have hcell := hP c _ (show (wld g M)[c]? = some (g.2.2.2 c, .inl (g.2.2.1 7, (kd c).2, .inr (.inr (.inr (.inr (fun j => some (g.2.2.2 (rf c j)))))))) by rw [wld_get g M hc.1, cnc_7 (oA_kd hc)])
  exact W.aald (v := .ref (g.2.2.2 (rf c i.toNatClampNeg))) (ty := (.object "LostMuseum$Timeline")) hC.1 hC.2.1 hcell ((hC.2.2.2.2.2.2.1.2 6 _ rfl).1 (kd c).2 (fun j => va_rf (some (g.2.2.2 (rf c j))))) rfl (fun q => by cases q) (by show ¬ (i < 0 ∨ (arrV _ _ _).slots.size ≤ _); rw [arrV_size]; exact hc.2.2) (by show (arrV _ _ _).slots[_]? = _; rw [arrV_read _ _ hlt]; rfl) rfl rfl hd (hn p e s m sa below meth cc H locs A ls R n1 n2 b1 b2 Q hC hP hS hl hR hQ)
theorem R_alen1 {c n : Nat} (hd : decode md.2.2.1 pc = .ok (.arraylength, 1)) (hc : c < NC) (hk : kd c = (1, n)) (hn : Rc g k cx md (pc + 1) lv (.int (Int32.ofNat n) :: st) M o) : Rc g k cx md pc lv (.ref c :: st) M o := by
  intro p e s m sa below meth cc H locs A ls R n1 n2 b1 b2 Q hC hP hS hl hR hQ
  exact va_alen (x := (n, .inl (rd M c))) hC.1 hC.2.1 hC.2.2.2.2.2.2.1 hP c 0 (by rw [wld_get g M hc, cnc_1 hk]) rfl rfl hd (hn p e s m sa below meth cc H locs A ls R n1 n2 b1 b2 Q hC hP hS hl hR hQ)
theorem R_alen2 {c n : Nat} (hd : decode md.2.2.1 pc = .ok (.arraylength, 1)) (hc : c < NC) (hk : kd c = (2, n)) (hn : Rc g k cx md (pc + 1) lv (.int (Int32.ofNat n) :: st) M o) : Rc g k cx md pc lv (.ref c :: st) M o := by
  intro p e s m sa below meth cc H locs A ls R n1 n2 b1 b2 Q hC hP hS hl hR hQ
  exact va_alen (x := (n, .inl (rd M c))) hC.1 hC.2.1 hC.2.2.2.2.2.2.1 hP c 1 (by rw [wld_get g M hc, cnc_2 hk]) rfl rfl hd (hn p e s m sa below meth cc H locs A ls R n1 n2 b1 b2 Q hC hP hS hl hR hQ)
theorem R_if_eq {x : Int32} {off : Int} {tgt : Nat} (hd : decode md.2.2.1 pc = .ok (.ifCond .eq off, 3)) (ht : (pc : Int) + off = (tgt : Int)) (kt : x = 0 → Rc g k cx md tgt lv st M o) (kf : ¬ x = 0 → Rc g k cx md (pc + 3) lv st M o) : Rc g k cx md pc lv (.int x :: st) M o := fun p e s m sa below meth cc H locs A ls R n1 n2 b1 b2 Q hC hP hS hl hR hQ => lv_if_eq hC.1 hC.2.1 hd ht (fun q => kt q p e s m sa below meth cc H locs A ls R n1 n2 b1 b2 Q hC hP hS hl hR hQ) (fun q => kf q p e s m sa below meth cc H locs A ls R n1 n2 b1 b2 Q hC hP hS hl hR hQ)
theorem R_if_ne {x : Int32} {off : Int} {tgt : Nat} (hd : decode md.2.2.1 pc = .ok (.ifCond .ne off, 3)) (ht : (pc : Int) + off = (tgt : Int)) (kt : ¬ x = 0 → Rc g k cx md tgt lv st M o) (kf : x = 0 → Rc g k cx md (pc + 3) lv st M o) : Rc g k cx md pc lv (.int x :: st) M o := fun p e s m sa below meth cc H locs A ls R n1 n2 b1 b2 Q hC hP hS hl hR hQ => lv_if_ne hC.1 hC.2.1 hd ht (fun q => kt q p e s m sa below meth cc H locs A ls R n1 n2 b1 b2 Q hC hP hS hl hR hQ) (fun q => kf q p e s m sa below meth cc H locs A ls R n1 n2 b1 b2 Q hC hP hS hl hR hQ)
theorem R_if_lt {x : Int32} {off : Int} {tgt : Nat} (hd : decode md.2.2.1 pc = .ok (.ifCond .lt off, 3)) (ht : (pc : Int) + off = (tgt : Int)) (kt : x < 0 → Rc g k cx md tgt lv st M o) (kf : ¬ x < 0 → Rc g k cx md (pc + 3) lv st M o) : Rc g k cx md pc lv (.int x :: st) M o := fun p e s m sa below meth cc H locs A ls R n1 n2 b1 b2 Q hC hP hS hl hR hQ => lv_if_lt hC.1 hC.2.1 hd ht (fun q => kt q p e s m sa below meth cc H locs A ls R n1 n2 b1 b2 Q hC hP hS hl hR hQ) (fun q => kf q p e s m sa below meth cc H locs A ls R n1 n2 b1 b2 Q hC hP hS hl hR hQ)
theorem R_if_ge {x : Int32} {off : Int} {tgt : Nat} (hd : decode md.2.2.1 pc = .ok (.ifCond .ge off, 3)) (ht : (pc : Int) + off = (tgt : Int)) (kt : 0 ≤ x → Rc g k cx md tgt lv st M o) (kf : ¬ 0 ≤ x → Rc g k cx md (pc + 3) lv st M o) : Rc g k cx md pc lv (.int x :: st) M o := fun p e s m sa below meth cc H locs A ls R n1 n2 b1 b2 Q hC hP hS hl hR hQ => lv_if_ge hC.1 hC.2.1 hd ht (fun q => kt q p e s m sa below meth cc H locs A ls R n1 n2 b1 b2 Q hC hP hS hl hR hQ) (fun q => kf q p e s m sa below meth cc H locs A ls R n1 n2 b1 b2 Q hC hP hS hl hR hQ)
theorem R_if_gt {x : Int32} {off : Int} {tgt : Nat} (hd : decode md.2.2.1 pc = .ok (.ifCond .gt off, 3)) (ht : (pc : Int) + off = (tgt : Int)) (kt : 0 < x → Rc g k cx md tgt lv st M o) (kf : ¬ 0 < x → Rc g k cx md (pc + 3) lv st M o) : Rc g k cx md pc lv (.int x :: st) M o := fun p e s m sa below meth cc H locs A ls R n1 n2 b1 b2 Q hC hP hS hl hR hQ => lv_if_gt hC.1 hC.2.1 hd ht (fun q => kt q p e s m sa below meth cc H locs A ls R n1 n2 b1 b2 Q hC hP hS hl hR hQ) (fun q => kf q p e s m sa below meth cc H locs A ls R n1 n2 b1 b2 Q hC hP hS hl hR hQ)
theorem R_if_le {x : Int32} {off : Int} {tgt : Nat} (hd : decode md.2.2.1 pc = .ok (.ifCond .le off, 3)) (ht : (pc : Int) + off = (tgt : Int)) (kt : x ≤ 0 → Rc g k cx md tgt lv st M o) (kf : ¬ x ≤ 0 → Rc g k cx md (pc + 3) lv st M o) : Rc g k cx md pc lv (.int x :: st) M o := fun p e s m sa below meth cc H locs A ls R n1 n2 b1 b2 Q hC hP hS hl hR hQ => lv_if_le hC.1 hC.2.1 hd ht (fun q => kt q p e s m sa below meth cc H locs A ls R n1 n2 b1 b2 Q hC hP hS hl hR hQ) (fun q => kf q p e s m sa below meth cc H locs A ls R n1 n2 b1 b2 Q hC hP hS hl hR hQ)
theorem R_icmp_eq {x y : Int32} {off : Int} {tgt : Nat} (hd : decode md.2.2.1 pc = .ok (.if_icmp .eq off, 3)) (ht : (pc : Int) + off = (tgt : Int)) (kt : x = y → Rc g k cx md tgt lv st M o) (kf : ¬ x = y → Rc g k cx md (pc + 3) lv st M o) : Rc g k cx md pc lv (.int y :: .int x :: st) M o := fun p e s m sa below meth cc H locs A ls R n1 n2 b1 b2 Q hC hP hS hl hR hQ => lv_icmp_eq hC.1 hC.2.1 hd ht (fun q => kt q p e s m sa below meth cc H locs A ls R n1 n2 b1 b2 Q hC hP hS hl hR hQ) (fun q => kf q p e s m sa below meth cc H locs A ls R n1 n2 b1 b2 Q hC hP hS hl hR hQ)
theorem R_icmp_ne {x y : Int32} {off : Int} {tgt : Nat} (hd : decode md.2.2.1 pc = .ok (.if_icmp .ne off, 3)) (ht : (pc : Int) + off = (tgt : Int)) (kt : ¬ x = y → Rc g k cx md tgt lv st M o) (kf : x = y → Rc g k cx md (pc + 3) lv st M o) : Rc g k cx md pc lv (.int y :: .int x :: st) M o := fun p e s m sa below meth cc H locs A ls R n1 n2 b1 b2 Q hC hP hS hl hR hQ => lv_icmp_ne hC.1 hC.2.1 hd ht (fun q => kt q p e s m sa below meth cc H locs A ls R n1 n2 b1 b2 Q hC hP hS hl hR hQ) (fun q => kf q p e s m sa below meth cc H locs A ls R n1 n2 b1 b2 Q hC hP hS hl hR hQ)
theorem R_icmp_lt {x y : Int32} {off : Int} {tgt : Nat} (hd : decode md.2.2.1 pc = .ok (.if_icmp .lt off, 3)) (ht : (pc : Int) + off = (tgt : Int)) (kt : x < y → Rc g k cx md tgt lv st M o) (kf : ¬ x < y → Rc g k cx md (pc + 3) lv st M o) : Rc g k cx md pc lv (.int y :: .int x :: st) M o := fun p e s m sa below meth cc H locs A ls R n1 n2 b1 b2 Q hC hP hS hl hR hQ => lv_icmp_lt hC.1 hC.2.1 hd ht (fun q => kt q p e s m sa below meth cc H locs A ls R n1 n2 b1 b2 Q hC hP hS hl hR hQ) (fun q => kf q p e s m sa below meth cc H locs A ls R n1 n2 b1 b2 Q hC hP hS hl hR hQ)
theorem R_icmp_ge {x y : Int32} {off : Int} {tgt : Nat} (hd : decode md.2.2.1 pc = .ok (.if_icmp .ge off, 3)) (ht : (pc : Int) + off = (tgt : Int)) (kt : y ≤ x → Rc g k cx md tgt lv st M o) (kf : ¬ y ≤ x → Rc g k cx md (pc + 3) lv st M o) : Rc g k cx md pc lv (.int y :: .int x :: st) M o := fun p e s m sa below meth cc H locs A ls R n1 n2 b1 b2 Q hC hP hS hl hR hQ => lv_icmp_ge hC.1 hC.2.1 hd ht (fun q => kt q p e s m sa below meth cc H locs A ls R n1 n2 b1 b2 Q hC hP hS hl hR hQ) (fun q => kf q p e s m sa below meth cc H locs A ls R n1 n2 b1 b2 Q hC hP hS hl hR hQ)
theorem R_icmp_gt {x y : Int32} {off : Int} {tgt : Nat} (hd : decode md.2.2.1 pc = .ok (.if_icmp .gt off, 3)) (ht : (pc : Int) + off = (tgt : Int)) (kt : y < x → Rc g k cx md tgt lv st M o) (kf : ¬ y < x → Rc g k cx md (pc + 3) lv st M o) : Rc g k cx md pc lv (.int y :: .int x :: st) M o := fun p e s m sa below meth cc H locs A ls R n1 n2 b1 b2 Q hC hP hS hl hR hQ => lv_icmp_gt hC.1 hC.2.1 hd ht (fun q => kt q p e s m sa below meth cc H locs A ls R n1 n2 b1 b2 Q hC hP hS hl hR hQ) (fun q => kf q p e s m sa below meth cc H locs A ls R n1 n2 b1 b2 Q hC hP hS hl hR hQ)
theorem R_icmp_le {x y : Int32} {off : Int} {tgt : Nat} (hd : decode md.2.2.1 pc = .ok (.if_icmp .le off, 3)) (ht : (pc : Int) + off = (tgt : Int)) (kt : x ≤ y → Rc g k cx md tgt lv st M o) (kf : ¬ x ≤ y → Rc g k cx md (pc + 3) lv st M o) : Rc g k cx md pc lv (.int y :: .int x :: st) M o := fun p e s m sa below meth cc H locs A ls R n1 n2 b1 b2 Q hC hP hS hl hR hQ => lv_icmp_le hC.1 hC.2.1 hd ht (fun q => kt q p e s m sa below meth cc H locs A ls R n1 n2 b1 b2 Q hC hP hS hl hR hQ) (fun q => kf q p e s m sa below meth cc H locs A ls R n1 n2 b1 b2 Q hC hP hS hl hR hQ)
theorem R_goto {off : Int} {tgt : Nat} (hd : decode md.2.2.1 pc = .ok (.goto off, 3)) (ht : (pc : Int) + off = (tgt : Int)) (kt : Rc g k cx md tgt lv st M o) : Rc g k cx md pc lv st M o := fun p e s m sa below meth cc H locs A ls R n1 n2 b1 b2 Q hC hP hS hl hR hQ => lv_goto hC.1 hC.2.1 hd ht (kt p e s m sa below meth cc H locs A ls R n1 n2 b1 b2 Q hC hP hS hl hR hQ)
theorem R_tableIn {dflt lo hi : Int} {offs : Array Int} {len : Nat} {x : Int32} {off : Int} {tgt : Nat} (hd : decode md.2.2.1 pc = .ok (.tableswitch dflt lo hi offs, len)) (h1 : ¬ x.toInt < lo) (h2 : ¬ hi < x.toInt) (hoff : offs[(x.toInt - lo).toNat]? = some off) (ht : (pc : Int) + off = (tgt : Int)) (kt : Rc g k cx md tgt lv st M o) : Rc g k cx md pc lv (.int x :: st) M o := fun p e s m sa below meth cc H locs A ls R n1 n2 b1 b2 Q hC hP hS hl hR hQ => lv_tableIn hC.1 hC.2.1 hd h1 h2 hoff ht (kt p e s m sa below meth cc H locs A ls R n1 n2 b1 b2 Q hC hP hS hl hR hQ)
theorem R_tableOut {dflt lo hi : Int} {offs : Array Int} {len : Nat} {x : Int32} {tgt : Nat} (hd : decode md.2.2.1 pc = .ok (.tableswitch dflt lo hi offs, len)) (h : x.toInt < lo ∨ hi < x.toInt) (ht : (pc : Int) + dflt = (tgt : Int)) (kt : Rc g k cx md tgt lv st M o) : Rc g k cx md pc lv (.int x :: st) M o := fun p e s m sa below meth cc H locs A ls R n1 n2 b1 b2 Q hC hP hS hl hR hQ => lv_tableOut hC.1 hC.2.1 hd h ht (kt p e s m sa below meth cc H locs A ls R n1 n2 b1 b2 Q hC hP hS hl hR hQ)
theorem R_lookup {dflt : Int} {ps : Array (Int × Int)} {len : Nat} {x : Int32} {off : Int} {tgt : Nat} (hd : decode md.2.2.1 pc = .ok (.lookupswitch dflt ps, len)) (hp : (ps.toList.zip (ps.toList.drop 1)).all (fun (a, next) => a.1 < next.1) = true) (hoff : Op.lookupswitch.offset ps.toList dflt x.toInt = off) (ht : (pc : Int) + off = (tgt : Int)) (kt : Rc g k cx md tgt lv st M o) : Rc g k cx md pc lv (.int x :: st) M o := fun p e s m sa below meth cc H locs A ls R n1 n2 b1 b2 Q hC hP hS hl hR hQ => lv_lookup hC.1 hC.2.1 hd hp hoff ht (kt p e s m sa below meth cc H locs A ls R n1 n2 b1 b2 Q hC hP hS hl hR hQ)
theorem R_iret {x : Int32} (hd : decode md.2.2.1 pc = .ok (.ireturn, 1)) (hr : md.2.2.2.2 = some .int) : Rc g k cx md pc lv [.int x] M (.inl (some (.int x), M)) := fun p e s m sa below meth cc H locs A ls R n1 n2 b1 b2 Q hC hP hS hl hR hQ => (hQ pc ls H locs n1 n2 (by omega) (by omega) hS hP).1 x .int rfl hr rfl hd
theorem R_zret {x : Int32} (hd : decode md.2.2.1 pc = .ok (.ireturn, 1)) (hr : md.2.2.2.2 = some .boolean) (hx : narrow .boolean (.int x) = .int x) : Rc g k cx md pc lv [.int x] M (.inl (some (.int x), M)) := fun p e s m sa below meth cc H locs A ls R n1 n2 b1 b2 Q hC hP hS hl hR hQ => (hQ pc ls H locs n1 n2 (by omega) (by omega) hS hP).1 x .boolean rfl hr hx hd
theorem R_lret {x : Int64} (hd : decode md.2.2.1 pc = .ok (.lreturn, 1)) (hr : md.2.2.2.2 = some .long) : Rc g k cx md pc lv [.long x] M (.inl (some (.long x), M)) := fun p e s m sa below meth cc H locs A ls R n1 n2 b1 b2 Q hC hP hS hl hR hQ => (hQ pc ls H locs n1 n2 (by omega) (by omega) hS hP).2.1 x rfl hr hd
theorem R_vret (hd : decode md.2.2.1 pc = .ok (.return_, 1)) (hr : md.2.2.2.2 = none) : Rc g k cx md pc lv [] M (.inl (none, M)) := fun p e s m sa below meth cc H locs A ls R n1 n2 b1 b2 Q hC hP hS hl hR hQ => (hQ pc ls H locs n1 n2 (by omega) (by omega) hS hP).2.2 rfl hr hd
end RM
theorem goodWD {ws : List Cond} (h : ∀ w ∈ ws, w ∈ WD) : GoodIn WD ws := fun w hw => ⟨h w hw, good_of_word (List.mem_filter.mp (h w hw)).2⟩
theorem PcO_blind {g : Gl} {args : List Value} {M : Mem} {sz : Nat} : FrameBlind (PcO g args M sz) := by
  intro a U f mk q
  obtain ⟨q0, q1, qP, qK, qD, qX⟩ := q
  exact ⟨q0, q1, qP, va_K.moved (u := U) (U := U.calling f mk a) (Vm.Alike.refl U.vm) qK, qD, qX.same rfl⟩
/-- the callee's start, out of the caller's state -/
theorem PcO_at {g : Gl} {md : MD} {p : Program} {s : State} {m : MethodId} {sa : Array Value} {meth : Method} {c : Code} {A : Nat → Prop} {H : Heap} {locs : List Loc} {M : Mem} (args : List Value) (hC : CxF g md p s m sa meth c A) (hP : va_P g.2.1 classes (wld g M) H) (hS : va_S A s.heap H locs) (hfree : ∀ q, va_A (wld g M) H.size q → A q) : ∀ U : State, U.heap = H → s.WarmedH U.vm → PcO g args M H.size (args.map (cv g.2.2.2)).toArray U := by
  intro U hU hW
  refine ⟨rfl, by rw [hU], by rw [hU]; exact hP, va_K.moved hW.alike hC.2.2.2.2.2.2.1, hC.2.2.2.2.2.2.2.1.weaken (fun _ _ _ _ => trivial), ?_⟩
  rw [hU]
  exact ((hC.2.2.2.2.2.2.2.2.2.2.kept hS.2.1).narrow hfree).warm hW
theorem wld_free {g : Gl} {A : Nat → Prop} {M : Mem} {H0 H : Heap} {locs : List Loc} (hD : va_D A (wld g z0)) (hS : va_S A H0 H locs) (hA : ∀ q, H0.size ≤ q → A q) : ∀ q, va_A (wld g M) H.size q → A q := by
  intro q h
  rcases h with ⟨j, e, h⟩ | h
  · exact (wld_D (M' := M) hD).2 j (q, e) h
  · exact hA q (Nat.le_trans hS.1 h)
theorem goOn {g : Gl} {R : Room} {n1 n2 : Nat} {p : Program} {e : Env} {s : State} {m : MethodId} {sa : Array Value} {below : List Frame} {meth : Method} {c : Code} {H : Heap} {locs : List Loc} {A : Nat → Prop} {ls : Array Slot} {st0 rest : List Value} {pc : Nat} {M M1 : Mem} {w : Option Value} {a : Array Value} {Q : State → Prop}
    (hr : va_Run p g.1 e R s m sa below meth c H locs n1 n2 0 0 (F0 m pc ls st0) rest (QcO g (va_A (wld g M) H.size) w M1 a) (va_A (wld g M) H.size)) (hS : va_S A s.heap H locs) (hf : ∀ q, va_A (wld g M) H.size q → A q)
    (kk : ∀ (H1 : Heap) (locs1 : List Loc), va_P g.2.1 classes (wld g M1) H1 → va_S A s.heap H1 locs1 → W p g.1 e R s m sa below meth c H1 locs1 n1 n2 Q (F0 m (pc + 3) ls ((w.map (cv g.2.2.2)).toList ++ rest))) : W p g.1 e R s m sa below meth c H locs n1 n2 Q (F0 m pc ls st0) := by
  intro T hT X
  obtain ⟨v, st₀, t, T', L, h0, X', hL, e1, e2, ⟨⟨hv, hP1, hK1⟩, hz, hk⟩, st⟩ := hr T hT X
  have hv : v = w.map (cv g.2.2.2) := Outcome.returned.inj hv
  subst hv
  rw [h0] at hz hk
  obtain ⟨t2, a1, b1⟩ := kk T'.heap (locs ++ L) (by rw [e1]; exact hP1)
    ⟨Nat.le_trans hS.1 (by rw [e1]; exact hz), fun q h1 h2 => by rw [e1, hk q (Nat.lt_of_lt_of_le h1 hS.1) (fun z => h2 (hf q z))]; exact hS.2.1 q h1 h2, fun q hq => by
      rcases List.mem_append.mp hq with h | h
      · exact hS.2.2 q h
      · exact hf _ (hL q h)⟩ T' rfl X'
  exact ⟨t2, st t2 a1, b1⟩
theorem wid_sum (ad : Nat → Nat) (l : List Value) : ((l.map (cv ad)).map fun v => v.category).sum = wid l := by
  induction l with
  | nil => rfl
  | cons v l ih =>
    simp only [List.map_cons, List.sum_cons, cv_cat]
    rw [ih]
    show _ = (if v.category = 2 then 2 else 1) + wid l
    rcases lv_cat v with h | h <;> simp [h]
/-- a method as a call names it: virtual (its own class), or static -/
def okV (o i n : Nat) (mc : MD) : Prop := mc.1 < 13 ∧ okM mc ∧ (mc.2.1.cls ≠ "java/lang/invoke/MethodHandle" ∧ mc.2.1.cls ≠ "java/lang/invoke/VarHandle" ∧ (parseMethodDescriptor mc.2.1.desc).map (fun d => d.parameters.length) = some n) ∧ Cond.methodLink (ownN o) i mc.2.1 ∈ WD ∧ Cond.initialized mc.2.1.cls ∈ WD ∧ Cond.instanceMethod mc.2.1 ∈ WD ∧ Cond.selects mc.2.1.cls mc.2.1 mc.2.1 ∈ WD
def okS (o i n : Nat) (mc : MD) : Prop := okM mc ∧ (mc.2.1.cls ≠ "java/lang/invoke/MethodHandle" ∧ mc.2.1.cls ≠ "java/lang/invoke/VarHandle" ∧ (parseMethodDescriptor mc.2.1.desc).map (fun d => d.parameters.length) = some n) ∧ Cond.methodLink (ownN o) i mc.2.1 ∈ WD ∧ Cond.initialized mc.2.1.cls ∈ WD ∧ Cond.static mc.2.1 ∈ WD
theorem wsM_in {mc : MD} (h : okM mc) : ∀ w ∈ wsM mc, w ∈ WD := fun w hw => by
  rcases List.mem_cons.mp hw with rfl | hw
  · exact h.2.2.2
  · exact hw
theorem rmk_ok {d k maxL : Nat} {R : Room} (h : d + 1 ≤ k) (hm : maxL ≤ 45) (h1 : k ≤ R.frames) (h2 : 64 * k ≤ R.locals) : (rmk d).frames + 1 ≤ R.frames ∧ 8 + (maxL + 11) + (rmk d).locals ≤ R.locals := by
  refine ⟨Nat.le_trans h h1, ?_⟩
  show 8 + (maxL + 11) + 64 * d ≤ R.locals
  omega
section RC
variable {g : Gl} {k : Nat} {md : MD} {pc : Nat} {lv : List (Option Value)} {st : List Value} {M : Mem} {o : Oc} {cx : Nat}
theorem R_callV {i n d b : Nat} {mc : MD} {As rest : List Value} {w : Option Value} {M1 : Mem} (hd : decode md.2.2.1 pc = .ok (.invokevirtual i, 3)) (hc : okV md.1 i n mc) (hM : Ms g d mc (.ref b :: As) M w M1) (hk : d + 1 ≤ k) (hb : oF b mc.1) (hs : st = As.reverse ++ .ref b :: rest) (hlen : As.length = n) (hst : wid rest ≤ 8) (hn : Rc g k cx md (pc + 3) lv (w.toList ++ rest) M1 o) : Rc g k cx md pc lv st M o := by
  intro p e s m sa below meth cc H locs A ls R n1 n2 b1 b2 Q hC hP hS hl hR hQ
  obtain ⟨h13, hok, hnm, hlink, hini, hinst, hsel⟩ := hc
  have hf : ∀ q, va_A (wld g M) H.size q → A q := wld_free hC.2.2.2.2.2.2.2.1 hS hC.2.2.2.2.2.2.2.2.1
  obtain ⟨C, T, N, h1⟩ : ∃ (C : String) (T : u_T) (N : Nat), classes[mc.1]? = some (C, T, N) := by
    have : mc.1 < classes.length := h13
    exact ⟨_, _, _, List.getElem?_eq_getElem this⟩
  have hCls : ownN mc.1 = C := (clsOK h1).2.2.2.2.2
  have hr : ∃ cell : Cell, H[g.2.2.2 b]? = some cell ∧ cell.vm.isStatics = false ∧ s.vm.findClass C = some cell.cls := va_recv hC.2.2.2.2.2.2.1 hP h1 (q0 := b) (by rw [wld_get g M hb.1, cnc_o hb.2])
  have hyC : mc.2.1.cls = C := hok.2.1.trans hCls
  have hrun := va_runV (As := As.map (cv g.2.2.2)) (rest := rest.map (cv g.2.2.2)) (g := F0 m pc ls (st.map (cv g.2.2.2))) (C := C) (locs := locs) (cells := n1) (slots := n2) (e := e) (below := below) (meth := meth) ⟨hC.1, hC.2.1, hC.2.2.2.1, hC.2.2.2.2.1, hC.2.2.2.2.2.1⟩ (hM H.size)
    (show CallW R s sa (ownN md.1) C i mc.2.1 mc.2.2.1 mc.2.2.2.1 mc.2.2.2.2 (wsM mc) (rmk d) 0 0 n from ⟨callB_of n hC.2.2.2.2.2.1 (goodWD (wsM_in hok)) rfl rfl rfl (hC.2.2.2.2.2.1 _ hini) (hC.2.2.2.2.2.1 _ hlink) hnm (rmk_ok hk hok.2.2.1 hR.1 hR.2.1), hC.2.2.2.2.2.1 _ hinst, by rw [← hyC]; exact hC.2.2.2.2.2.1 _ hsel⟩)
    ⟨PcO_blind, hr, fun U hU hW => PcO_at (.ref b :: As) hC hP hS hf U hU hW⟩ rfl (by rw [List.length_map]; exact hlen) hl.1 (by rw [hs]; simp [cv]) (lv_room (by rw [wid_sum]; exact hst)) hd ⟨Nat.le_trans (Nat.le_add_right _ _) hR.2.2.1, Nat.le_trans (Nat.le_add_right _ _) hR.2.2.2.1⟩
  refine goOn hrun hS hf (fun H1 locs1 hP1 hS1 => ?_)
  have h9 := hn p e s m sa below meth cc H1 locs1 A ls R n1 n2 b1 b2 Q hC hP1 hS1 hl hR hQ
  have e9 : (w.toList ++ rest).map (cv g.2.2.2) = (w.map (cv g.2.2.2)).toList ++ rest.map (cv g.2.2.2) := by cases w <;> rfl
  rw [e9] at h9
  exact h9
theorem R_callS {i n d : Nat} {mc : MD} {As rest : List Value} {w : Option Value} {M1 : Mem} (hd : decode md.2.2.1 pc = .ok (.invokestatic i, 3)) (hc : okS md.1 i n mc) (hM : Ms g d mc As M w M1) (hk : d + 1 ≤ k) (hs : st = As.reverse ++ rest) (hlen : As.length = n) (hst : wid rest ≤ 8) (hn : Rc g k cx md (pc + 3) lv (w.toList ++ rest) M1 o) : Rc g k cx md pc lv st M o := by
  intro p e s m sa below meth cc H locs A ls R n1 n2 b1 b2 Q hC hP hS hl hR hQ
  obtain ⟨hok, hnm, hlink, hini, hstat⟩ := hc
  have hf : ∀ q, va_A (wld g M) H.size q → A q := wld_free hC.2.2.2.2.2.2.2.1 hS hC.2.2.2.2.2.2.2.2.1
  have hrun := va_runS (As := As.map (cv g.2.2.2)) (rest := rest.map (cv g.2.2.2)) (g := F0 m pc ls (st.map (cv g.2.2.2))) (locs := locs) (cells := n1) (slots := n2) (e := e) (below := below) (meth := meth) ⟨hC.1, hC.2.1, hC.2.2.2.1, hC.2.2.2.2.1, hC.2.2.2.2.2.1⟩ (hM H.size)
    (show CallB R s sa (ownN md.1) i mc.2.1 mc.2.2.1 mc.2.2.2.1 mc.2.2.2.2 (wsM mc) (rmk d) 0 0 n ∧ (Cond.static mc.2.1).before sa s = true from ⟨callB_of n hC.2.2.2.2.2.1 (goodWD (wsM_in hok)) rfl rfl rfl (hC.2.2.2.2.2.1 _ hini) (hC.2.2.2.2.2.1 _ hlink) hnm (rmk_ok hk hok.2.2.1 hR.1 hR.2.1), hC.2.2.2.2.2.1 _ hstat⟩)
    ⟨PcO_blind, fun U hU hW => PcO_at As hC hP hS hf U hU hW⟩ rfl (by rw [List.length_map]; exact hlen) hl.1 (by rw [hs]; simp) (lv_room (by rw [wid_sum]; exact hst)) hd ⟨Nat.le_trans (Nat.le_add_right _ _) hR.2.2.1, Nat.le_trans (Nat.le_add_right _ _) hR.2.2.2.1⟩
  refine goOn hrun hS hf (fun H1 locs1 hP1 hS1 => ?_)
  have h9 := hn p e s m sa below meth cc H1 locs1 A ls R n1 n2 b1 b2 Q hC hP1 hS1 hl hR hQ
  have e9 : (w.toList ++ rest).map (cv g.2.2.2) = (w.map (cv g.2.2.2)).toList ++ rest.map (cv g.2.2.2) := by cases w <;> rfl
  rw [e9] at h9
  exact h9
end RC
