/-! MAKING: new, fields and elements -/
def rty (d : String) : Bool := match parseFieldDescriptor d with
  | some (.object _) => true
  | some (.array _) => true
  | _ => false
theorem rty_ok {d : String} (h : rty d = true) : ∃ ty, parseFieldDescriptor d = some ty ∧ ∀ x : Nat, narrow ty (.ref x) = .ref x ∧ fits ty (.ref x) = true := by
  unfold rty at h
  split at h
  · rename_i c e; exact ⟨_, e, fun x => ⟨rfl, rfl⟩⟩
  · rename_i c e; exact ⟨_, e, fun x => ⟨rfl, rfl⟩⟩
  · cases h
theorem clsOK2 {ci : Nat} {C : String} {T : u_T} {N : Nat} (h : classes[ci]? = some (C, T, N)) : (∀ k, k < N → (T k).1 = C) ∧ (∀ k, k < N → (parseFieldDescriptor (T k).2.2.1).map defaultValue = some (bif frq ci k then Value.null else .int 0)) ∧ (∀ k, k < N → frq ci k = true → rty (T k).2.2.1 = true) ∧ ci < 13 := by
  match ci, h with
  | 0, h => cases h; exact ⟨by decide +kernel, by decide +kernel, by decide +kernel, by decide⟩
  | 1, h => cases h; exact ⟨by decide +kernel, by decide +kernel, by decide +kernel, by decide⟩
  | 2, h => cases h; exact ⟨by decide +kernel, by decide +kernel, by decide +kernel, by decide⟩
  | 3, h => cases h; exact ⟨by decide +kernel, by decide +kernel, by decide +kernel, by decide⟩
  | 4, h => cases h; exact ⟨by decide +kernel, by decide +kernel, by decide +kernel, by decide⟩
  | 5, h => cases h; exact ⟨by decide +kernel, by decide +kernel, by decide +kernel, by decide⟩
  | 6, h => cases h; exact ⟨by decide +kernel, by decide +kernel, by decide +kernel, by decide⟩
  | 7, h => cases h; exact ⟨by decide +kernel, by decide +kernel, by decide +kernel, by decide⟩
  | 8, h => cases h; exact ⟨by decide +kernel, by decide +kernel, by decide +kernel, by decide⟩
  | 9, h => cases h; exact ⟨by decide +kernel, by decide +kernel, by decide +kernel, by decide⟩
  | 10, h => cases h; exact ⟨by decide +kernel, by decide +kernel, by decide +kernel, by decide⟩
  | 11, h => cases h; exact ⟨by decide +kernel, by decide +kernel, by decide +kernel, by decide⟩
  | 12, h => cases h; exact ⟨by decide +kernel, by decide +kernel, by decide +kernel, by decide⟩
  | k + 13, h => simp [classes] at h
def nwT : List (Nat × Nat × Nat × Nat × Nat × Nat) := [(16, 8, 11, 26, 27, 1), (11, 32, 5, 34, 35, 2), (11, 41, 4, 76, 77, 3), (11, 51, 2, 166, 167, 4), (11, 58, 10, 192, 193, 5), (11, 65, 8, 222, 223, 6), (8, 9, 7, 228, 229, 7), (11, 81, 1, 279, 280, 8), (11, 90, 0, 295, 296, 9), (11, 99, 9, 335, 336, 10), (11, 108, 3, 368, 369, 11), (11, 115, 6, 393, 394, 12), (16, 115, 12, 1398, 1399, 13)]
def nwF (o i : Nat) : List (Nat × Nat × Nat × Nat × Nat × Nat) → Option Nat
  | [] => none
  | q :: r => bif Nat.beq o q.1 && Nat.beq i q.2.1 then some q.2.2.1 else nwF o i r
def nwC (q : Nat × Nat × Nat × Nat × Nat × Nat) : Bool := Nat.blt q.2.2.1 13 && decide (tables_1[q.2.2.2.1]? = some (Cond.classLink (ownN q.1) q.2.1 (ownN q.2.2.1))) && goodWord (Cond.classLink (ownN q.1) q.2.1 (ownN q.2.2.1)) && decide (tables_1[q.2.2.2.2.1]? = some (Cond.instantiable (ownN q.2.2.1) (nfl q.2.2.1))) && goodWord (Cond.instantiable (ownN q.2.2.1) (nfl q.2.2.1)) && decide (tables_1[q.2.2.2.2.2]? = some (Cond.initialized (ownN q.2.2.1))) && goodWord (Cond.initialized (ownN q.2.2.1))
theorem nwT_ok : nwT.all nwC = true := by decide +kernel
theorem nwF_mem {o i ci : Nat} : ∀ {l : List (Nat × Nat × Nat × Nat × Nat × Nat)}, nwF o i l = some ci → ∃ q ∈ l, q.1 = o ∧ q.2.1 = i ∧ q.2.2.1 = ci
  | [], h => by cases h
  | q :: r, h => by
    unfold nwF at h
    cases e : (Nat.beq o q.1 && Nat.beq i q.2.1) with
    | true =>
      rw [e] at h
      have e2 := Bool.and_eq_true_iff.mp e
      exact ⟨q, List.mem_cons_self, (Nat.eq_of_beq_eq_true e2.1).symm, (Nat.eq_of_beq_eq_true e2.2).symm, Option.some.inj h⟩
    | false =>
      rw [e] at h
      obtain ⟨q2, h1, h2⟩ := nwF_mem (l := r) h
      exact ⟨q2, List.mem_cons_of_mem _ h1, h2⟩
theorem nw_ok {o i ci : Nat} (h : nwF o i nwT = some ci) : ci < 13 ∧ Cond.classLink (ownN o) i (ownN ci) ∈ WD ∧ Cond.instantiable (ownN ci) (nfl ci) ∈ WD ∧ Cond.initialized (ownN ci) ∈ WD := by
  obtain ⟨q, hq, rfl, rfl, rfl⟩ := nwF_mem h
  have h1 := List.all_eq_true.mp nwT_ok q hq
  unfold nwC at h1
  simp only [Bool.and_eq_true, decide_eq_true_eq] at h1
  obtain ⟨⟨⟨⟨⟨⟨h1, h2⟩, h3⟩, h4⟩, h5⟩, h6⟩, h7⟩ := h1
  exact ⟨Nat.le_of_ble_eq_true h1, inW h2 h3, inW h4 h5, inW h6 h7⟩
def dfl (ci : Nat) : List MV := (List.range (nfl ci)).map (fun j => bif frq ci j then .inr none else .inl 0)
section KN
variable {g : Gl} {b a k : Nat} {md : MD} {pc : Nat} {lv : List (Option Value)} {st : List Value} {L : List ME} {n1 n2 : Nat}
theorem cls_ex {ci : Nat} (h : ci < 13) : ∃ (C : String) (T : u_T) (N : Nat), classes[ci]? = some (C, T, N) := by
  have : ci < classes.length := h
  exact ⟨_, _, _, List.getElem?_eq_getElem this⟩
theorem K_new {i ci : Nat} (hd : decode md.2.2.1 pc = .ok (.new i, 3)) (hf : nwF md.1 i nwT = some ci) : Kt g b a k md (pc, lv, st, L, n1, n2) (pc + 3, lv, .ref L.length :: st, L ++ [.inl (ci, dfl ci)], n1 + 1, n2 + nfl ci) := by
  refine ⟨⟨Nat.le_add_right _ _, Nat.le_add_right _ _, by simp⟩, fun p e s m sa below meth c H locs A ls R Q hC hA hP hz hS hl hR kk2 => ?_⟩
  obtain ⟨w0, w1, w2, w3⟩ := nw_ok hf
  obtain ⟨C, T, N, h1⟩ := cls_ex w0
  obtain ⟨q1, q2, ⟨ty0, q3⟩, q4, q5, q6⟩ := clsOK h1
  obtain ⟨u1, u2, u3, u4⟩ := clsOK2 h1
  have hlen : L.length < 1000000 := by have := hR.2.2.2.2; simp at this; omega
  have hKn := hC.2.2.2.2.2.1.1 ci _ h1
  have hfc : s.vm.findClass (ownN ci) = some (g.2.1.1 ci) := by rw [q6]; exact hKn.2.1
  refine W.newcK hC.1 hC.2.1 hC.2.2.2.1 (hC.2.2.2.2.1 _ w1) (hC.2.2.2.2.1 _ w2) (hC.2.2.2.2.1 _ w3) rfl hd hR.2.2.1 hR.2.2.2.1 hfc rfl fun H1 kC hkC e1 z1 o1 => ?_
  obtain ⟨y1, y2, y3⟩ := mkN (es := [.inl (ci, dfl ci)]) hP hz hS z1 o1 (fun j x hx => by
    obtain ⟨rfl, rfl⟩ := one_at hx
    rw [Nat.add_zero, ← hz]
    refine ⟨_, h1, (u_born ty0 hC.2.2.2.2.1 q1 hKn hkC e1 q3).to (fun j hj => ?_)⟩
    have r1 := u2 j hj
    rw [q3 j hj] at r1
    have r2 : defaultValue (ty0 j) = bif frq ci j then Value.null else .int 0 := Option.some.inj r1
    rw [r2]
    show _ = ((dfl ci).map (evV b a)).getD j .null
    have hj' : j < nfl ci := by rw [q2]; exact hj
    simp only [dfl, List.map_map, List.getD_eq_getElem?_getD, List.getElem?_map, List.getElem?_range hj', Option.map_some, Option.getD_some, Function.comp]
    cases frq ci j <;> rfl)
  have h9 := kk2 ls H1 locs y1 y2 y3 hl
  have e9 : (cv (gb g b a).2.2.2 (.ref L.length)) = .ref H.size := by
    show Value.ref (adB b a L.length) = _
    rw [adB_lt hlen, hz]
  simp only [List.map_cons, e9] at h9
  exact h9
/-- which array class: of State (6, over class 7), of Timeline (7, over class 8) -/
theorem K_anew {i ci : Nat} {n : Int32} (hd : decode md.2.2.1 pc = .ok (.anewarray i, 3)) (hf : nwF md.1 i nwT = some ci) (hci : ci = 7 ∨ ci = 8) (hn : ¬ n < 0) (hb : n.toNatClampNeg * 4 ≤ 536870912) : Kt g b a k md (pc, lv, .int n :: st, L, n1, n2) (pc + 3, lv, .ref L.length :: st, L ++ [.inr (.inr (ci - 1, n.toNatClampNeg, List.replicate n.toNatClampNeg none))], n1 + 1, n2 + n.toNatClampNeg) := by
  refine ⟨⟨Nat.le_add_right _ _, Nat.le_add_right _ _, by simp⟩, fun p e s m sa below meth c H locs A ls R Q hC hA hP hz hS hl hR kk2 => ?_⟩
  obtain ⟨w0, w1, w2, w3⟩ := nw_ok hf
  have hlen : L.length < 1000000 := by have := hR.2.2.2.2; simp at this; omega
  have hov : (Cond.arrayOver (.object (ownN ci))).before sa s = true ∧ ∀ cA : ClassId, s.vm.findClass ("[" ++ (FieldType.object (ownN ci)).toString) = some cA → cA = g.2.2.1 (ci - 1) := by
    rcases hci with rfl | rfl
    · refine ⟨va_AO.use hC.2.2.2.2.2.2.2.2.1, fun cA h => ?_⟩
      obtain ⟨kA, comp, k1, k2, k3, k4⟩ := (hC.2.2.2.2.2.1.2 5 _ rfl).2
      exact Option.some.inj (h.symm.trans k4)
    · refine ⟨va_AO.use hC.2.2.2.2.2.2.2.2.2.1, fun cA h => ?_⟩
      obtain ⟨kA, comp, k1, k2, k3, k4⟩ := (hC.2.2.2.2.2.1.2 6 _ rfl).2
      exact Option.some.inj (h.symm.trans k4)
  refine W.anew hC.1 hC.2.1 hC.2.2.2.1 (hC.2.2.2.2.1 _ w1) hov.1 rfl hd rfl hn hb hR.2.2.1 hR.2.2.2.1 fun cA kA comp f1 f2 f3 f4 => ?_
  have hcA := hov.2 cA f1
  generalize hH1 : H.push ({ cls := cA, slots := Array.replicate n.toNatClampNeg .null, vm := .none } : Cell) = H1
  have z1 : H1.size = H.size + 1 := by rw [← hH1, Array.size_push]
  have e1 : H1[H.size]? = some (arrV cA n.toNatClampNeg (fun _ => .null)) := by rw [← hH1, Array.getElem?_push_size, ← arrV_new]
  have o1 : ∀ q : Nat, q < H.size → H1[q]? = H[q]? := fun q hq => by rw [← hH1, Array.getElem?_push, if_neg (Nat.ne_of_lt hq)]
  obtain ⟨y1, y2, y3⟩ := mkN (es := [.inr (.inr (ci - 1, n.toNatClampNeg, List.replicate n.toNatClampNeg none))]) hP hz hS z1 o1 (fun j x hx => by
    obtain ⟨rfl, rfl⟩ := one_at hx
    rw [Nat.add_zero, ← hz]
    show H1[H.size]? = some (vp_cell (g.2.2.1 (ci - 1)) _)
    rw [e1, hcA, vp_cell_q]
    congr 2
    funext j
    have : (List.replicate n.toNatClampNeg (none : Option Nat)).getD j none = none := by
      rw [List.getD_eq_getElem?_getD, List.getElem?_replicate]
      split <;> rfl
    rw [this]
    rfl)
  have h9 := kk2 ls H1 locs y1 y2 y3 hl
  have e9 : (cv (gb g b a).2.2.2 (.ref L.length)) = .ref H.size := by
    show Value.ref (adB b a L.length) = _
    rw [adB_lt hlen, hz]
  simp only [List.map_cons, e9] at h9
  exact h9
def vV : MV → Option Value
  | .inl x => some (.int x)
  | .inr (some z) => some (.ref z)
  | .inr none => none
theorem vV_ev {v : MV} {w : Value} (h : vV v = some w) : evV b a v = cv (adB b a) w := by
  match v, h with
  | .inl x, h => cases h; rfl
  | .inr (some z), h => cases h; rfl
theorem K_getfield {i ci j w z : Nat} {fs : List MV} {v : MV} {u : Value} (ho : md.1 < 17) (hd : decode md.2.2.1 pc = .ok (.getfield i, 3)) (hf : lk (flT md.1) i = some (ci, j, w)) (hL : L[z]? = some (.inl (ci, fs))) (hv : fs[j]? = some v) (hu : vV v = some u) : Kt g b a k md (pc, lv, .ref z :: st, L, n1, n2) (pc + 3, lv, u :: st, L, n1, n2) := by
  refine ⟨⟨Nat.le_refl _, Nat.le_refl _, Nat.le_refl _⟩, fun p e s m sa below meth c H locs A ls R Q hC hA hP hz hS hl hR kk => ?_⟩
  obtain ⟨C, T, N, h1, h2, h3⟩ := flOK ho hf
  obtain ⟨q1, q2, -, -, -, -⟩ := clsOK h1
  have hz1 : z < 1000000 := Nat.lt_trans (List.getElem?_eq_some_iff.mp hL).1 hR.2.2.2.2
  have h9 := kk ls H locs hP hz hS hl
  have e9 : cv (gb g b a).2.2.2 (.ref z) = .ref (b + z) := by
    show Value.ref (adB b a z) = _
    rw [adB_lt hz1]
  simp only [List.map_cons] at h9 ⊢
  rw [e9]
  refine va_get (D := g.2.1) (ci := ci) (C := C) (T := T) (N := N) (ws := sqW g.2.2.1 b a L) hC.1 hC.2.1 hC.2.2.2.2.1 q1 hC.2.2.2.1 hC.2.2.2.2.2.1 hP z (sqW_some hL) h1 j h2 (hC.2.2.2.2.1 _ h3) (fun _ h9 => h9) (v := cv (gb g b a).2.2.2 u) ?_ hd h9
  rw [List.getElem?_map, hv]
  exact congrArg some (vV_ev hu)
theorem K_put {i ci j w z : Nat} {fs : List MV} {v : MV} {u : Value} (ho : md.1 < 17) (hd : decode md.2.2.1 pc = .ok (.putfield i, 3)) (hf : lk (flT md.1) i = some (ci, j, w)) (hL : L[z]? = some (.inl (ci, fs))) (hu : vV v = some u) (hq : (frq ci j = false ∧ ∃ x, u = .int x) ∨ (frq ci j = true ∧ (∃ x, u = .ref x) ∧ md.1 = ci ∧ md.2.1.name = "<init>")) (hj : j < fs.length) : Kt g b a k md (pc, lv, u :: .ref z :: st, L, n1, n2) (pc + 3, lv, st, L.set z (.inl (ci, fs.set j v)), n1, n2) := by
  refine ⟨⟨Nat.le_refl _, Nat.le_refl _, by simp⟩, fun p e s m sa below meth c H locs A ls R Q hC hA hP hz hS hl hR kk => ?_⟩
  obtain ⟨C, T, N, h1, h2, h3⟩ := flOK ho hf
  obtain ⟨q1, q2, ⟨ty0, q3⟩, q4, q5, q6⟩ := clsOK h1
  obtain ⟨u1, u2, u3, u4⟩ := clsOK2 h1
  have hts := hC.2.2.2.2.1
  have hown := hC.2.2.2.1
  have hK := hC.2.2.2.2.2.1
  have hlink := hts _ h3
  have hz1 : z < 1000000 := by have := hR.2.2.2.2; simp at this; have := (List.getElem?_eq_some_iff.mp hL).1; omega
  have e9 : cv (gb g b a).2.2.2 (.ref z) = .ref (b + z) := by
    show Value.ref (adB b a z) = _
    rw [adB_lt hz1]
  simp only [List.map_cons]
  rw [e9]
  have hev := vV_ev (b := b) (a := a) hu
  have htyp : ∃ ty : FieldType, parseFieldDescriptor (T j).2.2.1 = some ty ∧ narrow ty (evV b a v) = evV b a v ∧ fits ty (evV b a v) = true := by
    rcases hq with ⟨hq, x, rfl⟩ | ⟨hq, ⟨x, rfl⟩, -, -⟩
    · obtain ⟨-, z2⟩ := q5 j h2 hq
      rw [hev]
      exact ⟨.int, by rw [z2]; rfl, rfl, rfl⟩
    · obtain ⟨ty, t1, t2⟩ := rty_ok (u3 j h2 hq)
      rw [hev]
      exact ⟨ty, t1, (t2 _).1, (t2 _).2⟩
  obtain ⟨ty, t1, t2, t3⟩ := htyp
  have hap := va_apart (own := ownN md.1) hts q1 ty0 q3 q4 hK h1
  have he := sqW_some (ar := g.2.2.1) (b := b) (a := a) hL
  obtain ⟨r, r1, cell, c1, c2, c3, c4⟩ := hP z _ he
  have hr : r = (C, T, N) := Option.some.inj (r1.symm.trans h1)
  subst hr
  obtain ⟨hSl, hfc, kC, hkC, hkind⟩ := hK.1 ci _ h1
  obtain ⟨cf, kf, fi, f, hi, hsl⟩ := hSl j h2
  have hst := (u_facts hfc hkC (u_lays hts q1 h2) hi).1
  have hlay := hts _ (q1 _ (u_in_lay h2))
  unfold u_lay at hlay
  have hD : va_D A (sqW g.2.2.1 b a L) := sqW_D hA
  have hfin : ∀ H' : Heap, H'[b + z]? = some (cell.setSlot f.slot (evV b a v)) → H'.size = H.size → (∀ q, q ≠ b + z → H'[q]? = H[q]?) → W p g.1 e R s m sa below meth c H' (locs ++ [⟨b + z, f.slot⟩]) n1 n2 Q (F0 m (pc + 3) ls (st.map (cv (gb g b a).2.2.2))) := fun H' e1 e2 e3 => by
    rw [hsl] at e1 ⊢
    have hP1 := hP.set hD he (e := .inr (ci, (fs.map (evV b a)).set j (evV b a v))) ⟨_, h1, t_OB.to (V := updV (vp_V (fs.map (evV b a))) j (evV b a v)) ⟨_, e1, c2, c3, t_set c4 hap h2 _⟩ (fun i _ => vp_updV_set (by rw [List.length_map]; exact hj) _ i)⟩ e3
    have e8 : (Sum.inr (ci, (fs.map (evV b a)).set j (evV b a v)) : va_E) = evE g.2.2.1 b a (.inl (ci, fs.set j v)) := by
      show _ = Sum.inr (ci, (fs.set j v).map (evV b a))
      rw [List.map_set]
    rw [e8, sqW_set] at hP1
    exact kk ls H' _ hP1 (by rw [e2, hz, List.length_set]) (hS.put e2 e3 (hD.2 z _ he)) hl
  have hev2 : cv (gb g b a).2.2.2 u = evV b a v := hev.symm
  rw [hev2]
  cases hf1 : (T j).2.2.2 with
  | false =>
    rw [if_neg (by rw [hf1]; decide)] at hlay
    have h6 := u_store hfc hkC hkind hlay hi t1 t2 t3
    exact W.putK hC.1 hC.2.1 (f := f) ⟨hown, hlink, ⟨_, _, _, hi⟩, hst⟩ (by rw [c2]; exact h6) c1 c3 (by rw [hsl]; exact k2_hasslot (c4 j h2)) rfl rfl hd hfin
  | true =>
    rw [if_pos hf1] at hlay
    rcases hq with ⟨hq, -⟩ | ⟨-, -, hq2, hq3⟩
    · have := (q5 j h2 hq).1
      rw [hf1] at this; cases this
    · have hcf : m.cls = cf := by
        obtain ⟨_, _, c', _, _, _, -, -, hf', -, -, -, hown2, -⟩ := Cond.laysFinal_spec hlay
        have e1 : c' = cf := by have := hi.symm.trans hf'; simp at this; exact this.1.symm
        rw [u1 j h2, ← q6, ← hq2] at hown2
        rw [← e1]; exact Option.some.inj (hown.symm.trans hown2)
      have h6 := u_fits hfc hkC hkind (Or.inr hlay) hi t1 t2 t3
      exact W.putFinK hC.1 hC.2.1 hown hlink hi hst hcf (hC.2.2.2.2.2.2.1 hq3) (by rw [c2]; exact h6) c1 c3 (by rw [hsl]; exact k2_hasslot (c4 j h2)) rfl rfl hd hfin
theorem K_iaload {z n : Nat} {xs : List (Nat × Int32)} {i : Int32} (hd : decode md.2.2.1 pc = .ok (.iaload, 1)) (hL : L[z]? = some (.inr (.inl (1, n, xs)))) (hin : vp_in i n) : Kt g b a k md (pc, lv, .int i :: .ref z :: st, L, n1, n2) (pc + 1, lv, .int (lkA xs i.toNatClampNeg) :: st, L, n1, n2) := by
  refine ⟨⟨Nat.le_refl _, Nat.le_refl _, Nat.le_refl _⟩, fun p e s m sa below meth c H locs A ls R Q hC hA hP hz hS hl hR kk => ?_⟩
  have hz1 : z < 1000000 := Nat.lt_trans (List.getElem?_eq_some_iff.mp hL).1 hR.2.2.2.2
  have h9 := kk ls H locs hP hz hS hl
  have e9 : cv (gb g b a).2.2.2 (.ref z) = .ref (b + z) := by
    show Value.ref (adB b a z) = _
    rw [adB_lt hz1]
  simp only [List.map_cons] at h9 ⊢
  rw [e9]
  exact va_iald (D := g.2.1) (ws := sqW g.2.2.1 b a L) hC.1 hC.2.1 hC.2.2.2.2.2.1 hP z 0 (sqW_some hL) rfl hin hd h9
theorem lkA_upd {xs : List (Nat × Int32)} {i : Nat} {x : Int32} : lkA ((i, x) :: xs) = upd (lkA xs) i x := by
  funext j
  show (bif Nat.beq j i then x else lkA xs j) = if j = i then x else lkA xs j
  by_cases h : j = i
  · subst h; simp
  · have e : Nat.beq j i = false := Bool.eq_false_iff.mpr (fun q => h (Nat.eq_of_beq_eq_true q))
    rw [e, if_neg h]; rfl
theorem K_iastore {z n : Nat} {xs : List (Nat × Int32)} {i x : Int32} (hd : decode md.2.2.1 pc = .ok (.iastore, 1)) (hL : L[z]? = some (.inr (.inl (1, n, xs)))) (hin : vp_in i n) : Kt g b a k md (pc, lv, .int x :: .int i :: .ref z :: st, L, n1, n2) (pc + 1, lv, st, L.set z (.inr (.inl (1, n, (i.toNatClampNeg, x) :: xs))), n1, n2) := by
  refine ⟨⟨Nat.le_refl _, Nat.le_refl _, by simp⟩, fun p e s m sa below meth c H locs A ls R Q hC hA hP hz hS hl hR kk => ?_⟩
  have hz1 : z < 1000000 := by have := hR.2.2.2.2; simp at this; have := (List.getElem?_eq_some_iff.mp hL).1; omega
  have e9 : cv (gb g b a).2.2.2 (.ref z) = .ref (b + z) := by
    show Value.ref (adB b a z) = _
    rw [adB_lt hz1]
  simp only [List.map_cons]
  rw [e9]
  have he := sqW_some (ar := g.2.2.1) (b := b) (a := a) hL
  have hD : va_D A (sqW g.2.2.1 b a L) := sqW_D hA
  have hc1 : H[b + z]? = some (vp_cell (g.2.2.1 1) (n, .inl (lkA xs))) := hP z _ he
  refine W.iast hC.1 hC.2.1 hc1 ((hC.2.2.2.2.2.1.2 0 _ rfl).1 n (fun j => .int (lkA xs j))) (fun q => by cases q) (by show ¬ (i < 0 ∨ (arrV _ _ _).slots.size ≤ _); rw [arrV_size]; exact hin) rfl rfl hd fun H1 e1 z2 oq => ?_
  have hP1 := hP.set hD he (e := evE g.2.2.1 b a (.inr (.inl (1, n, (i.toNatClampNeg, x) :: xs)))) (by
    show H1[b + z]? = some (vp_cell (g.2.2.1 1) (n, .inl (lkA ((i.toNatClampNeg, x) :: xs))))
    rw [e1, lkA_upd, vp_cell_i, vp_cell_i, arrV_store]
    congr 2
    funext q
    by_cases h : q = i.toNatClampNeg <;> simp [updV, upd, h]) oq
  rw [sqW_set] at hP1
  exact kk ls H1 _ hP1 (by rw [z2, hz, List.length_set]) (hS.put z2 oq (hD.2 z _ he)) hl
theorem getD_set {rs : List (Option Nat)} {i : Nat} (h : i < rs.length) (v : Option Nat) (j : Nat) : (rs.set i v).getD j none = if j = i then v else rs.getD j none := by
  rw [List.getD_eq_getElem?_getD, List.getD_eq_getElem?_getD, List.getElem?_set]
  by_cases e : i = j
  · subst e; simp [h]
  · simp [e, Ne.symm e, show ¬ j = i from fun q => e q.symm]
theorem K_aastore {z z2 n ci : Nat} {rs : List (Option Nat)} {vs : List MV} {i : Int32} (hd : decode md.2.2.1 pc = .ok (.aastore, 1)) (hL : L[z]? = some (.inr (.inr (ci - 1, n, rs)))) (hL2 : L[z2]? = some (.inl (ci, vs))) (hci : ci = 7 ∨ ci = 8) (hin : vp_in i n) (hrs : i.toNatClampNeg < rs.length) : Kt g b a k md (pc, lv, .ref z2 :: .int i :: .ref z :: st, L, n1, n2) (pc + 1, lv, st, L.set z (.inr (.inr (ci - 1, n, rs.set i.toNatClampNeg (some z2)))), n1, n2) := by
  refine ⟨⟨Nat.le_refl _, Nat.le_refl _, by simp⟩, fun p e s m sa below meth c H locs A ls R Q hC hA hP hz hS hl hR kk => ?_⟩
  have hz1 : z < 1000000 := by have := hR.2.2.2.2; simp at this; have := (List.getElem?_eq_some_iff.mp hL).1; omega
  have hz2 : z2 < 1000000 := by have := hR.2.2.2.2; simp at this; have := (List.getElem?_eq_some_iff.mp hL2).1; omega
  have e9 : cv (gb g b a).2.2.2 (.ref z) = .ref (b + z) := by
    show Value.ref (adB b a z) = _
    rw [adB_lt hz1]
  have e8 : cv (gb g b a).2.2.2 (.ref z2) = .ref (b + z2) := by
    show Value.ref (adB b a z2) = _
    rw [adB_lt hz2]
  simp only [List.map_cons]
  rw [e9, e8]
  have he := sqW_some (ar := g.2.2.1) (b := b) (a := a) hL
  have he2 := sqW_some (ar := g.2.2.1) (b := b) (a := a) hL2
  have hD : va_D A (sqW g.2.2.1 b a L) := sqW_D hA
  have hK := hC.2.2.2.2.2.1
  have hlt : i.toNatClampNeg < n := Nat.not_le.mp fun q => hin (Or.inr q)
  have h0 : ¬ i < 0 := fun q => hin (Or.inl q)
  obtain ⟨r, hr, cellV, g1, g2, g3, -⟩ := hP z2 _ he2
  have hcls := (hK.1 ci r hr).2
  have hra : ∃ kA : Class, s.vm.classes[g.2.2.1 (ci - 1)]? = some kA ∧ kA.kind = .array (g.2.1.1 ci) (.object r.1) := by
    rcases hci with rfl | rfl
    · obtain ⟨kA, comp, k1, k2, k3, -⟩ := (hK.2 5 _ rfl).2
      have e7 : r.1 = "LostMuseum$State" := by cases hr; rfl
      have hcomp : comp = g.2.1.1 7 := Option.some.inj (k3.symm.trans (by rw [← e7]; exact hcls.1))
      exact ⟨kA, k1, by rw [k2, hcomp, e7]⟩
    · obtain ⟨kA, comp, k1, k2, k3, -⟩ := (hK.2 6 _ rfl).2
      have e7 : r.1 = "LostMuseum$Timeline" := by cases hr; rfl
      have hcomp : comp = g.2.1.1 8 := Option.some.inj (k3.symm.trans (by rw [← e7]; exact hcls.1))
      exact ⟨kA, k1, by rw [k2, hcomp, e7]⟩
  obtain ⟨kA, k1, k2⟩ := hra
  obtain ⟨kC, hkC, -⟩ := hcls.2
  have hc1 : H[b + z]? = some (vp_cell (g.2.2.1 (ci - 1)) (n, .inr (.inr (.inr (.inr (fun j => (rs.getD j none).map (fun z => adB b a z))))))) := hP z _ he
  refine W.aast hC.1 hC.2.1 hc1 (fun q h => by cases h) (fun h => by cases h) k1 k2 rfl hkC ⟨h0, by show _ < (arrV _ _ _).slots.size; rw [arrV_size]; exact hlt⟩ g1 (fun q h => by rw [g3] at h; cases h) (by rw [g2]; exact hkC) (by rw [g2]; exact va_assign hcls) rfl rfl hd fun H1 e1 zz oq => ?_
  have hP1 := hP.set hD he (e := evE g.2.2.1 b a (.inr (.inr (ci - 1, n, rs.set i.toNatClampNeg (some z2))))) (by
    show H1[b + z]? = some (vp_cell (g.2.2.1 (ci - 1)) (n, .inr (.inr (.inr (.inr (fun j => ((rs.set i.toNatClampNeg (some z2)).getD j none).map (fun z => adB b a z)))))))
    rw [e1, vp_cell_q, vp_cell_q, arrV_store]
    congr 2
    funext q
    rw [getD_set hrs]
    by_cases h : q = i.toNatClampNeg
    · simp [updV, h, va_rf, adB_lt hz2]
    · simp [updV, h]) oq
  rw [sqW_set] at hP1
  exact kk ls H1 _ hP1 (by rw [zz, hz, List.length_set]) (hS.put zz oq (hD.2 z _ he)) hl
end KN
