/-! MAKING: the rules that touch cells -/
theorem adB_lt {b a z : Nat} (h : z < 1000000) : adB b a z = b + z := by
  unfold adB
  have e : Nat.beq z 1000000 = false := Bool.eq_false_iff.mpr (fun q => by have := Nat.eq_of_beq_eq_true q; omega)
  rw [e]; rfl
theorem mkN {D : va_G} {cl : List vw_C} {ar : Nat → ClassId} {b a : Nat} {L es : List ME} {H0 H H1 : Heap} {A : Nat → Prop} {locs : List Loc} (hP : va_P D cl (sqW ar b a L) H) (hz : H.size = b + L.length) (hS : va_S A H0 H locs) (z1 : H1.size = H.size + es.length) (o1 : ∀ q : Nat, q < H.size → H1[q]? = H[q]?) (hn : ∀ (j : Nat) (e : ME), es[j]? = some e → va_at D cl (b + (L.length + j), evE ar b a e) H1) : va_P D cl (sqW ar b a (L ++ es)) H1 ∧ H1.size = b + (L ++ es).length ∧ va_S A H0 H1 locs := by
  refine ⟨fun k q hk => ?_, by rw [z1, hz, List.length_append]; omega, ⟨Nat.le_trans hS.1 (by omega), fun x h1 h2 => (o1 x (Nat.lt_of_lt_of_le h1 hS.1)).trans (hS.2.1 x h1 h2), hS.2.2⟩⟩
  obtain ⟨e, he, rfl, hlt⟩ := sqW_at hk
  by_cases h : k < L.length
  · rw [List.getElem?_append_left h] at he
    have h2 := hP k _ (sqW_some he)
    exact h2.kept (o1 _ h2.lt)
  · rw [List.getElem?_append_right (by omega)] at he
    have h3 := hn (k - L.length) e he
    rwa [show L.length + (k - L.length) = k by omega] at h3
theorem one_at {α : Type} {x y : α} {j : Nat} (h : [x][j]? = some y) : j = 0 ∧ y = x := by
  cases j with
  | zero => exact ⟨rfl, (Option.some.inj h).symm⟩
  | succ j => simp at h
def atK : ArrayType → Option Nat
  | .int => some 1
  | .byte => some 2
  | .boolean => some 3
  | .long => some 4
  | _ => none
theorem atK_ok {at0 : ArrayType} {kk : Nat} (h : atK at0 = some kk) : Cond.arrayClass (newarray.typeOf at0) ∈ WD ∧ (∀ (g : Gl) (s : State) (cA : ClassId), va_K g.2.1 classes (tyG g) s → s.vm.findClass ("[" ++ (newarray.typeOf at0).toString) = some cA → cA = g.2.2.1 kk) ∧ (∀ (cA : ClassId) (N b a : Nat), ∃ x, evE (fun _ => cA) b a (.inr (.inl (kk, N, []))) = .inl (cA, x) ∧ vp_cell cA x = arrV cA N (fun _ => defaultValue (newarray.typeOf at0))) := by
  cases at0 <;> simp only [atK, reduceCtorEq, Option.some.injEq] at h <;> subst h
  · exact ⟨inW (i := 367) (by decide +kernel) (by decide +kernel), fun g s cA hK h => Option.some.inj (h.symm.trans (hK.2 2 _ rfl).2), fun cA N b a => ⟨_, rfl, rfl⟩⟩
  · exact ⟨inW (i := 75) (by decide +kernel) (by decide +kernel), fun g s cA hK h => Option.some.inj (h.symm.trans (hK.2 1 _ rfl).2), fun cA N b a => ⟨_, rfl, rfl⟩⟩
  · exact ⟨inW (i := 165) (by decide +kernel) (by decide +kernel), fun g s cA hK h => Option.some.inj (h.symm.trans (hK.2 0 _ rfl).2), fun cA N b a => ⟨_, rfl, rfl⟩⟩
  · exact ⟨inW (i := 334) (by decide +kernel) (by decide +kernel), fun g s cA hK h => Option.some.inj (h.symm.trans (hK.2 3 _ rfl).2), fun cA N b a => ⟨_, rfl, rfl⟩⟩
section KM
variable {g : Gl} {b a k : Nat} {md : MD} {pc : Nat} {lv : List (Option Value)} {st : List Value} {L : List ME} {n1 n2 : Nat}
theorem K_newarray {at0 : ArrayType} {kk : Nat} {n : Int32} (hd : decode md.2.2.1 pc = .ok (.newarray at0, 2)) (hk : atK at0 = some kk) (hn : ¬ n < 0) (hb : n.toNatClampNeg * componentBytes (newarray.typeOf at0) ≤ 536870912) : Kt g b a k md (pc, lv, .int n :: st, L, n1, n2) (pc + 2, lv, .ref L.length :: st, L ++ [.inr (.inl (kk, n.toNatClampNeg, []))], n1 + 1, n2 + n.toNatClampNeg) := by
  refine ⟨⟨Nat.le_add_right _ _, Nat.le_add_right _ _, by simp⟩, fun p e s m sa below meth c H locs A ls R Q hC hA hP hz hS hl hR kk2 => ?_⟩
  obtain ⟨w1, w2, w3⟩ := atK_ok hk
  have hlen : L.length < 1000000 := by have := hR.2.2.2.2; simp at this; omega
  refine va_newaK hC.1 hC.2.1 (hC.2.2.2.2.1 _ w1) rfl hd rfl hn rfl hb hR.2.2.1 hR.2.2.2.1 rfl (fun H1 cA e1 z1 o1 hAr hNm => ?_)
  have hcA := w2 g s cA hC.2.2.2.2.2.1 hNm
  obtain ⟨h1, h2, h3⟩ := mkN (es := [.inr (.inl (kk, n.toNatClampNeg, []))]) hP hz hS z1 o1 (fun j x hx => by
    obtain ⟨rfl, rfl⟩ := one_at hx
    obtain ⟨y, y1, y2⟩ := w3 (g.2.2.1 kk) n.toNatClampNeg b a
    have y3 : evE g.2.2.1 b a (.inr (.inl (kk, n.toNatClampNeg, []))) = .inl (g.2.2.1 kk, y) := y1
    rw [y3]
    show H1[b + (L.length + 0)]? = some (vp_cell (g.2.2.1 kk) y)
    rw [y2, Nat.add_zero, ← hz, e1, hcA])
  have h9 := kk2 ls H1 locs h1 h2 h3 hl
  have e9 : (cv (gb g b a).2.2.2 (.ref L.length)) = .ref H.size := by
    show Value.ref (adB b a L.length) = _
    rw [adB_lt hlen, hz]
  simp only [List.map_cons, e9] at h9
  exact h9
end KM
