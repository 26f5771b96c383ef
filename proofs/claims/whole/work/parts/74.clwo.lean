/-! MATHEMATICS 44: a law's units and sums in the class -/
def cwJ (tb : Nat → Nat) (n q : Nat) : Int32 := match wdK tb n q with
  | some k => -1 - nI k
  | none => if isW (wT 13) tb n q = true then -9 else if isW (wT 14) tb n q = true then -10 else -16
theorem c_code {tb : Nat → Nat} {n q : Nat} {M : Mem} (h : Cx tb n M) (hq : q ≤ n) (h4 : rd M 1560 4 = nI q) (h3 : rd M 1560 3 = nI (weT tb n q)) : P_2_codeOfWord_0 M ∧ F_2_codeOfWord_0 M = cwJ tb n q := by
  have w := fun (t : Nat) (ht : t < 18) => c_isWord h hq h4 h3 (t := t) ht
  have p6 : P_5_isWord_0 M 6 := (w 5 (by omega)).1
  have p7 : P_5_isWord_0 M 7 := (w 6 (by omega)).1
  have p8 : P_5_isWord_0 M 8 := (w 7 (by omega)).1
  have p2 : P_5_isWord_0 M 2 := (w 1 (by omega)).1
  have p9 : P_5_isWord_0 M 9 := (w 8 (by omega)).1
  have p10 : P_5_isWord_0 M 10 := (w 9 (by omega)).1
  have p11 : P_5_isWord_0 M 11 := (w 10 (by omega)).1
  have p12 : P_5_isWord_0 M 12 := (w 11 (by omega)).1
  have p13 : P_5_isWord_0 M 13 := (w 12 (by omega)).1
  have p14 : P_5_isWord_0 M 14 := (w 13 (by omega)).1
  have f6 : F_5_isWord_0 M 6 = if isW (wT 6) tb n q = true then 1 else 0 := (w 5 (by omega)).2
  have f7 : F_5_isWord_0 M 7 = if isW (wT 7) tb n q = true then 1 else 0 := (w 6 (by omega)).2
  have f8 : F_5_isWord_0 M 8 = if isW (wT 8) tb n q = true then 1 else 0 := (w 7 (by omega)).2
  have f2 : F_5_isWord_0 M 2 = if isW (wT 2) tb n q = true then 1 else 0 := (w 1 (by omega)).2
  have f9 : F_5_isWord_0 M 9 = if isW (wT 9) tb n q = true then 1 else 0 := (w 8 (by omega)).2
  have f10 : F_5_isWord_0 M 10 = if isW (wT 10) tb n q = true then 1 else 0 := (w 9 (by omega)).2
  have f11 : F_5_isWord_0 M 11 = if isW (wT 11) tb n q = true then 1 else 0 := (w 10 (by omega)).2
  have f12 : F_5_isWord_0 M 12 = if isW (wT 12) tb n q = true then 1 else 0 := (w 11 (by omega)).2
  have f13 : F_5_isWord_0 M 13 = if isW (wT 13) tb n q = true then 1 else 0 := (w 12 (by omega)).2
  have f14 : F_5_isWord_0 M 14 = if isW (wT 14) tb n q = true then 1 else 0 := (w 13 (by omega)).2
  rw [P_2_codeOfWord_0, F_2_codeOfWord_0, f6, f7, f8, f2, f9, f10, f11, f12, f13, f14]
  simp only [p6, p7, p8, p2, p9, p10, p11, p12, p13, p14, if_true, if_false, true_imp_iff, false_imp_iff, not_true_eq_false, not_false_eq_true, true_and, and_true, implies_true, reduceIte]
  unfold cwJ wdK
  by_cases k0 : isW (wT 6) tb n q = true
  · simp only [k0, i10, if_true, if_false, true_imp_iff, false_imp_iff, not_true_eq_false, not_false_eq_true, true_and, and_true, implies_true, reduceIte]; rfl
  by_cases k1 : isW (wT 7) tb n q = true
  · simp only [Bool.false_eq_true, k0, k1, i10, if_true, if_false, true_imp_iff, false_imp_iff, not_true_eq_false, not_false_eq_true, true_and, and_true, implies_true, reduceIte]; rfl
  by_cases k2 : isW (wT 8) tb n q = true
  · simp only [Bool.false_eq_true, k0, k1, k2, i10, if_true, if_false, true_imp_iff, false_imp_iff, not_true_eq_false, not_false_eq_true, true_and, and_true, implies_true, reduceIte]; rfl
  by_cases k3 : isW (wT 2) tb n q = true
  · simp only [Bool.false_eq_true, k0, k1, k2, k3, i10, if_true, if_false, true_imp_iff, false_imp_iff, not_true_eq_false, not_false_eq_true, true_and, and_true, implies_true, reduceIte]; rfl
  by_cases k4 : isW (wT 9) tb n q = true
  · simp only [Bool.false_eq_true, k0, k1, k2, k3, k4, i10, if_true, if_false, true_imp_iff, false_imp_iff, not_true_eq_false, not_false_eq_true, true_and, and_true, implies_true, reduceIte]; rfl
  by_cases k5 : isW (wT 10) tb n q = true
  · simp only [Bool.false_eq_true, k0, k1, k2, k3, k4, k5, i10, if_true, if_false, true_imp_iff, false_imp_iff, not_true_eq_false, not_false_eq_true, true_and, and_true, implies_true, reduceIte]; rfl
  by_cases k6 : isW (wT 11) tb n q = true
  · simp only [Bool.false_eq_true, k0, k1, k2, k3, k4, k5, k6, i10, if_true, if_false, true_imp_iff, false_imp_iff, not_true_eq_false, not_false_eq_true, true_and, and_true, implies_true, reduceIte]; rfl
  by_cases k7 : isW (wT 12) tb n q = true
  · simp only [Bool.false_eq_true, k0, k1, k2, k3, k4, k5, k6, k7, i10, if_true, if_false, true_imp_iff, false_imp_iff, not_true_eq_false, not_false_eq_true, true_and, and_true, implies_true, reduceIte]; rfl
  by_cases k8 : isW (wT 13) tb n q = true
  · simp only [Bool.false_eq_true, k0, k1, k2, k3, k4, k5, k6, k7, k8, i10, if_true, if_false, true_imp_iff, false_imp_iff, not_true_eq_false, not_false_eq_true, true_and, and_true, implies_true, reduceIte]
  by_cases k9 : isW (wT 14) tb n q = true
  · simp only [Bool.false_eq_true, k0, k1, k2, k3, k4, k5, k6, k7, k8, k9, i10, if_true, if_false, true_imp_iff, false_imp_iff, not_true_eq_false, not_false_eq_true, true_and, and_true, implies_true, reduceIte]
  · simp only [Bool.false_eq_true, k0, k1, k2, k3, k4, k5, k6, k7, k8, k9, i10, if_true, if_false, true_imp_iff, false_imp_iff, not_true_eq_false, not_false_eq_true, true_and, and_true, implies_true, reduceIte]
theorem wdK_no {tb : Nat → Nat} {n q : Nat} (h : ¬ (q < n ∧ smP (tb q) = true)) : wdK tb n q = none := by
  unfold wdK
  rw [if_neg (isW_no h (wT_ok 5 (by omega))), if_neg (isW_no h (wT_ok 6 (by omega))), if_neg (isW_no h (wT_ok 7 (by omega))), if_neg (isW_no h (wT_ok 1 (by omega))), if_neg (isW_no h (wT_ok 8 (by omega))), if_neg (isW_no h (wT_ok 9 (by omega))), if_neg (isW_no h (wT_ok 10 (by omega))), if_neg (isW_no h (wT_ok 11 (by omega)))]
theorem wdK_x {tb : Nat → Nat} {n q t : Nat} (ht : t = 12 ∨ t = 13) (h : isW (wT (t + 1)) tb n q = true) : wdK tb n q = none := by
  have x : ∀ j, j < 18 → j ≠ t → ¬ isW (wT (j + 1)) tb n q = true := fun j hj hne z => hne (isW_x hj (by omega) z h)
  unfold wdK
  rw [if_neg (x 5 (by omega) (by omega)), if_neg (x 6 (by omega) (by omega)), if_neg (x 7 (by omega) (by omega)), if_neg (x 1 (by omega) (by omega)), if_neg (x 8 (by omega) (by omega)), if_neg (x 9 (by omega) (by omega)), if_neg (x 10 (by omega) (by omega)), if_neg (x 11 (by omega) (by omega))]
theorem kc_ne : ∀ k, k < 8 → ¬ -1 - nI k = -16 ∧ ¬ -1 - nI k = -9 ∧ ¬ -1 - nI k = -10 := by decide
theorem tkN_no {tb : Nat → Nat} {n p lo hi : Nat} (h : ¬ (skT tb n p < n ∧ dgP (tb (skT tb n p)) = true)) : tkN tb n p lo hi = .inl (1, skT tb n p) := by unfold tkN; rw [if_neg h]
theorem dg_sm {b : Nat} (h : dgP b = true) : ¬ smP b = true ∧ ¬ b = 40 := by
  simp only [dgP, smP, decide_eq_true_eq] at *
  omega
theorem c_unit {tb : Nat → Nat} {n o : Nat} {rF : Int32 → Mem → Int32 × Mem} {rP : Int32 → Mem → Prop} {rec : Nat → Nat → TRs LwP} (hn : n ≤ 150) (ho : o ≤ 6) (hr : CcG tb n rF rP rec o) : CSp tb n (F_2_readUnit_0 rF (nI o)) (P_2_readUnit_0 rF rP (nI o)) (lOne tb n rec o) := by
  intro A p M h hL hA
  obtain ⟨a1, M1, a2, a3, a4, a5⟩ := c_pk h
  have hpn := h.2.2
  have hb := sk_b (tb := tb) hpn
  have hq : skT tb n (skT tb n p) = skT tb n p := sk_sk hpn
  have etk : tkN tb n p 0 1000 = tkN tb n (skT tb n p) 0 1000 := (tkN_sk hpn).symm
  have L1 := hL.t a5
  rw [P_2_readUnit_0, F_2_readUnit_0, a2]
  unfold lOne
  rw [etk]
  generalize skT tb n p = q at *
  have e1 := cch_dg (tb := tb) (n := n) (i := q) (M := M1) (fun z => (a3.1.2.2 _ z).2.2)
  suffices hs : P_2_readUnit_4 rF rP (nI o) (chT tb n q) M1 ∧ CLo tb n A (if isW (wT 13) tb n q = true then lPair tb n rec o (-9) q else if isW (wT 14) tb n q = true then lPair tb n rec o (-10) q else if q < n ∧ tb q = 40 then lBr tb n rec o q else match wdK tb n q with | some k => .inr ([-1 - nI k], weT tb n q) | none => bnd (tkN tb n q 0 1000) (fun x => .inr ([nI x.1], x.2))) (F_2_readUnit_4 rF (nI o) (chT tb n q) M1) ∧ Kp cLw M1 (F_2_readUnit_4 rF (nI o) (chT tb n q) M1).2 from ⟨⟨a1, hs.1⟩, hs.2.1, a5.tcL.tr hs.2.2⟩
  rw [P_2_readUnit_4, F_2_readUnit_4, e1]
  by_cases k0 : q < n ∧ dgP (tb q) = true
  · have kd := dg_sm k0.2
    have kn : ¬ (q < n ∧ smP (tb q) = true) := fun z => kd.1 z.2
    rw [if_neg (isW_no kn (wT_ok 12 (by omega))), if_neg (isW_no kn (wT_ok 13 (by omega))), if_neg (show ¬ (q < n ∧ tb q = 40) from fun z => kd.2 z.2), wdK_no kn, if_pos k0, if_neg one_ne]
    obtain ⟨c1, c2, c3, c4⟩ := c_needsNumber (xh := 999) (hi := 1000) a3 (fun v hv => nn_c (hi := 999) (by omega) hv)
    have L2 := L1.t c2
    generalize F_5_needsNumber_0 999 M1 = z at *
    obtain ⟨x, M2⟩ := z
    suffices hs : P_2_readUnit_17 rF rP x M2 ∧ CLo tb n A (bnd (tkN tb n q 0 1000) (fun x => .inr ([nI x.1], x.2))) (F_2_readUnit_17 rF x M2) ∧ Kp cLw M2 (F_2_readUnit_17 rF x M2).2 from ⟨⟨fun z => absurd z one_ne, fun _ => ⟨c1, hs.1⟩⟩, hs.2.1, (Kp.tcL c2).tr hs.2.2⟩
    rw [P_2_readUnit_17, F_2_readUnit_17]
    cases o2 : tkN tb n q 0 1000 with
    | inl e =>
      rw [o2] at c3
      have c3' : x = 0 ∧ CErr e M2 := c3
      rw [if_pos c3'.1]
      exact ⟨⟨fun z => absurd c3'.1 z, fun _ => trivial⟩, ⟨rfl, c3'.2⟩, Kp.rf⟩
    | inr y =>
      obtain ⟨v, p'⟩ := y
      rw [o2] at c3
      have c3' : x = 1 ∧ CT tb n p' M2 := c3
      have c5 : rd M2 1560 5 = nI v := (c4 v p' o2).1
      obtain ⟨n1, n2, n3⟩ := c_put (c := nI v) L2 (by omega)
      rw [if_neg (x1 c3'.1), F_2_readUnit_30, c5]
      exact ⟨⟨fun _ => n1, fun z => absurd z (x1 c3'.1)⟩, ⟨rfl, c3'.2.p n3, n2⟩, n3.pcL⟩
  rw [if_neg k0, if_pos rfl]
  obtain ⟨b1, M2, b2, b3, b4, b5⟩ := c_pk a3
  rw [hq] at b2 b3 b4
  have L2 := L1.t b5
  rw [b2]
  have e40 : (chT tb n q = 40) ↔ (q < n ∧ tb q = 40) := ch_eq (c := 40) (fun z => (b3.1.2.2 _ z).2.2) (by omega)
  suffices hs : P_2_readUnit_36 rF rP (nI o) (chT tb n q) M2 ∧ CLo tb n A (if isW (wT 13) tb n q = true then lPair tb n rec o (-9) q else if isW (wT 14) tb n q = true then lPair tb n rec o (-10) q else if q < n ∧ tb q = 40 then lBr tb n rec o q else match wdK tb n q with | some k => .inr ([-1 - nI k], weT tb n q) | none => bnd (tkN tb n q 0 1000) (fun x => .inr ([nI x.1], x.2))) (F_2_readUnit_36 rF (nI o) (chT tb n q) M2) ∧ Kp cLw M2 (F_2_readUnit_36 rF (nI o) (chT tb n q) M2).2 from ⟨⟨fun _ => ⟨b1, hs.1⟩, fun z => absurd rfl z⟩, hs.2.1, b5.tcL.tr hs.2.2⟩
  rw [P_2_readUnit_36, F_2_readUnit_36]
  by_cases k3 : q < n ∧ tb q = 40
  · have kn : ¬ (q < n ∧ smP (tb q) = true) := fun z => by
      have := z.2
      rw [k3.2] at this
      exact absurd this (by decide)
    obtain ⟨z1, z2, z3⟩ := c_lbr hn b3 hq b4 L2 (by omega) ho hr k3
    rw [if_neg (isW_no kn (wT_ok 12 (by omega))), if_neg (isW_no kn (wT_ok 13 (by omega))), if_pos k3, if_pos (e40.mpr k3), P_2_readUnit_47, F_2_readUnit_47]
    exact ⟨⟨fun z => absurd (e40.mpr k3) z, fun _ => ⟨z1, z2.b⟩⟩, z2, z3⟩
  rw [if_neg k3, if_neg (fun z => k3 (e40.mp z))]
  obtain ⟨d1, d2, d3⟩ := c_needsWord b3
  rw [hq] at d3
  have X3 := b3.1.t d2
  have L3 := L2.t d2
  have etn := tkN_no (tb := tb) (n := n) (p := q) (lo := 0) (hi := 1000) (by rw [hq]; exact k0)
  rw [hq] at etn
  generalize F_5_needsWord_0 M2 = z at *
  obtain ⟨x, M3⟩ := z
  suffices hs : P_2_readUnit_52 rF rP (nI o) x M3 ∧ CLo tb n A (if isW (wT 13) tb n q = true then lPair tb n rec o (-9) q else if isW (wT 14) tb n q = true then lPair tb n rec o (-10) q else match wdK tb n q with | some k => .inr ([-1 - nI k], weT tb n q) | none => bnd (tkN tb n q 0 1000) (fun x => .inr ([nI x.1], x.2))) (F_2_readUnit_52 rF (nI o) x M3) ∧ Kp cLw M3 (F_2_readUnit_52 rF (nI o) x M3).2 from ⟨⟨fun _ => ⟨d1, hs.1⟩, fun z => absurd (e40.mp z) k3⟩, hs.2.1, (Kp.tcL d2).tr hs.2.2⟩
  rw [P_2_readUnit_52, F_2_readUnit_52]
  rcases d3 with ⟨l1, l2, l3, l4, l5, l6⟩ | ⟨l1, l3, l4⟩
  · have l3' : x = 1 := l3
    have T3 : CT tb n (weT tb n q) M3 := l4
    have l5' : rd M3 1560 4 = nI q := l5
    obtain ⟨w1, w2⟩ := c_code X3 hb.2 l5 l6
    have w1' : P_2_codeOfWord_0 M3 := w1
    have w2' : F_2_codeOfWord_0 M3 = cwJ tb n q := w2
    have wq : q + 1 ≤ weT tb n q := by
      have e : weT tb n q = weT tb n (q + 1) := nxE_s l1 l2
      have := (we_b (tb := tb) (n := n) (q := q + 1) (by omega)).1
      omega
    rw [if_neg (x1 l3'), w2']
    unfold cwJ
    by_cases k1 : isW (wT 13) tb n q = true
    · obtain ⟨z1, z2, z3⟩ := c_lpair (c := -9) hn T3 l5' L3 (by omega) ho hr wq
      rw [wdK_x (t := 12) (Or.inl rfl) k1]
      simp only [k1, if_true, if_false, true_imp_iff, false_imp_iff, not_true_eq_false, not_false_eq_true, true_and, and_true, implies_true, reduceIte]
      rw [if_neg (by decide), P_2_readUnit_90, F_2_readUnit_90, P_2_readUnit_97, F_2_readUnit_97]
      exact ⟨fun _ => ⟨w1', fun _ => ⟨z1, z2.b⟩, fun z => absurd z (by decide)⟩, z2, z3⟩
    by_cases k2 : isW (wT 14) tb n q = true
    · obtain ⟨z1, z2, z3⟩ := c_lpair (c := -10) hn T3 l5' L3 (by omega) ho hr wq
      rw [wdK_x (t := 13) (Or.inr rfl) k2]
      simp only [Bool.false_eq_true, k1, k2, if_true, if_false, true_imp_iff, false_imp_iff, not_true_eq_false, not_false_eq_true, true_and, and_true, implies_true, reduceIte]
      rw [if_neg (by decide), if_neg (by decide), P_2_readUnit_90, F_2_readUnit_90, P_2_readUnit_97, F_2_readUnit_97]
      exact ⟨fun _ => ⟨w1', fun _ => ⟨fun z => absurd z (by decide), fun _ => ⟨z1, z2.b⟩⟩, fun z => absurd z (by decide)⟩, z2, z3⟩
    rw [if_neg k1, if_neg k2]
    cases ok : wdK tb n q with
    | some k =>
      obtain ⟨h1, t, h2, h3⟩ := wdK_b ok
      obtain ⟨m1, m2, m3⟩ := kc_ne k h1
      obtain ⟨n1, n2, n3⟩ := c_put (c := -1 - nI k) L3 (by have := T3.2.2; omega)
      try dsimp only
      rw [if_neg m1, if_neg m2, if_neg m3, F_2_readUnit_103, if_neg k1, if_neg k2]
      exact ⟨⟨fun _ => ⟨w1', fun _ => ⟨fun z => absurd z m2, fun _ => ⟨fun _ => n1, fun z => absurd z m3⟩⟩, fun z => absurd z m1⟩, fun z => absurd z (x1 l3')⟩, ⟨rfl, T3.p n3, n2⟩, n3.pcL⟩
    | none =>
      obtain ⟨M4, y1, y2, y3⟩ := c_fail (M := M3) (k := 1) (q := q)
      have y1' : F_5_fail_0 1 (nI q) M3 = (0, M4) := y1
      try dsimp only
      rw [if_neg k1, if_neg k2, if_pos rfl, l5', y1', P_2_readUnit_77, F_2_readUnit_77, etn]
      exact ⟨⟨fun _ => ⟨w1', fun z => absurd rfl z, fun _ => nar_b (Or.inl rfl)⟩, fun z => absurd z (x1 l3')⟩, ⟨rfl, y2⟩, y3.tcL⟩
  · have l3' : x = 0 := l3
    rw [if_pos l3', if_neg (isW_no l1 (wT_ok 12 (by omega))), if_neg (isW_no l1 (wT_ok 13 (by omega))), wdK_no l1, etn]
    exact ⟨⟨fun z => absurd l3' z, fun _ => trivial⟩, ⟨rfl, l4⟩, Kp.rf⟩
