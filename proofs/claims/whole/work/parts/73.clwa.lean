/-! MATHEMATICS 43: a law's text in the class -/
def CLw (A : List Int32) (M : Mem) : Prop := rd M 1583 4 = nI A.length ∧ ∀ i, i < A.length → rd M 1585 i = A.getD i 0
def cLw (c j : Nat) : Prop := (c = 1560 ∧ 2 ≤ j ∧ j ≤ 7) ∨ (c = 1583 ∧ j = 4) ∨ c = 1585
def cP (c j : Nat) : Prop := (c = 1583 ∧ j = 4) ∨ c = 1585
theorem CLw.t {A : List Int32} {M M' : Mem} (h : CLw A M) (hk : Kp cT M M') : CLw A M' := ⟨by rw [hk.g (by unfold cT; omega)]; exact h.1, fun i hi => by rw [hk.g (by unfold cT; omega)]; exact h.2 i hi⟩
theorem Kp.tcL {M M' : Mem} (h : Kp cT M M') : Kp cLw M M' := h.mono (fun c j z => by unfold cT at z; unfold cLw; omega)
theorem Kp.pcL {M M' : Mem} (h : Kp cP M M') : Kp cLw M M' := h.mono (fun c j z => by unfold cP at z; unfold cLw; omega)
theorem CT.p {tb : Nat → Nat} {n p : Nat} {M M' : Mem} (h : CT tb n p M) (hk : Kp cP M M') : CT tb n p M' := ⟨h.1.k hk (fun c j z => by unfold cP at z; omega), by rw [hk.g (by unfold cP; omega)]; exact h.2.1, h.2.2⟩
theorem c_put {A : List Int32} {M : Mem} {c : Int32} (h : CLw A M) (hA : A.length < 150) : P_2_put_0 c M ∧ CLw (A ++ [c]) (F_2_put_0 c M) ∧ Kp cP M (F_2_put_0 c M) := by
  have e1 : ¬ (150 : Int32) ≤ nI A.length := by
    show ¬ nI 150 ≤ nI A.length
    rw [nI_leI (by omega) (by omega)]
    omega
  have v1 : vp_in (nI A.length) 150 := (vp_iff (by omega)).mpr hA
  rw [P_2_put_0, F_2_put_0, h.1, if_neg e1, nI_clamp (n := A.length) (by omega), rd_c (by decide), h.1]
  refine ⟨⟨fun z => absurd z e1, fun _ => v1⟩, ⟨?_, fun i hi => ?_⟩, (Kp.rf.w (Or.inr rfl)).w (Or.inl ⟨rfl, rfl⟩)⟩
  · rw [rd_s, nI_1, List.length_append]; rfl
  · rw [List.length_append] at hi
    have hi' : i < A.length + 1 := hi
    rw [rd_c (by decide)]
    by_cases ce : i = A.length
    · subst ce
      rw [rd_s]
      simp [List.getD]
    · rw [rd_i ce]
      have : (A ++ [c]).getD i 0 = A.getD i 0 := by
        simp only [List.getD_eq_getElem?_getD]
        rw [List.getElem?_append_left (by omega)]
      rw [this]
      exact h.2 i (by omega)
def CLo (tb : Nat → Nat) (n : Nat) (A : List Int32) (r : TRs LwP) (z : Int32 × Mem) : Prop := match r with
  | .inl e => z.1 = 0 ∧ CErr e z.2
  | .inr x => z.1 = 1 ∧ CT tb n x.2 z.2 ∧ CLw (A ++ x.1) z.2
theorem CLo.b {tb : Nat → Nat} {n : Nat} {A : List Int32} {o : TRs LwP} {z : Int32 × Mem} (h : CLo tb n A o z) : narrow .boolean (.int z.1) = .int z.1 := by
  cases o with
  | inl e => exact nar_b (Or.inl h.1)
  | inr x => exact nar_b (Or.inr h.1)
def CSp (tb : Nat → Nat) (n : Nat) (F : Mem → Int32 × Mem) (P : Mem → Prop) (a : Nat → TRs LwP) : Prop := ∀ (A : List Int32) (p : Nat) (M : Mem), CT tb n p M → CLw A M → A.length ≤ p → P M ∧ CLo tb n A (a p) (F M) ∧ Kp cLw M (F M).2
def CcG (tb : Nat → Nat) (n : Nat) (rF : Int32 → Mem → Int32 × Mem) (rP : Int32 → Mem → Prop) (rec : Nat → Nat → TRs LwP) (o : Nat) : Prop := o < 6 → CSp tb n (rF (nI (o + 1))) (rP (nI (o + 1))) (rec (o + 1)) ∧ ∀ p, p ≤ n → ∃ B, GD B p n (rec (o + 1) p)
theorem x1 {x : Int32} (h : x = 1) : ¬ x = 0 := by rw [h]; exact one_ne
theorem c_lpair {tb : Nat → Nat} {n q o : Nat} {A : List Int32} {M : Mem} {rF : Int32 → Mem → Int32 × Mem} {rP : Int32 → Mem → Prop} {rec : Nat → Nat → TRs LwP} {c : Int32} (hn : n ≤ 150) (h : CT tb n (weT tb n q) M) (h4 : rd M 1560 4 = nI q) (hL : CLw A M) (hA : A.length ≤ q) (ho : o ≤ 6) (hr : CcG tb n rF rP rec o) (hw : q + 1 ≤ weT tb n q) : P_2_readPair_0 rF rP (nI o) c M ∧ CLo tb n A (lPair tb n rec o c q) (F_2_readPair_0 rF (nI o) c M) ∧ Kp cLw M (F_2_readPair_0 rF (nI o) c M).2 := by
  have e6 : (nI o < 6) ↔ ¬ o = 6 := by
    show (nI o < nI 6) ↔ _
    rw [nI_ltI (by omega) (by omega)]
    omega
  rw [P_2_readPair_0, F_2_readPair_0]
  unfold lPair
  simp only [e6]
  by_cases c6 : o = 6
  · obtain ⟨M2, w1, w2, w3⟩ := c_fail (M := M) (k := 3) (q := q)
    have w1' : F_5_fail_0 3 (nI q) M = (0, M2) := w1
    rw [if_neg (show ¬ ¬ o = 6 from fun z => z c6), if_pos c6, h4, w1', P_2_readPair_15, F_2_readPair_15]
    exact ⟨⟨fun z => absurd c6 z, fun _ => nar_b (Or.inl rfl)⟩, ⟨rfl, w2⟩, w3.tcL⟩
  rw [if_pos c6, if_neg c6]
  obtain ⟨hR, hG⟩ := hr (by omega)
  obtain ⟨a1, a2, a3⟩ := c_needs (c := 91) h (by omega)
  have a1' : P_5_needs_0 91 M := a1
  have eF : F_5_needs_0 (nI 91) M = F_5_needs_0 91 M := rfl
  rw [eF] at a2 a3
  have L1 := hL.t a3
  generalize F_5_needs_0 91 M = z at *
  obtain ⟨x, M1⟩ := z
  suffices hs : P_2_readPair_22 rF rP (nI o) c x M1 ∧ CLo tb n A (bnd (tkS 91 tb n (weT tb n q)) (fun p1 => bnd (rec (o + 1) p1) (fun a => bnd (tkS 44 tb n a.2) (fun p3 => bnd (rec (o + 1) p3) (fun b => bnd (tkS 93 tb n b.2) (fun p5 => .inr (a.1 ++ b.1 ++ [c], p5))))))) (F_2_readPair_22 rF (nI o) c x M1) ∧ Kp cLw M1 (F_2_readPair_22 rF (nI o) c x M1).2 from ⟨⟨fun _ => ⟨a1', hs.1⟩, fun z => absurd c6 z⟩, hs.2.1, (Kp.tcL a3).tr hs.2.2⟩
  rw [P_2_readPair_22, F_2_readPair_22, nI_1]
  cases o1 : tkS 91 tb n (weT tb n q) with
  | inl e =>
    rw [o1] at a2
    have a2' : x = 0 ∧ CErr e M1 := a2
    rw [if_pos a2'.1]
    exact ⟨⟨fun _ => trivial, fun z => absurd a2'.1 z⟩, ⟨rfl, a2'.2⟩, Kp.rf⟩
  | inr p1 =>
    rw [o1] at a2
    have a2' : x = 1 ∧ CT tb n p1 M1 := a2
    have q1 := tkS_b h.2.2 o1
    rw [if_neg (x1 a2'.1)]
    obtain ⟨d1, d3, d4⟩ := hR A p1 M1 a2'.2 L1 (by omega)
    obtain ⟨B1, g1⟩ := hG p1 q1.2
    generalize rF (nI (o + 1)) M1 = z at *
    obtain ⟨y, M2⟩ := z
    suffices hs : P_2_readPair_33 rF rP (nI o) c y M2 ∧ CLo tb n A (bnd (rec (o + 1) p1) (fun a => bnd (tkS 44 tb n a.2) (fun p3 => bnd (rec (o + 1) p3) (fun b => bnd (tkS 93 tb n b.2) (fun p5 => .inr (a.1 ++ b.1 ++ [c], p5)))))) (F_2_readPair_33 rF (nI o) c y M2) ∧ Kp cLw M2 (F_2_readPair_33 rF (nI o) c y M2).2 from ⟨⟨fun z => absurd z (x1 a2'.1), fun _ => ⟨d1, hs.1⟩⟩, hs.2.1, Kp.tr d4 hs.2.2⟩
    rw [P_2_readPair_33, F_2_readPair_33]
    cases o2 : rec (o + 1) p1 with
    | inl e =>
      rw [o2] at d3
      have d3' : y = 0 ∧ CErr e M2 := d3
      rw [if_pos d3'.1]
      exact ⟨⟨fun z => absurd d3'.1 z, fun _ => trivial⟩, ⟨rfl, d3'.2⟩, Kp.rf⟩
    | inr a =>
      obtain ⟨a, p2⟩ := a
      rw [o2] at d3 g1
      obtain ⟨y1, T4, L4⟩ : y = 1 ∧ CT tb n p2 M2 ∧ CLw (A ++ a) M2 := d3
      obtain ⟨g11, g12, g13, _⟩ : 1 ≤ a.length ∧ a.length + p1 ≤ p2 ∧ p2 ≤ n ∧ OKC a B1 := g1
      have lA : (A ++ a).length = A.length + a.length := List.length_append
      rw [if_neg (x1 y1)]
      obtain ⟨f1, f2, f3⟩ := c_needs (c := 44) T4 (by omega)
      have f1' : P_5_needs_0 44 M2 := f1
      have eF : F_5_needs_0 (nI 44) M2 = F_5_needs_0 44 M2 := rfl
      rw [eF] at f2 f3
      have L5 := L4.t f3
      generalize F_5_needs_0 44 M2 = z at *
      obtain ⟨w, M3⟩ := z
      suffices hs : P_2_readPair_44 rF rP (nI o) c w M3 ∧ CLo tb n A (bnd (tkS 44 tb n p2) (fun p3 => bnd (rec (o + 1) p3) (fun b => bnd (tkS 93 tb n b.2) (fun p5 => .inr (a ++ b.1 ++ [c], p5))))) (F_2_readPair_44 rF (nI o) c w M3) ∧ Kp cLw M3 (F_2_readPair_44 rF (nI o) c w M3).2 from ⟨⟨fun _ => ⟨f1', hs.1⟩, fun z => absurd z (x1 y1)⟩, hs.2.1, (Kp.tcL f3).tr hs.2.2⟩
      rw [P_2_readPair_44, F_2_readPair_44, nI_1]
      cases o3 : tkS 44 tb n p2 with
      | inl e =>
        rw [o3] at f2
        have f2' : w = 0 ∧ CErr e M3 := f2
        rw [if_pos f2'.1]
        exact ⟨⟨fun _ => trivial, fun z => absurd f2'.1 z⟩, ⟨rfl, f2'.2⟩, Kp.rf⟩
      | inr p3 =>
        rw [o3] at f2
        have f2' : w = 1 ∧ CT tb n p3 M3 := f2
        have q3 := tkS_b g13 o3
        rw [if_neg (x1 f2'.1)]
        obtain ⟨i1, i3, i4⟩ := hR (A ++ a) p3 M3 f2'.2 L5 (by omega)
        obtain ⟨B2, g2⟩ := hG p3 q3.2
        generalize rF (nI (o + 1)) M3 = z at *
        obtain ⟨v, M4⟩ := z
        suffices hs : P_2_readPair_55 rF rP c v M4 ∧ CLo tb n A (bnd (rec (o + 1) p3) (fun b => bnd (tkS 93 tb n b.2) (fun p5 => .inr (a ++ b.1 ++ [c], p5)))) (F_2_readPair_55 rF c v M4) ∧ Kp cLw M4 (F_2_readPair_55 rF c v M4).2 from ⟨⟨fun z => absurd z (x1 f2'.1), fun _ => ⟨i1, hs.1⟩⟩, hs.2.1, Kp.tr i4 hs.2.2⟩
        rw [P_2_readPair_55, F_2_readPair_55]
        cases o4 : rec (o + 1) p3 with
        | inl e =>
          rw [o4] at i3
          have i3' : v = 0 ∧ CErr e M4 := i3
          rw [if_pos i3'.1]
          exact ⟨⟨fun _ => trivial, fun z => absurd i3'.1 z⟩, ⟨rfl, i3'.2⟩, Kp.rf⟩
        | inr b =>
          obtain ⟨b, p4⟩ := b
          rw [o4] at i3 g2
          obtain ⟨v1, T6, L6⟩ : v = 1 ∧ CT tb n p4 M4 ∧ CLw (A ++ a ++ b) M4 := i3
          obtain ⟨g21, g22, g23, _⟩ : 1 ≤ b.length ∧ b.length + p3 ≤ p4 ∧ p4 ≤ n ∧ OKC b B2 := g2
          have lB : (A ++ a ++ b).length = A.length + a.length + b.length := by rw [List.length_append, lA]
          rw [if_neg (x1 v1)]
          obtain ⟨j1, j2, j3⟩ := c_needs (c := 93) T6 (by omega)
          have j1' : P_5_needs_0 93 M4 := j1
          have eF : F_5_needs_0 (nI 93) M4 = F_5_needs_0 93 M4 := rfl
          rw [eF] at j2 j3
          have L7 := L6.t j3
          generalize F_5_needs_0 93 M4 = z at *
          obtain ⟨u, M5⟩ := z
          suffices hs : P_2_readPair_64 rF rP c u M5 ∧ CLo tb n A (bnd (tkS 93 tb n p4) (fun p5 => .inr (a ++ b ++ [c], p5))) (F_2_readPair_64 rF c u M5) ∧ Kp cLw M5 (F_2_readPair_64 rF c u M5).2 from ⟨⟨fun z => absurd z (x1 v1), fun _ => ⟨j1', hs.1⟩⟩, hs.2.1, (Kp.tcL j3).tr hs.2.2⟩
          rw [P_2_readPair_64, F_2_readPair_64]
          cases o5 : tkS 93 tb n p4 with
          | inl e =>
            rw [o5] at j2
            have j2' : u = 0 ∧ CErr e M5 := j2
            rw [if_pos j2'.1]
            exact ⟨⟨fun z => absurd j2'.1 z, fun _ => trivial⟩, ⟨rfl, j2'.2⟩, Kp.rf⟩
          | inr p5 =>
            rw [o5] at j2
            have j2' : u = 1 ∧ CT tb n p5 M5 := j2
            have q5 := tkS_b g23 o5
            obtain ⟨n1, n2, n3⟩ := c_put (c := c) L7 (by omega)
            rw [if_neg (x1 j2'.1), F_2_readPair_74]
            refine ⟨⟨fun _ => n1, fun z => absurd z (x1 j2'.1)⟩, ⟨rfl, j2'.2.p n3, ?_⟩, n3.pcL⟩
            show CLw (A ++ (a ++ b ++ [c])) _
            have : A ++ (a ++ b ++ [c]) = A ++ a ++ b ++ [c] := by simp only [List.append_assoc]
            rw [this]
            exact n2
theorem c_lbr {tb : Nat → Nat} {n q o : Nat} {A : List Int32} {M : Mem} {rF : Int32 → Mem → Int32 × Mem} {rP : Int32 → Mem → Prop} {rec : Nat → Nat → TRs LwP} (hn : n ≤ 150) (h : CT tb n q M) (hq : skT tb n q = q) (h4 : rd M 1560 4 = nI q) (hL : CLw A M) (hA : A.length ≤ q) (ho : o ≤ 6) (hr : CcG tb n rF rP rec o) (hb : q < n ∧ tb q = 40) : P_2_readBracket_0 rF rP (nI o) M ∧ CLo tb n A (lBr tb n rec o q) (F_2_readBracket_0 rF (nI o) M) ∧ Kp cLw M (F_2_readBracket_0 rF (nI o) M).2 := by
  have e6 : (nI o < 6) ↔ ¬ o = 6 := by
    show (nI o < nI 6) ↔ _
    rw [nI_ltI (by omega) (by omega)]
    omega
  rw [P_2_readBracket_0, F_2_readBracket_0]
  unfold lBr
  simp only [e6]
  by_cases c6 : o = 6
  · obtain ⟨M2, w1, w2, w3⟩ := c_fail (M := M) (k := 3) (q := q)
    have w1' : F_5_fail_0 3 (nI q) M = (0, M2) := w1
    rw [if_neg (show ¬ ¬ o = 6 from fun z => z c6), if_pos c6, h4, w1', P_2_readBracket_15, F_2_readBracket_15]
    exact ⟨⟨fun z => absurd c6 z, fun _ => nar_b (Or.inl rfl)⟩, ⟨rfl, w2⟩, w3.tcL⟩
  rw [if_pos c6, if_neg c6]
  obtain ⟨hR, hG⟩ := hr (by omega)
  obtain ⟨a1, a2, a3⟩ := c_needs (c := 40) h (by omega)
  have a1' : P_5_needs_0 40 M := a1
  have eF : F_5_needs_0 (nI 40) M = F_5_needs_0 40 M := rfl
  have ek : tkS 40 tb n q = .inr (q + 1) := by unfold tkS; rw [hq, if_pos hb]
  rw [eF, ek] at a2
  rw [eF] at a3
  have L1 := hL.t a3
  generalize F_5_needs_0 40 M = z at *
  obtain ⟨x, M1⟩ := z
  have a2' : x = 1 ∧ CT tb n (q + 1) M1 := a2
  suffices hs : P_2_readBracket_22 rF rP (nI o) x M1 ∧ CLo tb n A (bnd (rec (o + 1) (q + 1)) (fun a => bnd (tkS 41 tb n a.2) (fun p2 => .inr (a.1, p2)))) (F_2_readBracket_22 rF (nI o) x M1) ∧ Kp cLw M1 (F_2_readBracket_22 rF (nI o) x M1).2 from ⟨⟨fun _ => ⟨a1', hs.1⟩, fun z => absurd c6 z⟩, hs.2.1, (Kp.tcL a3).tr hs.2.2⟩
  rw [P_2_readBracket_22, F_2_readBracket_22, nI_1, if_neg (x1 a2'.1)]
  obtain ⟨d1, d3, d4⟩ := hR A (q + 1) M1 a2'.2 L1 (by omega)
  obtain ⟨B1, g1⟩ := hG (q + 1) (by omega)
  generalize rF (nI (o + 1)) M1 = z at *
  obtain ⟨y, M2⟩ := z
  suffices hs : P_2_readBracket_33 rF rP y M2 ∧ CLo tb n A (bnd (rec (o + 1) (q + 1)) (fun a => bnd (tkS 41 tb n a.2) (fun p2 => .inr (a.1, p2)))) (F_2_readBracket_33 rF y M2) ∧ Kp cLw M2 (F_2_readBracket_33 rF y M2).2 from ⟨⟨fun z => absurd z (x1 a2'.1), fun _ => ⟨d1, hs.1⟩⟩, hs.2.1, Kp.tr d4 hs.2.2⟩
  rw [P_2_readBracket_33, F_2_readBracket_33]
  cases o2 : rec (o + 1) (q + 1) with
  | inl e =>
    rw [o2] at d3
    have d3' : y = 0 ∧ CErr e M2 := d3
    rw [if_pos d3'.1, F_2_readBracket_49]
    exact ⟨⟨fun _ => trivial, fun z => absurd d3'.1 z⟩, ⟨rfl, d3'.2⟩, Kp.rf⟩
  | inr a =>
    obtain ⟨a, p2⟩ := a
    rw [o2] at d3 g1
    obtain ⟨y1, T4, L4⟩ : y = 1 ∧ CT tb n p2 M2 ∧ CLw (A ++ a) M2 := d3
    obtain ⟨g11, g12, g13, _⟩ : 1 ≤ a.length ∧ a.length + (q + 1) ≤ p2 ∧ p2 ≤ n ∧ OKC a B1 := g1
    rw [if_neg (x1 y1)]
    obtain ⟨f1, f2, f3⟩ := c_needs (c := 41) T4 (by omega)
    have f1' : P_5_needs_0 41 M2 := f1
    have eF : F_5_needs_0 (nI 41) M2 = F_5_needs_0 41 M2 := rfl
    rw [eF] at f2 f3
    have L5 := L4.t f3
    generalize F_5_needs_0 41 M2 = z at *
    obtain ⟨w, M3⟩ := z
    show _ ∧ CLo tb n A (bnd (tkS 41 tb n p2) (fun p3 => .inr (a, p3))) (F_2_readBracket_42 rF w M3) ∧ Kp cLw M2 (F_2_readBracket_42 rF w M3).2
    rw [F_2_readBracket_42]
    cases o3 : tkS 41 tb n p2 with
    | inl e =>
      rw [o3] at f2
      have f2' : w = 0 ∧ CErr e M3 := f2
      rw [if_pos f2'.1, F_2_readBracket_49]
      exact ⟨⟨fun z => absurd z (x1 y1), fun _ => f1'⟩, ⟨rfl, f2'.2⟩, Kp.tcL f3⟩
    | inr p3 =>
      rw [o3] at f2
      have f2' : w = 1 ∧ CT tb n p3 M3 := f2
      rw [if_neg (x1 f2'.1)]
      exact ⟨⟨fun z => absurd z (x1 y1), fun _ => f1'⟩, ⟨rfl, f2'.2, L5⟩, Kp.tcL f3⟩
