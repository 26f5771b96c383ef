/-! MATHEMATICS 40: a law's parts in the reference -/
theorem one_ne : ¬ (1 : Int32) = 0 := by decide
theorem RE.w8 {e : Nat × Nat} {tb : Nat → Nat} {n : Nat} {M : Mem} {v : Int32} (h : RE e M ∧ TxE tb n M) : RE e (wr M 0 8 v) ∧ TxE tb n (wr M 0 8 v) := by
  have hK : Kp (fun c j => c = 0 ∧ j = 8) M (wr M 0 8 v) := Kp.rf.w ⟨rfl, rfl⟩
  obtain ⟨h1, h2, p, h3, h4⟩ := h
  exact ⟨h1.k hK (fun c j z => by omega), h2.k hK (fun c j z => by omega), p, h3, by rw [hK.g (by omega)]; exact h4⟩
theorem oN100 {rF : Mem → Mem} {rP : Mem → Prop} {x : Int32} {M : Mem} (h : ¬ rd M 0 5 = 0) : P_12_one_100 rF rP x M ∧ F_12_one_100 rF x M = wr M 0 8 (rd M 0 8 - 1) := by
  obtain ⟨n1, n2⟩ := r_notesN (x := x) (y := 0) h
  rw [P_12_one_100, F_12_one_100, F_12_one_106, n2]
  exact ⟨n1, rfl⟩
theorem oN94 {rF : Mem → Mem} {rP : Mem → Prop} {x : Int32} {M : Mem} (h : ¬ rd M 0 5 = 0) : P_12_one_94 rF rP x M ∧ F_12_one_94 rF x M = wr M 0 8 (rd M 0 8 - 1) := by
  obtain ⟨n1, n2⟩ := r_signN (x := 93) h
  obtain ⟨m1, m2⟩ := oN100 (rF := rF) (rP := rP) (x := x) h
  rw [P_12_one_94, F_12_one_94, n2]
  exact ⟨⟨n1, m1⟩, m2⟩
theorem oN90 {rF : Mem → Mem} {rP : Mem → Prop} {x : Int32} {M : Mem} (hN : ∀ M, ¬ rd M 0 5 = 0 → rP M ∧ rF M = M) (h : ¬ rd M 0 5 = 0) : P_12_one_90 rF rP x M ∧ F_12_one_90 rF x M = wr M 0 8 (rd M 0 8 - 1) := by
  obtain ⟨n1, n2⟩ := hN M h
  obtain ⟨m1, m2⟩ := oN94 (rF := rF) (rP := rP) (x := x) h
  rw [P_12_one_90, F_12_one_90, n2]
  exact ⟨⟨n1, m1⟩, m2⟩
theorem oN84 {rF : Mem → Mem} {rP : Mem → Prop} {x : Int32} {M : Mem} (hN : ∀ M, ¬ rd M 0 5 = 0 → rP M ∧ rF M = M) (h : ¬ rd M 0 5 = 0) : P_12_one_84 rF rP x M ∧ F_12_one_84 rF x M = wr M 0 8 (rd M 0 8 - 1) := by
  obtain ⟨n1, n2⟩ := r_signN (x := 44) h
  obtain ⟨m1, m2⟩ := oN90 (rF := rF) (rP := rP) (x := x) hN h
  rw [P_12_one_84, F_12_one_84, n2]
  exact ⟨⟨n1, m1⟩, m2⟩
theorem oN80 {rF : Mem → Mem} {rP : Mem → Prop} {x : Int32} {M : Mem} (hN : ∀ M, ¬ rd M 0 5 = 0 → rP M ∧ rF M = M) (h : ¬ rd M 0 5 = 0) : P_12_one_80 rF rP x M ∧ F_12_one_80 rF x M = wr M 0 8 (rd M 0 8 - 1) := by
  obtain ⟨n1, n2⟩ := hN M h
  obtain ⟨m1, m2⟩ := oN84 (rF := rF) (rP := rP) (x := x) hN h
  rw [P_12_one_80, F_12_one_80, n2]
  exact ⟨⟨n1, m1⟩, m2⟩
theorem k8 {M M' : Mem} {v : Int32} (h : Kp rL M M') : Kp rL M (wr M' 0 8 v) := h.w (Or.inl ⟨rfl, by omega⟩)
def RcG (tb : Nat → Nat) (n : Nat) (rF : Mem → Mem) (rP : Mem → Prop) (rec : Nat → Nat → TRs LwP) (o : Nat) : Prop := o < 6 → RSp tb n rF rP (o + 1) (rec (o + 1)) ∧ ∀ p, p ≤ n → ∃ B, GD B p n (rec (o + 1) p)
theorem r_pair {tb : Nat → Nat} {n q o : Nat} {A : List Int32} {M : Mem} {rF : Mem → Mem} {rP : Mem → Prop} {rec : Nat → Nat → TRs LwP} {x c : Int32} (hn : n ≤ 150) (h : RT tb n q M) (hL : RLw A M) (h8 : rd M 0 8 = nI o) (hA : A.length ≤ q) (ho : o ≤ 6) (hr : RcG tb n rF rP rec o) (hc : prC c = (x, 0)) (hw : q + 1 ≤ weT tb n q) : P_12_one_66 rF rP x (F_12_opensOne_0 M).1 (F_12_opensOne_0 M).2 ∧ ∃ M', F_12_one_66 rF x (F_12_opensOne_0 M).1 (F_12_opensOne_0 M).2 = M' ∧ RLo tb n A o (lPair tb n rec o c q) M' ∧ Kp rL M M' := by
  obtain ⟨M1, a1, a2, a3, a4⟩ := r_opensOne h h8 ho
  have hqn := h.2.2.1
  rw [a1, P_12_one_66, F_12_one_66]
  unfold lPair
  by_cases c6 : o = 6
  · rw [if_pos c6, if_pos rfl, if_pos c6]
    exact ⟨⟨fun z => absurd rfl z, fun _ => trivial⟩, M1, rfl, a2 c6, a4⟩
  rw [if_neg c6, if_neg one_ne, if_neg c6]
  have e1 := a3 c6
  obtain ⟨⟨hN, hR⟩, hG⟩ := hr (by omega)
  have K1 : Kp (fun c j => c = 0 ∧ j = 8) M M1 := by rw [e1]; exact Kp.rf.w ⟨rfl, rfl⟩
  have T1 : RT tb n q M1 := h.k K1 (fun c j z => by omega)
  have L1 : RLw A M1 := hL.k (by omega) K1 (fun c j z => by unfold rN; omega)
  have s1 : rd M1 0 8 = nI (o + 1) := by rw [e1, rd_s]
  obtain ⟨b1, M2, b2, b3, b4⟩ := r_sw T1
  have L2 := L1.t4 (by omega) b4
  have s2 : rd M2 0 8 = nI (o + 1) := by rw [b4.g (by unfold r4; omega)]; exact s1
  have K2 : Kp rL M M2 := a4.tr b4.t4L
  rw [b2]
  suffices hs : P_12_one_74 rF rP x M2 ∧ ∃ M', F_12_one_74 rF x M2 = M' ∧ RLo tb n A o (bnd (tkS 91 tb n (weT tb n q)) (fun p1 => bnd (rec (o + 1) p1) (fun a => bnd (tkS 44 tb n a.2) (fun p3 => bnd (rec (o + 1) p3) (fun b => bnd (tkS 93 tb n b.2) (fun p5 => .inr (a.1 ++ b.1 ++ [c], p5))))))) M' ∧ Kp rL M M' from ⟨⟨fun _ => ⟨b1, hs.1⟩, fun z => absurd z one_ne⟩, hs.2⟩
  obtain ⟨c1, M3, c2, c3, c4⟩ := r_sign (c := 91) b3 (by omega)
  have c1' : P_12_sign_0 91 M2 := c1
  have c2' : F_12_sign_0 91 M2 = M3 := c2
  have K3 : Kp rL M M3 := K2.tr c4.tL
  rw [P_12_one_74, F_12_one_74, c2']
  cases o1 : tkS 91 tb n (weT tb n q) with
  | inl e =>
    rw [o1] at c3
    have c3' : RE e M3 ∧ TxE tb n M3 := c3
    obtain ⟨z1, z2⟩ := oN80 (x := x) hN c3'.1.ne
    exact ⟨⟨c1', z1⟩, _, z2, RE.w8 c3', k8 K3⟩
  | inr p1 =>
    rw [o1] at c3
    have c3' : RT tb n p1 M3 := c3
    have q1 := tkS_b b3.2.2.1 o1
    have L3 := L2.t (by omega) c4
    have s3 : rd M3 0 8 = nI (o + 1) := by rw [c4.g (by unfold rT; omega)]; exact s2
    obtain ⟨d1, M4, d2, d3, d4⟩ := hR A p1 M3 c3' L3 s3 (by omega)
    have K4 : Kp rL M M4 := K3.tr d4
    obtain ⟨B1, g1⟩ := hG p1 q1.2
    rw [P_12_one_80, F_12_one_80, d2]
    show _ ∧ ∃ M', _ ∧ RLo tb n A o (bnd (rec (o + 1) p1) (fun a => bnd (tkS 44 tb n a.2) (fun p3 => bnd (rec (o + 1) p3) (fun b => bnd (tkS 93 tb n b.2) (fun p5 => .inr (a.1 ++ b.1 ++ [c], p5)))))) M' ∧ _
    cases o2 : rec (o + 1) p1 with
    | inl e =>
      rw [o2] at d3
      have d3' : RE e M4 ∧ TxE tb n M4 := d3
      obtain ⟨z1, z2⟩ := oN84 (x := x) hN d3'.1.ne
      exact ⟨⟨c1', d1, z1⟩, _, z2, RE.w8 d3', k8 K4⟩
    | inr a =>
      obtain ⟨a, p2⟩ := a
      rw [o2] at d3 g1
      obtain ⟨T4, L4, s4⟩ : RT tb n p2 M4 ∧ RLw (A ++ a) M4 ∧ rd M4 0 8 = nI (o + 1) := d3
      obtain ⟨g11, g12, g13, _⟩ : 1 ≤ a.length ∧ a.length + p1 ≤ p2 ∧ p2 ≤ n ∧ OKC a B1 := g1
      have lA : (A ++ a).length = A.length + a.length := List.length_append
      obtain ⟨f1, M5, f2, f3, f4⟩ := r_sign (c := 44) T4 (by omega)
      have f1' : P_12_sign_0 44 M4 := f1
      have f2' : F_12_sign_0 44 M4 = M5 := f2
      have K5 : Kp rL M M5 := K4.tr f4.tL
      rw [P_12_one_84, F_12_one_84, f2']
      show _ ∧ ∃ M', _ ∧ RLo tb n A o (bnd (tkS 44 tb n p2) (fun p3 => bnd (rec (o + 1) p3) (fun b => bnd (tkS 93 tb n b.2) (fun p5 => .inr (a ++ b.1 ++ [c], p5))))) M' ∧ _
      cases o3 : tkS 44 tb n p2 with
      | inl e =>
        rw [o3] at f3
        have f3' : RE e M5 ∧ TxE tb n M5 := f3
        obtain ⟨z1, z2⟩ := oN90 (x := x) hN f3'.1.ne
        exact ⟨⟨c1', d1, f1', z1⟩, _, z2, RE.w8 f3', k8 K5⟩
      | inr p3 =>
        rw [o3] at f3
        have f3' : RT tb n p3 M5 := f3
        have q3 := tkS_b g13 o3
        have L5 := L4.t (by omega) f4
        have s5 : rd M5 0 8 = nI (o + 1) := by rw [f4.g (by unfold rT; omega)]; exact s4
        obtain ⟨i1, M6, i2, i3, i4⟩ := hR (A ++ a) p3 M5 f3' L5 s5 (by omega)
        have K6 : Kp rL M M6 := K5.tr i4
        obtain ⟨B2, g2⟩ := hG p3 q3.2
        rw [P_12_one_90, F_12_one_90, i2]
        show _ ∧ ∃ M', _ ∧ RLo tb n A o (bnd (rec (o + 1) p3) (fun b => bnd (tkS 93 tb n b.2) (fun p5 => .inr (a ++ b.1 ++ [c], p5)))) M' ∧ _
        cases o4 : rec (o + 1) p3 with
        | inl e =>
          rw [o4] at i3
          have i3' : RE e M6 ∧ TxE tb n M6 := i3
          obtain ⟨z1, z2⟩ := oN94 (rF := rF) (rP := rP) (x := x) i3'.1.ne
          exact ⟨⟨c1', d1, f1', i1, z1⟩, _, z2, RE.w8 i3', k8 K6⟩
        | inr b =>
          obtain ⟨b, p4⟩ := b
          rw [o4] at i3 g2
          obtain ⟨T6, L6, s6⟩ : RT tb n p4 M6 ∧ RLw (A ++ a ++ b) M6 ∧ rd M6 0 8 = nI (o + 1) := i3
          obtain ⟨g21, g22, g23, _⟩ : 1 ≤ b.length ∧ b.length + p3 ≤ p4 ∧ p4 ≤ n ∧ OKC b B2 := g2
          have lB : (A ++ a ++ b).length = A.length + a.length + b.length := by rw [List.length_append, lA]
          obtain ⟨j1, M7, j2, j3, j4⟩ := r_sign (c := 93) T6 (by omega)
          have j1' : P_12_sign_0 93 M6 := j1
          have j2' : F_12_sign_0 93 M6 = M7 := j2
          have K7 : Kp rL M M7 := K6.tr j4.tL
          rw [P_12_one_94, F_12_one_94, j2']
          show _ ∧ ∃ M', _ ∧ RLo tb n A o (bnd (tkS 93 tb n p4) (fun p5 => .inr (a ++ b ++ [c], p5))) M' ∧ _
          cases o5 : tkS 93 tb n p4 with
          | inl e =>
            rw [o5] at j3
            have j3' : RE e M7 ∧ TxE tb n M7 := j3
            obtain ⟨z1, z2⟩ := oN100 (rF := rF) (rP := rP) (x := x) j3'.1.ne
            exact ⟨⟨c1', d1, f1', i1, j1', z1⟩, _, z2, RE.w8 j3', k8 K7⟩
          | inr p5 =>
            rw [o5] at j3
            have j3' : RT tb n p5 M7 := j3
            have q5 := tkS_b g23 o5
            have L7 := L6.t (by omega) j4
            have s7 : rd M7 0 8 = nI (o + 1) := by rw [j4.g (by unfold rT; omega)]; exact s6
            obtain ⟨n1, M8, n2, n3, n4⟩ := r_notes L7 j3'.2.2.2 (by omega) hc
            have s8 : rd M8 0 8 = nI (o + 1) := by rw [n4.g (by unfold rN; omega)]; exact s7
            rw [P_12_one_100, F_12_one_100, F_12_one_106, n2, s8]
            have e8 : nI (o + 1) - 1 = nI o := by
              rw [show (1 : Int32) = nI 1 from rfl, pk_sub (by omega)]; rfl
            rw [e8]
            have K9 : Kp (fun c j => c = 0 ∧ j = 8) M8 (wr M8 0 8 (nI o)) := Kp.rf.w ⟨rfl, rfl⟩
            have lC : (A ++ a ++ b ++ [c]).length = A.length + a.length + b.length + 1 := by rw [List.length_append, lB]; rfl
            refine ⟨⟨c1', d1, f1', i1, j1', n1⟩, _, rfl, ⟨(j3'.n n4).k K9 (fun c j z => by omega), ?_, rd_s _ _ _ _⟩, k8 (K7.tr n4.nL)⟩
            show RLw (A ++ (a ++ b ++ [c])) _
            have : A ++ (a ++ b ++ [c]) = A ++ a ++ b ++ [c] := by simp only [List.append_assoc]
            rw [this]
            exact n3.k (by omega) K9 (fun c j z => by unfold rN; omega)
theorem r_br {tb : Nat → Nat} {n q o : Nat} {A : List Int32} {M : Mem} {rF : Mem → Mem} {rP : Mem → Prop} {rec : Nat → Nat → TRs LwP} (hn : n ≤ 150) (h : RT tb n q M) (hL : RLw A M) (h8 : rd M 0 8 = nI o) (hA : A.length ≤ q) (ho : o ≤ 6) (hr : RcG tb n rF rP rec o) (hq : q < n) : P_12_one_134 rF rP (F_12_opensOne_0 M).1 (F_12_opensOne_0 M).2 ∧ ∃ M', F_12_one_134 rF (F_12_opensOne_0 M).1 (F_12_opensOne_0 M).2 = M' ∧ RLo tb n A o (lBr tb n rec o q) M' ∧ Kp rL M M' := by
  obtain ⟨M1, a1, a2, a3, a4⟩ := r_opensOne h h8 ho
  rw [a1, P_12_one_134, F_12_one_134]
  unfold lBr
  by_cases c6 : o = 6
  · rw [if_pos c6, if_pos rfl, if_pos c6]
    exact ⟨⟨fun z => absurd rfl z, fun _ => trivial⟩, M1, rfl, a2 c6, a4⟩
  rw [if_neg c6, if_neg one_ne, if_neg c6]
  have e1 := a3 c6
  obtain ⟨⟨hN, hR⟩, hG⟩ := hr (by omega)
  have K1 : Kp (fun c j => c = 0 ∧ j = 8) M M1 := by rw [e1]; exact Kp.rf.w ⟨rfl, rfl⟩
  have T1 : RT tb n q M1 := h.k K1 (fun c j z => by omega)
  have L1 : RLw A M1 := hL.k (by omega) K1 (fun c j z => by unfold rN; omega)
  have s1 : rd M1 0 8 = nI (o + 1) := by rw [e1, rd_s]
  rw [T1.2.1, nI_1]
  have K2 : Kp r4 M1 (wr M1 0 4 (nI (q + 1))) := Kp.rf.w ⟨rfl, rfl⟩
  have T2 : RT tb n (q + 1) (wr M1 0 4 (nI (q + 1))) := ⟨T1.1.k K2 (fun c j z => by unfold r4 at z; omega), rd_s _ _ _ _, by omega, by rw [rd_i (by decide)]; exact T1.2.2.2⟩
  have L2 := L1.t4 (by omega) K2
  have s2 : rd (wr M1 0 4 (nI (q + 1))) 0 8 = nI (o + 1) := by rw [rd_i (by decide)]; exact s1
  have K2' : Kp rL M (wr M1 0 4 (nI (q + 1))) := a4.tr K2.t4L
  generalize wr M1 0 4 (nI (q + 1)) = M2 at *
  obtain ⟨d1, M4, d2, d3, d4⟩ := hR A (q + 1) M2 T2 L2 s2 (by omega)
  have K4 : Kp rL M M4 := K2'.tr d4
  obtain ⟨B1, g1⟩ := hG (q + 1) (by omega)
  rw [d2, P_12_one_152, F_12_one_152, F_12_one_158]
  cases o2 : rec (o + 1) (q + 1) with
  | inl e =>
    rw [o2] at d3
    have d3' : RE e M4 ∧ TxE tb n M4 := d3
    obtain ⟨z1, z2⟩ := r_signN (x := 41) d3'.1.ne
    rw [z2]
    exact ⟨⟨fun _ => ⟨d1, z1⟩, fun z => absurd z one_ne⟩, _, rfl, RE.w8 d3', k8 K4⟩
  | inr a =>
    obtain ⟨a, p2⟩ := a
    rw [o2] at d3 g1
    obtain ⟨T4, L4, s4⟩ : RT tb n p2 M4 ∧ RLw (A ++ a) M4 ∧ rd M4 0 8 = nI (o + 1) := d3
    obtain ⟨g11, g12, g13, _⟩ : 1 ≤ a.length ∧ a.length + (q + 1) ≤ p2 ∧ p2 ≤ n ∧ OKC a B1 := g1
    have lA : (A ++ a).length = A.length + a.length := List.length_append
    obtain ⟨f1, M5, f2, f3, f4⟩ := r_sign (c := 41) T4 (by omega)
    have f1' : P_12_sign_0 41 M4 := f1
    have f2' : F_12_sign_0 41 M4 = M5 := f2
    have K5 : Kp rL M M5 := K4.tr f4.tL
    rw [f2']
    show _ ∧ ∃ M', _ ∧ RLo tb n A o (bnd (tkS 41 tb n p2) (fun p3 => .inr (a, p3))) M' ∧ _
    cases o3 : tkS 41 tb n p2 with
    | inl e =>
      rw [o3] at f3
      have f3' : RE e M5 ∧ TxE tb n M5 := f3
      exact ⟨⟨fun _ => ⟨d1, f1'⟩, fun z => absurd z one_ne⟩, _, rfl, RE.w8 f3', k8 K5⟩
    | inr p3 =>
      rw [o3] at f3
      have f3' : RT tb n p3 M5 := f3
      have L5 := L4.t (by omega) f4
      have s5 : rd M5 0 8 = nI (o + 1) := by rw [f4.g (by unfold rT; omega)]; exact s4
      have e8 : nI (o + 1) - 1 = nI o := by
        rw [show (1 : Int32) = nI 1 from rfl, pk_sub (by omega)]; rfl
      rw [s5, e8]
      have K9 : Kp (fun c j => c = 0 ∧ j = 8) M5 (wr M5 0 8 (nI o)) := Kp.rf.w ⟨rfl, rfl⟩
      exact ⟨⟨fun _ => ⟨d1, f1'⟩, fun z => absurd z one_ne⟩, _, rfl, ⟨f3'.k K9 (fun c j z => by omega), L5.k (by omega) K9 (fun c j z => by unfold rN; omega), rd_s _ _ _ _⟩, k8 K5⟩
