/-! MATHEMATICS 64: the reference reads a work -/
theorem r_opens6 {tb : Nat → Nat} {n q : Nat} {M : Mem} (h : RT tb n q M) (h8 : rd M 0 8 = nI 6) : ∃ M', F_12_opensOne_0 M = (0, M') ∧ (RE (3, q) M' ∧ TxE tb n M') ∧ Kp rT M M' := by
  have e6 : nI 6 = 6 := rfl
  have n6 := h.1.1
  have hq := h.2.2.1
  rw [F_12_opensOne_0, if_pos h.2.2.2, h8, if_pos e6]
  obtain ⟨M2, w1, w2, w3⟩ := r_wrong h.2.2.2 (k := 3) (q := q) (by omega) (by omega) (by omega)
  have w1' : F_12_wrong_0 3 (nI q) M = M2 := w1
  rw [h.2.1, w1', F_12_opensOne_25, F_12_opensOne_45, if_neg w2.ne]
  exact ⟨M2, rfl, ⟨w2, h.1.k w3 (fun c j z => by unfold rT at z; omega), q, hq, by rw [← w1', r_wrong4]; exact h.2.1⟩, w3⟩
theorem r_step {tb : Nat → Nat} {n k o : Nat} {u : MU} {rF : Mem → Mem} {rP : Mem → Prop} (hn : n ≤ 150) (hko : o + k = 6) (hr : ∀ k', k = k' + 1 → RSt tb n u rF rP k' (o + 1)) : RSt tb n u (F_12_readsStep_0 rF) (P_12_readsStep_0 rF rP) k o := by
  intro s p M h hu h30 h8 hs
  obtain ⟨a1, M1, a2, a3, a4⟩ := r_stepHere h
  have hb := sk_b (tb := tb) h.2.2.1
  have U1 := hu.t4 a4
  have f30 : rd M1 0 30 = nI s := by rw [a4.g (by unfold r4; omega)]; exact h30
  have f8 : rd M1 0 8 = nI o := by rw [a4.g (by unfold r4; omega)]; exact h8
  rw [P_12_readsStep_0, F_12_readsStep_0, a2]
  generalize skT tb n p = q at *
  suffices hs : P_12_readsStep_4 rF rP (skI tb n q) M1 ∧ ∃ M', F_12_readsStep_4 rF (skI tb n q) M1 = M' ∧ RS1 tb n k o s (wS1 tb n u (wSt tb n u k (o + 1)) o q) M' ∧ Kp (rSs s) M1 M' by
    obtain ⟨z1, M', z2, z3, z4⟩ := hs
    exact ⟨⟨a1, z1⟩, M', z2, z3, a4.t4S.tr z4⟩
  unfold skI
  cases ok : stK tb n q with
  | none =>
    have eW : wS1 tb n u (wSt tb n u k (o + 1)) o q = .inl (1, q) := by unfold wS1; rw [ok]
    have m4 : ¬ (-1 : Int32) = 4 := by decide
    obtain ⟨M2, w1, w2, w3⟩ := r_wrong a3.2.2.2 (k := 1) (q := q) (by omega) (by omega) (by omega)
    have w1' : F_12_wrong_0 1 (nI q) M1 = M2 := w1
    show P_12_readsStep_4 rF rP (-1) M1 ∧ ∃ M', F_12_readsStep_4 rF (-1) M1 = M' ∧ _
    rw [P_12_readsStep_4, F_12_readsStep_4, if_pos rfl, a3.2.1, w1', P_12_readsStep_19, F_12_readsStep_19, if_neg m4, P_12_readsStep_32, F_12_readsStep_32, if_neg w2.ne, eW]
    exact ⟨⟨fun z => absurd rfl z, fun _ => ⟨fun _ => ⟨fun z => absurd z w2.ne, fun _ => trivial⟩, fun z => absurd z m4⟩⟩, M2, rfl, ⟨w2, a3.1.k w3 (fun c j z => by unfold rT at z; omega), q, hb.2, by rw [← w1', r_wrong4]; exact a3.2.1⟩, w3.tS⟩
  | some kk =>
    have hk := (stK_b ok).1
    show P_12_readsStep_4 rF rP (nI kk) M1 ∧ ∃ M', F_12_readsStep_4 rF (nI kk) M1 = M' ∧ _
    have n1 : ¬ nI kk = -1 := nI_m1 (by omega)
    have e4 : (nI kk = 4) ↔ kk = 4 := nI_eq (b := 4) (by omega) (by omega)
    rw [P_12_readsStep_4, F_12_readsStep_4, if_neg n1, P_12_readsStep_19, F_12_readsStep_19]
    by_cases k4 : kk = 4
    · have z4 : nI kk = 4 := e4.mpr k4
      subst k4
      rw [if_pos z4]
      by_cases o6 : o = 6
      · subst o6
        obtain ⟨M2, c1, c2, c3⟩ := r_opens6 a3 f8
        have eW : wS1 tb n u (wSt tb n u k (6 + 1)) 6 q = .inl (3, q) := by
          unfold wS1
          rw [ok]
          try dsimp only
          rw [if_neg (by omega), if_neg (by omega), if_pos rfl, if_pos rfl]
        rw [c1, P_12_readsStep_28, F_12_readsStep_28, if_pos rfl, eW]
        exact ⟨⟨fun _ => ⟨fun z => absurd z4 z, fun _ => ⟨fun z => absurd rfl z, fun _ => trivial⟩⟩, fun z => absurd z n1⟩, M2, rfl, c2, c3.tS⟩
      · obtain ⟨M2, c1, c2, c3, c4⟩ := r_opensOne a3 f8 (by omega)
        obtain ⟨k', rfl⟩ : ∃ k', k = k' + 1 := ⟨k - 1, by omega⟩
        have hK : Kp rRw M1 M2 := by rw [c3 o6]; exact Kp.rf.w (Or.inr ⟨rfl, by omega⟩)
        have hK2 : Kp (rSs s) M1 M2 := by rw [c3 o6]; exact Kp.rf.w (Or.inl ⟨rfl, by omega⟩)
        have g8 : rd M2 0 8 = nI (o + 1) := by rw [c3 o6, rd_s]
        have g30 : rd M2 0 30 = nI s := by rw [c3 o6, rd_i (by omega)]; exact f30
        obtain ⟨z1, M', z2, z3, z5⟩ := r_again (rF := rF) (rP := rP) hn hko (hr k' rfl) (a3.w hK) (U1.s hK2) g30 g8 (by omega) ok
        rw [c1, if_neg o6, P_12_readsStep_28, F_12_readsStep_28, if_neg one_ne]
        exact ⟨⟨fun _ => ⟨fun z => absurd z4 z, fun _ => ⟨fun _ => z1, fun z => absurd z one_ne⟩⟩, fun z => absurd z n1⟩, M', z2, z3, hK2.tr z5⟩
    · have z4 : ¬ nI kk = 4 := fun z => k4 (e4.mp z)
      rw [if_neg z4]
      obtain ⟨z1, M', z2, z3, z5⟩ := r_leaf (rF := rF) (rP := rP) (k := k) hn a3 U1 f30 f8 (by omega) ok (by omega)
      exact ⟨⟨fun _ => ⟨fun _ => z1, fun z => absurd z z4⟩, fun z => absurd z n1⟩, M', z2, z3, z5⟩
theorem r_steps {tb : Nat → Nat} {n : Nat} {u : MU} (hn : n ≤ 150) : ∀ (k o : Nat), o + k = 6 → ∀ g, k < g → RSt tb n u (G_12_readsStep g) (H_12_readsStep g) k o := by
  intro k
  induction k with
  | zero =>
    intro o ho g hg s p M h hu h30 h8 hs
    obtain ⟨g, rfl⟩ : ∃ g', g = g' + 1 := ⟨g - 1, by omega⟩
    rw [H_12_readsStep, G_12_readsStep]
    exact r_step hn (by omega) (fun k' e => by omega) s p M h hu h30 h8 hs
  | succ k ih =>
    intro o ho g hg s p M h hu h30 h8 hs
    obtain ⟨g, rfl⟩ : ∃ g', g = g' + 1 := ⟨g - 1, by omega⟩
    rw [H_12_readsStep, G_12_readsStep]
    refine r_step hn (by omega) (fun k' e => ?_) s p M h hu h30 h8 hs
    have e' : k' = k := by omega
    subst e'
    exact ih (o + 1) (by omega) g (by omega)
def RSe (tb : Nat → Nat) (n s : Nat) (r : TRs (PT 7 × Nat)) (M' : Mem) : Prop := match r with
  | .inl e => RE e M' ∧ TxE tb n M'
  | .inr y => rd M' 0 5 = 0 ∧ rd M' 0 30 = nI (s + szP 1 7 y.1) ∧ RAP 7 y.1 s M'
theorem r_wkL {tb : Nat → Nat} {n : Nat} {u : MU} (hn : n ≤ 150) (hS : RSt tb n u (G_12_readsStep 8) (H_12_readsStep 8) 6 0) : ∀ (f p s : Nat) (M : Mem), RT tb n (skT tb n p) M → p ≤ n → RP u M → rd M 0 30 = nI s → rd M 0 8 = nI 0 → 2 * s ≤ p → n - p < f → ∃ M', (P_12_work_101 M' → ∀ g, f < g → P_12_work_72 g M) ∧ (∀ g, f < g → F_12_work_72 g M = F_12_work_101 M') ∧ RSe tb n s (wSq tb n u (wSt tb n u 6 1) 0 f p) M' ∧ Kp (rSs s) M M' := by
  intro f
  induction f with
  | zero => intro p s M _ _ _ _ _ _ h; omega
  | succ f ih =>
    intro p s M h hp hu h30 h8 hs hf0
    have hb := sk_b (tb := tb) hp
    have e1 : (nI n ≤ nI (skT tb n p)) ↔ ¬ skT tb n p < n := by rw [nI_leI (by omega) (by omega)]; omega
    rw [wSq]
    by_cases c1 : ¬ skT tb n p < n
    · rw [if_pos ⟨rfl, c1⟩]
      refine ⟨M, fun hP g hg => ?_, fun g hg => ?_, ⟨h.2.2.2, h30, trivial⟩, Kp.rf⟩
      · obtain ⟨g, rfl⟩ : ∃ g', g = g' + 1 := ⟨g - 1, by omega⟩
        rw [P_12_work_72, h.2.1, h.1.2.1]
        exact ⟨fun z => absurd h.2.2.2 z, fun _ => ⟨fun _ => hP, fun z => absurd (e1.mpr c1) z⟩⟩
      · obtain ⟨g, rfl⟩ : ∃ g', g = g' + 1 := ⟨g - 1, by omega⟩
        rw [F_12_work_72, if_pos h.2.2.2, h.2.1, h.1.2.1, if_pos (e1.mpr c1)]
    rw [if_neg (fun z => c1 z.2), if_neg (fun z => z.1 rfl)]
    obtain ⟨a1, M1, a2, a3, a4⟩ := hS s (skT tb n p) M h hu h30 h8 (by omega)
    rw [sk_sk hp] at a3
    have hf : ∀ g, f + 1 < g → (P_12_work_94 (P_12_work_72 (g - 1)) M1 → P_12_work_72 g M) ∧ F_12_work_72 g M = F_12_work_94 (F_12_work_72 (g - 1)) M1 := by
      intro g hg
      obtain ⟨g, rfl⟩ : ∃ g', g = g' + 1 := ⟨g - 1, by omega⟩
      have e1' : ¬ nI n ≤ nI (skT tb n p) := fun z => c1 (e1.mp z)
      rw [P_12_work_72, F_12_work_72, h.2.1, h.1.2.1, if_pos h.2.2.2, if_neg e1', a2, Nat.add_sub_cancel]
      exact ⟨fun z => ⟨fun w => absurd h.2.2.2 w, fun _ => ⟨fun w => absurd w e1', fun _ => ⟨a1, z⟩⟩⟩, rfl⟩
    cases o1 : wS1 tb n u (wSt tb n u 6 1) 0 (skT tb n p) with
    | inl e =>
      rw [o1] at a3
      have a3' : RE e M1 ∧ TxE tb n M1 := a3
      obtain ⟨g1, M2, g2, g3, g4⟩ := r_blE a3'
      have last : ∀ f, 0 < f → (P_12_work_101 M2 → P_12_work_72 f M2) ∧ F_12_work_72 f M2 = F_12_work_101 M2 := by
        intro f hf
        obtain ⟨g, rfl⟩ : ∃ g, f = g + 1 := ⟨f - 1, by omega⟩
        rw [P_12_work_72, F_12_work_72, if_neg g3.1.ne]
        exact ⟨fun z => ⟨fun _ => z, fun w => absurd w g3.1.ne⟩, rfl⟩
      refine ⟨M2, fun hP g hg => (hf g hg).1 ?_, fun g hg => ?_, g3, a4.tr g4.t4S⟩
      · rw [P_12_work_94, P_12_work_98, g2]
        exact ⟨g1, (last (g - 1) (by omega)).1 hP⟩
      · rw [(hf g hg).2, F_12_work_94, F_12_work_98, g2]
        exact (last (g - 1) (by omega)).2
    | inr x =>
      obtain ⟨x, p1⟩ := x
      rw [o1] at a3
      obtain ⟨T1, t30, t8, tA⟩ : RT tb n p1 M1 ∧ rd M1 0 30 = nI (s + szL 1 (szP 1 6) [x]) ∧ rd M1 0 8 = nI 0 ∧ RAL (szP 1 6) (RAP 6) [x] s M1 := a3
      have bb := ws1_b (f := szP 1 6) (g := PWP u 6) hb.2 (by omega) (fun _ p hp => wst_b 6 1 p (by omega) hp) o1
      obtain ⟨g1, M2, g2, g3, g4⟩ := r_bl T1
      obtain ⟨M', i1, i2, i3, i4⟩ := ih p1 (s + szL 1 (szP 1 6) [x]) M2 g3 bb.2.1 ((hu.s a4).t4 g4) (by rw [g4.g (by unfold r4; omega)]; exact t30) (by rw [g4.g (by unfold r4; omega)]; exact t8) (by omega) (by omega)
      refine ⟨M', fun hP g hg => (hf g hg).1 ?_, fun g hg => ?_, ?_, (a4.tr g4.t4S).tr (i4.sS (by omega))⟩
      · rw [P_12_work_94, P_12_work_98, g2]
        exact ⟨g1, i1 hP (g - 1) (by omega)⟩
      · rw [(hf g hg).2, F_12_work_94, F_12_work_98, g2]
        exact i2 (g - 1) (by omega)
      · show RSe tb n s (bnd (wSq tb n u (wSt tb n u 6 1) 0 f p1) _) M'
        cases o2 : wSq tb n u (wSt tb n u 6 1) 0 f p1 with
        | inl e => rw [o2] at i3; exact i3
        | inr y =>
          obtain ⟨r, p2⟩ := y
          rw [o2] at i3
          obtain ⟨y1, y2, y4⟩ : rd M' 0 5 = 0 ∧ rd M' 0 30 = nI (s + szL 1 (szP 1 6) [x] + szL 1 (szP 1 6) r) ∧ RAL (szP 1 6) (RAP 6) r (s + szL 1 (szP 1 6) [x]) M' := i3
          refine ⟨y1, ?_, RAL_c (f := RAP 6) (RAL.g (fun a s => RAP.g 6 a s) [x] s tA (fun z j h1 h2 => ?_)) y4⟩
          · show rd M' 0 30 = nI (s + szL 1 (szP 1 6) (x :: r))
            rw [szL_c, ← Nat.add_assoc]
            exact y2
          · rw [i4.g (by unfold rSs; omega), g4.g (by unfold r4; omega)]
theorem r_wtx {tb : Nat → Nat} {n : Nat} {u : MU} {M : Mem} (hn : n ≤ 150) (h : RT tb n (skT tb n 0) M) (hu : RP u M) (h8 : rd M 0 8 = 0) : ∃ M', (P_12_work_101 M' → P_12_work_67 M) ∧ F_12_work_67 M = F_12_work_101 M' ∧ RSe tb n 0 (wkP tb n u) M' ∧ Kp (rSs 0) M M' := by
  have hK : Kp rRw M (wr M 0 30 0) := Kp.rf.w (Or.inr ⟨rfl, by omega⟩)
  have hK2 : Kp (rSs 0) M (wr M 0 30 0) := Kp.rf.w (Or.inl ⟨rfl, by omega⟩)
  obtain ⟨M', a1, a2, a3, a4⟩ := r_wkL hn (r_steps (u := u) hn 6 0 (by omega) 8 (by omega)) (n + 1 - 0) 0 0 (wr M 0 30 0) (h.w hK) (Nat.zero_le _) (hu.s hK2) (rd_s _ _ _ _) (by rw [rd_i (by omega)]; exact h8) (by omega) (by omega)
  rw [P_12_work_67, F_12_work_67]
  exact ⟨M', fun z => a1 z FU (by unfold FU; omega), a2 FU (by unfold FU; omega), a3, hK2.tr a4⟩
