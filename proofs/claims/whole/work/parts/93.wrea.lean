/-! MATHEMATICS 63: the reference reads a step -/
theorem r_leaf {tb : Nat → Nat} {n k o s q kk : Nat} {u : MU} {rF : Mem → Mem} {rP : Mem → Prop} {M : Mem} (hn : n ≤ 150) (h : RT tb n q M) (hu : RP u M) (h30 : rd M 0 30 = nI s) (h8 : rd M 0 8 = nI o) (hs : 2 * s ≤ q) (ok : stK tb n q = some kk) (hk : kk < 4) : P_12_readsStep_32 rF rP (nI kk) M ∧ ∃ M', F_12_readsStep_32 rF (nI kk) M = M' ∧ RS1 tb n k o s (wS1 tb n u (wSt tb n u k (o + 1)) o q) M' ∧ Kp (rSs s) M M' := by
  have hqn := h.2.2.1
  obtain ⟨a1, M2, a2, a3, a4⟩ := r_sw h
  have s80 : s < 80 := by omega
  obtain ⟨M3, b1, b2, b3, b4, b5, b6, b7, b8⟩ := s44 (rF := rF) (rP := rP) (x := nI kk) a3 (hu.t4 a4) (by rw [a4.g (by unfold r4; omega)]; exact h30) s80
  have c8 : rd M3 0 8 = nI o := by rw [b6, a4.g (by unfold r4; omega)]; exact h8
  have K3 : Kp (rSs s) M M3 := a4.t4S.tr b8
  have e0 : (nI kk = 0) ↔ kk = 0 := nI_eq (b := 0) (by omega) (by omega)
  have e3 : ((3 : Int32) ≤ nI kk) ↔ 3 ≤ kk := nI_leI (a := 3) (by omega) (by omega)
  by_cases k0 : kk = 0
  · have z0 : nI kk = 0 := e0.mpr k0
    have hT : uT u ≤ 24 := by have := b4.1.2.2.1; omega
    obtain ⟨c1, M4, c2, c3, c4⟩ := r_number (xl := 0) (xh := rd M3 4 2 - 1) (lo := 0) (hi := uT u) b3 (fun v hv => by rw [b4.2.2.2.1]; exact hin_m hT hv)
    have eW : wS1 tb n u (wSt tb n u k (o + 1)) o q = bnd (tkN tb n (weT tb n q) 0 (uT u)) (fun a => bnd (wDr tb n u a.2) (fun y => .inr (.inl (0, a.1, y.1), y.2))) := by
      unfold wS1
      rw [ok]
      try dsimp only
      rw [if_pos k0]
      congr 1
      funext a
      exact wDr_m (β := StpW (PT k)) (fun b => Sum.inl (0, a.1, b))
    rw [c2] at b1 b2
    rw [if_pos z0] at b2
    rw [P_12_readsStep_32, F_12_readsStep_32, if_pos h.2.2.2, a2, b2, eW]
    cases o1 : tkN tb n (weT tb n q) 0 (uT u) with
    | inl e =>
      rw [o1] at c3 b1
      have c3' : RE e M4 ∧ TxE tb n M4 := c3
      have hK : Kp rRw M4 (wr M4 (398 + s) 1 (nI (vlO (.inl e : TRs (Nat × Nat))))) := Kp.rf.w (Or.inl ⟨by omega, by omega⟩)
      obtain ⟨d1, M', d2, d3, d4⟩ := s88N (rF := rF) (rP := rP) (s := s) (REx.w c3' hK) s80 (Nat.le_refl _) (show kk < 3 by omega)
      have d0 : P_12_readsStep_87 rF rP (nI kk) s (nI (vlO (.inl e : TRs (Nat × Nat)))) 1 s M4 ∧ F_12_readsStep_87 rF (nI kk) s (nI (vlO (.inl e : TRs (Nat × Nat)))) 1 s M4 = M' := by
        rw [P_12_readsStep_87, F_12_readsStep_87, cl1]
        exact ⟨⟨s80, s80, (vp_iff (i := 1) (by omega)).mpr (by omega), d1⟩, d2⟩
      exact ⟨⟨fun _ => ⟨a1, b1 ⟨fun z => absurd z0 z, fun _ => ⟨c1, d0.1⟩⟩⟩, fun z => absurd h.2.2.2 z⟩, M', d0.2, d3, (K3.tr c4.tS).tr ((Kp.w (p := rSs s) Kp.rf (Or.inr ⟨by omega, by omega⟩)).tr d4)⟩
    | inr x =>
      obtain ⟨a, pa⟩ := x
      rw [o1] at c3 b1
      have c3' : RT tb n pa M4 := c3
      have hK : Kp rRw M4 (wr M4 (398 + s) 1 (nI a)) := Kp.rf.w (Or.inl ⟨by omega, by omega⟩)
      have hK2 : Kp (rSs s) M4 (wr M4 (398 + s) 1 (nI a)) := Kp.rf.w (Or.inr ⟨by omega, by omega⟩)
      have f30 : rd (wr M4 (398 + s) 1 (nI a)) 0 30 = nI (s + 1) := by rw [rd_c (by omega), c4.g (by unfold rT; omega)]; exact b5
      obtain ⟨d1, M', d2, d3, d4⟩ := s88 (rF := rF) (rP := rP) (s := s) (k := kk) (c3'.w hK) ((b4.t c4).s hK2) s80 (Nat.le_refl _) (by omega) f30
      have d0 : P_12_readsStep_87 rF rP (nI kk) s (nI a) 1 s M4 ∧ F_12_readsStep_87 rF (nI kk) s (nI a) 1 s M4 = M' := by
        rw [P_12_readsStep_87, F_12_readsStep_87, cl1]
        exact ⟨⟨s80, s80, (vp_iff (i := 1) (by omega)).mpr (by omega), d1⟩, d2⟩
      refine ⟨⟨fun _ => ⟨a1, b1 ⟨fun z => absurd z0 z, fun _ => ⟨c1, d0.1⟩⟩⟩, fun z => absurd h.2.2.2 z⟩, M', d0.2, ?_, (K3.tr c4.tS).tr (hK2.tr d4)⟩
      show RS1 tb n k o s (bnd (wDr tb n u pa) (fun y => .inr (.inl (0, a, y.1), y.2))) M'
      cases o2 : wDr tb n u pa with
      | inl e => rw [o2] at d3; exact d3
      | inr y =>
        obtain ⟨b, pb⟩ := y
        rw [o2] at d3
        obtain ⟨f1, f2, f3, f4, f5, f6, f7⟩ := d3
        refine ⟨f1, ?_, ?_, ?_, fun _ => ?_, fun _ => f2, f3, trivial⟩
        · rw [f6, f30]; rfl
        · rw [f7, rd_c (by omega), c4.g (by unfold rT; omega)]; exact c8
        · rw [f4, rd_i (by omega), c4.g (by unfold rT; omega), b7, k0]
        · rw [f5, rd_s]
  have z0 : ¬ nI kk = 0 := fun z => k0 (e0.mp z)
  rw [if_neg z0] at b2
  by_cases k3 : kk = 3
  · have z3 : (3 : Int32) ≤ nI kk := e3.mpr (by omega)
    have eW : wS1 tb n u (wSt tb n u k (o + 1)) o q = bnd (tkS 59 tb n (weT tb n q)) (fun p => .inr (.inl (3, 0, 0), p)) := by
      unfold wS1
      rw [ok]
      try dsimp only
      rw [if_neg k0, if_pos k3]
    obtain ⟨d1, M', d2, d3, d4, d5, d6⟩ := s181 (rF := rF) (rP := rP) (s := s) b3 s80 (Nat.le_refl _) b5
    have d0 : P_12_readsStep_88 rF rP (nI kk) s M3 ∧ F_12_readsStep_88 rF (nI kk) s M3 = M' := by
      rw [P_12_readsStep_88, F_12_readsStep_88, if_pos z3, P_12_readsStep_109, F_12_readsStep_109, if_neg (n34 hk)]
      exact ⟨⟨s80, fun _ => ⟨s80, fun _ => d1, fun z => absurd z (n34 hk)⟩, fun z => absurd z3 z⟩, d2⟩
    rw [P_12_readsStep_32, F_12_readsStep_32, if_pos h.2.2.2, a2, b2, eW]
    refine ⟨⟨fun _ => ⟨a1, b1 ⟨fun _ => d0.1, fun z => absurd z z0⟩⟩, fun z => absurd h.2.2.2 z⟩, M', d0.2, ?_, K3.tr d6⟩
    cases o2 : tkS 59 tb n (weT tb n q) with
    | inl e => rw [o2] at d3; exact d3
    | inr pb =>
      rw [o2] at d3
      refine ⟨d3, ?_, ?_, ?_, fun z => absurd (show (3 : Nat) = 0 from z) (by omega), fun z => absurd (show (3 : Nat) < 3 from z) (by omega), d4, trivial⟩
      · rw [d5 _ _ (by unfold rT; omega) (by omega), b5]; rfl
      · rw [d5 _ _ (by unfold rT; omega) (by omega)]; exact c8
      · rw [d5 _ _ (by unfold rT; omega) (by omega), b7, k3]
  · have eW : wS1 tb n u (wSt tb n u k (o + 1)) o q = bnd (wDr tb n u (weT tb n q)) (fun y => .inr (.inl (kk, 0, y.1), y.2)) := by
      unfold wS1
      rw [ok]
      try dsimp only
      rw [if_neg k0, if_neg k3, if_neg (by omega)]
      exact wDr_m (β := StpW (PT k)) (fun b => Sum.inl (kk, 0, b))
    obtain ⟨d1, M', d2, d3, d4⟩ := s88 (rF := rF) (rP := rP) (s := s) (k := kk) b3 b4 s80 (Nat.le_refl _) (by omega) b5
    rw [P_12_readsStep_32, F_12_readsStep_32, if_pos h.2.2.2, a2, b2, eW]
    refine ⟨⟨fun _ => ⟨a1, b1 ⟨fun _ => d1, fun z => absurd z z0⟩⟩, fun z => absurd h.2.2.2 z⟩, M', d2, ?_, K3.tr d4⟩
    cases o2 : wDr tb n u (weT tb n q) with
    | inl e => rw [o2] at d3; exact d3
    | inr y =>
      obtain ⟨b, pb⟩ := y
      rw [o2] at d3
      obtain ⟨f1, f2, f3, f4, f5, f6, f7⟩ := d3
      refine ⟨f1, ?_, ?_, ?_, fun z => absurd z k0, fun _ => f2, f3, trivial⟩
      · rw [f6, b5]; rfl
      · rw [f7]; exact c8
      · rw [f4, b7]
theorem r_again {tb : Nat → Nat} {n k o s q : Nat} {u : MU} {rF : Mem → Mem} {rP : Mem → Prop} {M : Mem} (hn : n ≤ 150) (hko : o + (k + 1) = 6) (hS : RSt tb n u rF rP k (o + 1)) (h : RT tb n q M) (hu : RP u M) (h30 : rd M 0 30 = nI s) (h8 : rd M 0 8 = nI (o + 1)) (hs : 2 * s ≤ q) (ok : stK tb n q = some 4) : P_12_readsStep_32 rF rP 4 M ∧ ∃ M', F_12_readsStep_32 rF 4 M = M' ∧ RS1 tb n (k + 1) o s (wS1 tb n u (wSt tb n u (k + 1) (o + 1)) o q) M' ∧ Kp (rSs s) M M' := by
  have hqn := h.2.2.1
  have hw := stK_we hqn ok
  obtain ⟨a1, M2, a2, a3, a4⟩ := r_sw h
  have s80 : s < 80 := by omega
  obtain ⟨M3, b1, b2, b3, b4, b5, b6, b7, b8⟩ := s44 (rF := rF) (rP := rP) (x := 4) a3 (hu.t4 a4) (by rw [a4.g (by unfold r4; omega)]; exact h30) s80
  have c8 : rd M3 0 8 = nI (o + 1) := by rw [b6, a4.g (by unfold r4; omega)]; exact h8
  have K3 : Kp (rSs s) M M3 := a4.t4S.tr b8
  have z0 : ¬ (4 : Int32) = 0 := by decide
  have z3 : (3 : Int32) ≤ 4 := by decide
  rw [if_neg z0] at b2
  obtain ⟨c1, M4, c2, c3, c4⟩ := r_number (xl := 0) (xh := 30) (lo := 0) (hi := 31) b3 (fun v hv => hin_c (lo := 0) (hi := 30) (by omega) (by omega) hv)
  have eW : wS1 tb n u (wSt tb n u (k + 1) (o + 1)) o q = bnd (tkN tb n (weT tb n q) 0 31) (fun a => bnd (tkS 91 tb n a.2) (fun p => bnd (wSt tb n u (k + 1) (o + 1) p) (fun b => bnd (tkS 59 tb n b.2) (fun p2 => .inr (.inr (a.1, b.1), p2))))) := by
    unfold wS1
    rw [ok]
    try dsimp only
    rw [if_neg (by omega), if_neg (by omega), if_pos rfl, if_neg (by omega)]
  rw [P_12_readsStep_32, F_12_readsStep_32, if_pos h.2.2.2, a2, b2, eW]
  suffices hs : P_12_readsStep_123 rF rP s (nI (vlO (tkN tb n (weT tb n q) 0 31))) 1 s M4 ∧ ∃ M', F_12_readsStep_123 rF s (nI (vlO (tkN tb n (weT tb n q) 0 31))) 1 s M4 = M' ∧ RS1 tb n (k + 1) o s (bnd (tkN tb n (weT tb n q) 0 31) (fun a => bnd (tkS 91 tb n a.2) (fun p => bnd (wSt tb n u (k + 1) (o + 1) p) (fun b => bnd (tkS 59 tb n b.2) (fun p2 => .inr (.inr (a.1, b.1), p2)))))) M' ∧ Kp (rSs s) M4 M' by
    obtain ⟨d1, M', d2, d3, d4⟩ := hs
    have d0 : P_12_readsStep_88 rF rP 4 s M3 ∧ F_12_readsStep_88 rF 4 s M3 = M' := by
      rw [P_12_readsStep_88, F_12_readsStep_88, if_pos z3, P_12_readsStep_109, F_12_readsStep_109, if_pos rfl, c2]
      exact ⟨⟨s80, fun _ => ⟨s80, fun z => absurd rfl z, fun _ => ⟨c1, d1⟩⟩, fun z => absurd z3 z⟩, d2⟩
    exact ⟨⟨fun _ => ⟨a1, b1 ⟨fun _ => d0.1, fun z => absurd z z0⟩⟩, fun z => absurd h.2.2.2 z⟩, M', d0.2, d3, (K3.tr c4.tS).tr d4⟩
  cases o1 : tkN tb n (weT tb n q) 0 31 with
  | inl e =>
    rw [o1] at c3
    exact s123N c3 s80 (Nat.le_refl _)
  | inr x =>
    obtain ⟨a, pa⟩ := x
    rw [o1] at c3
    have c3' : RT tb n pa M4 := c3
    have q1 := tkN_b2 hw.2 o1
    have hK : Kp rRw M4 (wr M4 (398 + s) 1 (nI a)) := Kp.rf.w (Or.inl ⟨by omega, by omega⟩)
    have hK2 : Kp (rSs s) M4 (wr M4 (398 + s) 1 (nI a)) := Kp.rf.w (Or.inr ⟨by omega, by omega⟩)
    have U4 := (b4.t c4).s hK2
    have g30 : rd (wr M4 (398 + s) 1 (nI a)) 0 30 = nI (s + 1) := by rw [rd_c (by omega), c4.g (by unfold rT; omega)]; exact b5
    have g8 : rd (wr M4 (398 + s) 1 (nI a)) 0 8 = nI (o + 1) := by rw [rd_c (by omega), c4.g (by unfold rT; omega)]; exact c8
    have g0 : rd (wr M4 (398 + s) 1 (nI a)) (398 + s) 0 = 4 := by rw [rd_i (by omega), c4.g (by unfold rT; omega)]; exact b7
    have g1 : rd (wr M4 (398 + s) 1 (nI a)) (398 + s) 1 = nI a := rd_s _ _ _ _
    have T4 := c3'.w hK
    show P_12_readsStep_123 rF rP s (nI a) 1 s M4 ∧ ∃ M', F_12_readsStep_123 rF s (nI a) 1 s M4 = M' ∧ RS1 tb n (k + 1) o s (bnd (tkS 91 tb n pa) (fun p => bnd (wSt tb n u (k + 1) (o + 1) p) (fun b => bnd (tkS 59 tb n b.2) (fun p2 => .inr (.inr (a, b.1), p2))))) M' ∧ Kp (rSs s) M4 M'
    rw [P_12_readsStep_123, F_12_readsStep_123, cl1]
    generalize wr M4 (398 + s) 1 (nI a) = M5 at *
    obtain ⟨d1, M6, d2, d3, d4⟩ := r_sign (c := 91) T4 (by omega)
    have d1' : P_12_sign_0 91 M5 := d1
    have d2' : F_12_sign_0 91 M5 = M6 := d2
    rw [d2']
    suffices hs : P_12_readsStep_130 rF rP s M6 ∧ ∃ M', F_12_readsStep_130 rF s M6 = M' ∧ RS1 tb n (k + 1) o s (bnd (tkS 91 tb n pa) (fun p => bnd (wSt tb n u (k + 1) (o + 1) p) (fun b => bnd (tkS 59 tb n b.2) (fun p2 => .inr (.inr (a, b.1), p2))))) M' ∧ Kp (rSs s) M6 M' by
      obtain ⟨z1, M', z2, z3, z4⟩ := hs
      exact ⟨⟨s80, s80, (vp_iff (i := 1) (by omega)).mpr (by omega), d1', z1⟩, M', z2, z3, (hK2.tr d4.tS).tr z4⟩
    cases o2 : tkS 91 tb n pa with
    | inl e =>
      rw [o2] at d3
      exact s130N d3 s80 (Nat.le_refl _)
    | inr p1 =>
      rw [o2] at d3
      have d3' : RT tb n p1 M6 := d3
      have q2 := tkS_b c3'.2.2.1 o2
      obtain ⟨e1, M7, e2, e3, e4⟩ := r_bl d3'
      have k7 : ∀ c j, ¬ rT c j → rd M7 c j = rd M5 c j := fun c j z => by
        rw [e4.g (fun w => z (by unfold r4 at w; unfold rT; omega)), d4.g z]
      have U7 : RP u M7 := (U4.t d4).t4 e4
      obtain ⟨M8, l1, l2, l3, l4⟩ := r_stL hn (by omega) (by omega) hS s80 (n + 1 - p1) p1 (s + 1) M7 e3 q2.2 U7 (by rw [k7 _ _ (by unfold rT; omega)]; exact g30) (by rw [k7 _ _ (by unfold rT; omega)]; exact g8) (by omega) (by omega)
      have l2' := l2 FU (by unfold FU; omega)
      rw [P_12_readsStep_130, F_12_readsStep_130, e2, l2']
      suffices hs : P_12_readsStep_165 rF rP s M8 ∧ ∃ M', F_12_readsStep_165 rF s M8 = M' ∧ RS1 tb n (k + 1) o s (bnd (wSt tb n u (k + 1) (o + 1) p1) (fun b => bnd (tkS 59 tb n b.2) (fun p2 => .inr (.inr (a, b.1), p2)))) M' ∧ Kp (rSs s) M8 M' by
        obtain ⟨z1, M', z2, z3, z4⟩ := hs
        exact ⟨⟨s80, e1, l1 z1 FU (by unfold FU; omega)⟩, M', z2, z3, (e4.t4S.tr (l4.sS (by omega))).tr z4⟩
      have eS : wSt tb n u (k + 1) (o + 1) p1 = wSq tb n u (wSt tb n u k (o + 1 + 1)) (o + 1) (n + 1 - p1) p1 := rfl
      rw [eS]
      cases o3 : wSq tb n u (wSt tb n u k (o + 1 + 1)) (o + 1) (n + 1 - p1) p1 with
      | inl e =>
        rw [o3] at l3
        exact s165N l3 s80 (Nat.le_refl _)
      | inr y =>
        obtain ⟨b, p2⟩ := y
        rw [o3] at l3
        obtain ⟨⟨qq, m1, m2, m3, m4⟩, m5, m6, m7⟩ := l3
        have hsk : skT tb n qq = qq := nxE_e (fun z => by have := z.2; simp only [blP, decide_eq_true_eq] at this; omega)
        have et : tkS 93 tb n qq = .inr (qq + 1) := by unfold tkS; rw [hsk, if_pos ⟨m2, m3⟩]
        obtain ⟨f1, M9, f2, f3, f4⟩ := r_sign (c := 93) m1 (by omega)
        rw [et] at f3
        have f3' : RT tb n (qq + 1) M9 := f3
        have f1' : P_12_sign_0 93 M8 := f1
        have f2' : F_12_sign_0 93 M8 = M9 := f2
        have e8 : rd M9 0 8 - 1 = nI o := by
          rw [f4.g (by unfold rT; omega), m6, show (1 : Int32) = nI 1 from rfl, pk_sub (by omega), Nat.add_sub_cancel]
        have hK9 : Kp rRw M9 (wr M9 0 8 (nI o)) := Kp.rf.w (Or.inr ⟨rfl, by omega⟩)
        have f30 : rd (wr M9 0 8 (nI o)) 0 30 = nI (s + 1 + szL 1 (szP 1 k) b) := by rw [rd_i (by omega), f4.g (by unfold rT; omega)]; exact m5
        obtain ⟨r1, M', r2, r3, r4', r5, r6⟩ := s181 (rF := rF) (rP := rP) (s := s) (f3'.w hK9) s80 (Nat.le_refl _) f30
        rw [P_12_readsStep_165, F_12_readsStep_165, f2', P_12_readsStep_171, F_12_readsStep_171, e8]
        refine ⟨⟨s80, f1', s80, r1⟩, M', r2, ?_, (f4.tS.tr (Kp.w (p := rSs s) Kp.rf (Or.inl ⟨rfl, by omega⟩))).tr r6⟩
        have ep : p2 = qq + 1 := m4
        show RS1 tb n (k + 1) o s (bnd (tkS 59 tb n p2) (fun p2 => .inr (.inr (a, b), p2))) M'
        rw [ep]
        cases o4 : tkS 59 tb n (qq + 1) with
        | inl e => rw [o4] at r3; exact r3
        | inr p3 =>
          rw [o4] at r3
          have kk : ∀ c j, ¬ rT c j → ¬ (c = 398 + s ∧ j = 3) → ¬ (c = 0 ∧ j = 8) → rd M' c j = rd M8 c j := fun c j w1 w2 w3 => by
            rw [r5 c j w1 w2, rd_wr, if_neg w3, f4.g w1]
          have kq : ∀ j, ¬ j = 3 → rd M' (398 + s) j = rd M5 (398 + s) j := fun j w => by
            rw [kk _ _ (by unfold rT; omega) (by omega) (by omega), l4.g (by unfold rSs; omega), k7 _ _ (by unfold rT; omega)]
          refine ⟨r3, ?_, ?_, ?_, ?_, ?_, ?_, trivial⟩
          · rw [r5 _ _ (by unfold rT; omega) (by omega), f30]
            exact congrArg nI (show s + 1 + szL 1 (szP 1 k) b = s + (1 + szL 1 (szP 1 k) b + 0) by omega)
          · rw [r5 _ _ (by unfold rT; omega) (by omega), rd_s]
          · rw [kq 0 (by omega)]; exact g0
          · rw [kq 1 (by omega)]; exact g1
          · exact r4'
          · refine RAP.g (k + 1) b (s + 1) m7 (fun x j w1 w2 => ?_)
            exact kk _ _ (by unfold rT; omega) (by omega) (by omega)
