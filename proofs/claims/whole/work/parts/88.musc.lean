/-! MATHEMATICS 58: the call museum, both sides -/
def musT (tb : Nat → Nat) (n : Nat) : TRs DU := musA tb n 61 d0U 0 0
def RMe (o : TRs DU) (M : Mem) (z : Int32 × Mem) : Prop := match o with
  | .inl e => z.1 = nI e.1 - 10 ∧ rd z.2 0 3 = nI e.2 ∧ 1 ≤ e.1 ∧ e.1 ≤ 3 ∧ e.2 ≤ 600 ∧ Kp (fun c j => c = 0 ∧ j = 3) M z.2
  | .inr d => z.1 = nI (uN d.1) ∧ rd z.2 0 3 = -1 ∧ DW d ∧ anQ d (wr M 0 3 (-1)) z.2
theorem r_mus71 {tb : Nat → Nat} {n : Nat} {o : TRs DU} {M : Mem} (h : RM tb n o M) : P_12_museum_71 M ∧ RMe o M (F_12_museum_71 M) := by
  rw [P_12_museum_71, F_12_museum_71]
  cases o with
  | inl e =>
    obtain ⟨hE, _⟩ : RE e M ∧ TxE tb n M := h
    rw [if_neg hE.ne, F_12_ends2_0, F_12_museum_82]
    refine ⟨⟨fun z => absurd z hE.ne, fun _ => trivial⟩, ?_, ?_, hE.2.2.1, hE.2.2.2.1, hE.2.2.2.2, Kp.rf.w ⟨rfl, rfl⟩⟩
    · show rd (wr M 0 3 (rd M 0 6)) 0 5 - 10 = nI e.1 - 10
      rw [rd_i (by decide), hE.1]
    · show rd (wr M 0 3 (rd M 0 6)) 0 3 = nI e.2
      rw [rd_s, hE.2.1]
  | inr d =>
    obtain ⟨hd, h5⟩ : RD d M ∧ rd M 0 5 = 0 := h
    have K0 : Kp (fun c j => c = 0 ∧ j = 3) M (wr M 0 3 (-1)) := Kp.rf.w ⟨rfl, rfl⟩
    have d0 : RD d (wr M 0 3 (-1)) := hd.k K0 (fun c j z => by unfold rD; omega)
    obtain ⟨a1, a2⟩ := r_anew d0
    rw [if_pos h5]
    obtain ⟨M', b1, b2⟩ := a2
    rw [b1, F_12_museum_92, cl0]
    have s3 : rd M' 0 3 = -1 := by
      rw [b2.2.2.2.2.2.2.2.2.g (by unfold rAn; omega), rd_s]
    exact ⟨⟨fun _ => a1, fun z => absurd h5 z⟩, b2.1.2.1, s3, hd.1, M', rfl, b2⟩
theorem r_musG {tb : Nat → Nat} {n t : Nat} {M : Mem} (hnt : n ≤ t) (ht : t ≤ 600) (h1 : rd M 0 1 = nI t) (hT : ∀ i, i < t → rd M 1 i = nI (tb i) ∧ tb i < 256) : P_12_museum_0 (nI n) M ∧ ∃ M1, Kp (fun c j => rB0 c j ∨ rC c j) M M1 ∧ rd M1 0 0 = 0 ∧ rd M1 0 1 = 0 ∧ RMe (musT tb n) M1 (F_12_museum_0 (nI n) M) := by
  have K0 : Kp rB0 M (wr M 0 0 0) := Kp.rf.w (Or.inl ⟨rfl, rfl⟩)
  have a1 : rd (wr M 0 0 0) 0 1 = nI t := by rw [rd_i (by decide)]; exact h1
  have a0 : rd (wr M 0 0 0) 0 0 = 0 := rd_s _ _ _ _
  have aT : ∀ i, i < n → rd (wr M 0 0 0) 1 i = nI (tb i) ∧ tb i < 256 := fun i hi => by rw [rd_c (by decide)]; exact hT i (by omega)
  rw [P_12_museum_0, F_12_museum_0, a1, r_in1 hnt ht, if_neg one_ne]
  generalize wr M 0 0 0 = M0 at *
  obtain ⟨b1, b2⟩ := r_bad0 (x := 1) (y := 1) a0
  obtain ⟨c1, M1, c2, c3, c4, c5, c6, c7, c8⟩ := r_starts (tb := tb) (n := n) (by omega) aT
  obtain ⟨e1, M2, e2, e3, e4⟩ := r_tells (M := M1)
  obtain ⟨M3, d1, d2, d3, d4⟩ := r_mus (tb := tb) (n := n) 61 0 0 d0U M2 (c3.d e4) (Nat.zero_le _) e3 (by rw [e4.g (by unfold rD; omega)]; exact c6) (by omega) (by omega)
  obtain ⟨f1, f2⟩ := r_mus71 d3
  have g1 := d1 f1 FU (by unfold FU; omega)
  have g2 := d2 FU (by unfold FU; omega)
  rw [P_12_museum_23, F_12_museum_23, b2, P_12_museum_28, F_12_museum_28, if_pos rfl, c2, P_12_museum_38, F_12_museum_38, e2, g2]
  have z0 : rd M1 0 0 = 0 := by rw [c8.g (by unfold rBg; omega)]; exact a0
  refine ⟨⟨fun _ => ⟨b1, fun _ => ⟨c1, e1, g1⟩, fun z => absurd rfl z⟩, fun z => absurd z one_ne⟩, M3, (((K0.mono (fun c j z => Or.inl z)).tr (c8.mono (fun c j z => Or.inl (Or.inr z)))).tr (e4.mono (fun c j z => Or.inr (Or.inr z)))).tr (d4.mono (fun c j z => Or.inr z)), ?_, ?_, f2⟩
  · rw [d4.g (by unfold rC rD; omega), e4.g (by unfold rD; omega)]; exact z0
  · rw [d4.g (by unfold rC rD; omega), e4.g (by unfold rD; omega)]; exact c4
