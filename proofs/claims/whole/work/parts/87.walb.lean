/-! MATHEMATICS 57: the call walk, both sides -/
def w0U : WU := (0, fun _ => 0)
theorem WW0 : WW w0U := ⟨Nat.zero_le _, fun k hk => absurd (show k < 0 from hk) (by omega)⟩
def walkA (tb : Nat → Nat) (n : Nat) : TRs WU := wkA tb n 13 w0U 0
theorem r_walkG {tb : Nat → Nat} {n t : Nat} {M : Mem} (hn : n ≤ 60) (hnt : n ≤ t) (ht : t ≤ 600) (h1 : rd M 0 1 = nI t) (hT : ∀ i, i < t → rd M 1 i = nI (tb i) ∧ tb i < 256) : P_12_walk_0 (nI n) M ∧ ∃ M1, Kp (fun c j => rB0 c j ∨ rK c j) M M1 ∧ rd M1 0 0 = 0 ∧ rd M1 0 1 = 0 ∧ RKe (walkA tb n) M1 (F_12_walk_0 (nI n) M) := by
  have K0 : Kp rB0 M (wr M 0 0 0) := Kp.rf.w (Or.inl ⟨rfl, rfl⟩)
  have a1 : rd (wr M 0 0 0) 0 1 = nI t := by rw [rd_i (by decide)]; exact h1
  have a0 : rd (wr M 0 0 0) 0 0 = 0 := rd_s _ _ _ _
  have aT : ∀ i, i < n → rd (wr M 0 0 0) 1 i = nI (tb i) ∧ tb i < 256 := fun i hi => by rw [rd_c (by decide)]; exact hT i (by omega)
  have e60 : nI n ≤ 60 := (nI_leI (b := 60) (by omega) (by omega)).mpr hn
  rw [P_12_walk_0, F_12_walk_0, a1, r_in1 hnt ht, if_neg one_ne, if_pos e60]
  generalize wr M 0 0 0 = M0 at *
  obtain ⟨b1, b2⟩ := r_bad0 (x := 1) (y := 1) a0
  obtain ⟨c1, M1, c2, c3, c4, c5, c6, c7, c8⟩ := r_starts (tb := tb) (n := n) (by omega) aT
  obtain ⟨M2, x, d1, d2, d3, d4⟩ := r_wk (tb := tb) (n := n) 13 0 w0U M1 c3 (Nat.zero_le _) ⟨WW0, fun i hi => absurd (show i < 0 from hi) (by omega)⟩ rfl (by omega)
  obtain ⟨f1, f2⟩ := r_wk128 d3
  have g1 : P_12_walk_46 FU 0 M1 := d1 f1 FU (by unfold FU; omega)
  have g2 : F_12_walk_46 FU 0 M1 = F_12_walk_128 x M2 := d2 FU (by unfold FU; omega)
  rw [P_12_walk_29, F_12_walk_29, b2, P_12_walk_34, F_12_walk_34, if_pos rfl, c2, P_12_walk_44, F_12_walk_44, g2]
  have z0 : rd M1 0 0 = 0 := by rw [c8.g (by unfold rBg; omega)]; exact a0
  refine ⟨⟨fun z => absurd z one_ne, fun _ => ⟨fun _ => ⟨b1, fun _ => ⟨c1, g1⟩, fun z => absurd rfl z⟩, fun z => absurd e60 z⟩⟩, M2, ((K0.mono (fun c j z => Or.inl z)).tr (c8.mono (fun c j z => Or.inl (Or.inr z)))).tr (d4.mono (fun c j z => Or.inr z)), ?_, ?_, f2⟩
  · rw [d4.g (by unfold rK; omega)]; exact z0
  · rw [d4.g (by unfold rK; omega)]; exact c4
def CKe (o : TRs WU) (M : Mem) (z : Oc) : Prop := match o with
  | .inl e => ∃ M', z = .inl (some (.int (nI e.1 - 10)), M') ∧ rd M' 1558 2 = nI e.2 ∧ Kp (fun c j => ((c = 1560 ∧ 2 ≤ j ∧ j ≤ 7) ∨ c = 1594) ∨ (c = 1558 ∧ j = 2)) M M'
  | .inr w => ∃ M', z = .inl (some (.int (nI w.1)), M') ∧ rd M' 1558 2 = -1 ∧ CK w M' ∧ Kp (fun c j => cK c j ∨ (c = 1558 ∧ j = 2)) M M'
theorem c_walkG {tb : Nat → Nat} {n t : Nat} {M : Mem} (hn : n ≤ 60) (hnt : n ≤ t) (ht : t ≤ 600) (h1 : rd M 1558 1 = nI t) (hT : ∀ i, i < t → rd M 1559 i &&& 255 = nI (tb i) ∧ (rd M 1559 i = 32 ↔ tb i = 32) ∧ tb i < 256) : P_11_walk_0 (nI n) M ∧ ∃ M1, Kp cTk M M1 ∧ rd M1 1558 1 = 0 ∧ CKe (walkA tb n) M1 (F_11_walk_0 (nI n) M) := by
  have e0 : (0 : Int32) ≤ nI n := (nI_leI (a := 0) (by omega) (by omega)).mpr (Nat.zero_le _)
  have e60 : nI n ≤ 60 := (nI_leI (b := 60) (by omega) (by omega)).mpr hn
  have et : nI n ≤ nI t := (nI_leI (by omega) (by omega)).mpr hnt
  have cond : 0 ≤ nI n ∧ nI n ≤ (if nI t < 60 then nI t else 60) := by
    refine ⟨e0, ?_⟩
    split
    · exact et
    · exact e60
  rw [P_11_walk_0, F_11_walk_0, h1, if_pos cond]
  obtain ⟨M1, a1, a2, a3, a4, a5⟩ := c_take (tb := tb) (n := n) (M := M) (by omega) (fun i hi => hT i (by omega))
  rw [a1]
  obtain ⟨b1, b2⟩ := c_wk (tb := tb) (n := n) (M0 := M1) 13 0 w0U M1 a2 ⟨WW0, fun i hi => absurd (show i < 0 from hi) (by omega)⟩ rfl (by omega) Kp.rf FU (by unfold FU; omega)
  have b1' : P_9_read_0 M1 := b1
  have b2' : CWk (walkA tb n) M1 (F_9_read_0 M1) := b2
  rw [P_11_walk_12, F_11_walk_12]
  refine ⟨fun _ => b1', M1, a5, a3, ?_⟩
  generalize F_9_read_0 M1 = z at *
  obtain ⟨x, M2⟩ := z
  rw [F_11_walk_23]
  cases o : walkA tb n with
  | inl e =>
    rw [o] at b2'
    obtain ⟨c1, c2, c3⟩ : x = 0 ∧ CErr e M2 ∧ Kp (fun c j => (c = 1560 ∧ 2 ≤ j ∧ j ≤ 7) ∨ c = 1594) M1 M2 := b2'
    rw [if_pos c1, c_fot c2, F_11_walk_30]
    exact ⟨_, rfl, rd_s _ _ _ _, (c3.mono (fun c j z => Or.inl z)).w (Or.inr ⟨rfl, rfl⟩)⟩
  | inr w =>
    rw [o] at b2'
    obtain ⟨c1, c2, c3⟩ : x = 1 ∧ CK w M2 ∧ Kp cK M1 M2 := b2'
    have e7 : rd (wr M2 1558 2 (-1)) 1592 7 = nI w.1 := by rw [rd_c (by decide)]; exact c2.2.1
    rw [if_neg (x1 c1), e7]
    exact ⟨_, rfl, rd_s _ _ _ _, ⟨c2.1, e7, fun i hi => by rw [rd_c (by decide)]; exact c2.2.2 i hi⟩, (c3.mono (fun c j z => Or.inl z)).w (Or.inr ⟨rfl, rfl⟩)⟩
