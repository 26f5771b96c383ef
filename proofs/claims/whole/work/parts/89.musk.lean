/-! MATHEMATICS 59: the call museum in the class -/
def cAn (c j : Nat) : Prop := (c = 1558 ∧ (j = 2 ∨ j = 5 ∨ j = 14)) ∨ cCp c j ∨ cBg c j ∨ (c = 1614 ∧ j = 2) ∨ (c = 1583 ∧ j = 3) ∨ (c = 1584 ∧ j = 0) ∨ (c = 1592 ∧ j = 7)
def CMe (o : TRs DU) (M : Mem) (z : Oc) : Prop := match o with
  | .inl e => ∃ M', z = .inl (some (.int (nI e.1 - 10)), M') ∧ rd M' 1558 2 = nI e.2 ∧ Kp (fun c j => c = 1558 ∧ j = 2) M M'
  | .inr d => ∃ M', z = .inl (some (.int (nI (uN d.1))), M') ∧ CV d.1 (s0U d) [-1] M' ∧ rd M' 1592 7 = 0 ∧ rd M' 1614 2 = 0 ∧ rd M' 1558 2 = -1 ∧ rd M' 1558 14 = 0 ∧ rd M' 1558 5 = 0 ∧ (∀ t, t < uT d.1 → rd M' 1571 t = nI (d.2 t)) ∧ Kp cAn M M'
theorem c_clearK {M : Mem} : Kp (fun c _ => 1572 ≤ c ∧ c ≤ 1582) M (F_4_clear_0 M) := by
  have loop : ∀ (f : Nat) (x : Int32) (q : Mem), Kp (fun c _ => 1572 ≤ c ∧ c ≤ 1582) M q → Kp (fun c _ => 1572 ≤ c ∧ c ≤ 1582) M (F_4_clear_22 f x q) := by
    intro f
    induction f with
    | zero => intro x q h; exact h
    | succ f ih =>
      intro x q h
      rw [F_4_clear_22]
      split
      · exact h
      · exact ih _ _ (h.w (by omega))
  rw [F_4_clear_0]
  exact loop _ _ _ ((((Kp.rf.w (by omega)).w (by omega)).w (by omega)).w (by omega))
theorem c_musG {tb : Nat → Nat} {n t : Nat} {M : Mem} (hnt : n ≤ t) (ht : t ≤ 600) (h1 : rd M 1558 1 = nI t) (hT : ∀ i, i < t → rd M 1559 i &&& 255 = nI (tb i) ∧ (rd M 1559 i = 32 ↔ tb i = 32) ∧ tb i < 256) : P_11_museum_0 (nI n) M ∧ ∃ M1, Kp (fun c j => cTk c j ∨ cD c j) M M1 ∧ rd M1 1558 1 = 0 ∧ CMe (musT tb n) M1 (F_11_museum_0 (nI n) M) := by
  have e0 : (0 : Int32) ≤ nI n := (nI_leI (a := 0) (by omega) (by omega)).mpr (Nat.zero_le _)
  have e600 : nI n ≤ 600 := (nI_leI (b := 600) (by omega) (by omega)).mpr (by omega)
  have et : nI n ≤ nI t := (nI_leI (by omega) (by omega)).mpr hnt
  have cond : 0 ≤ nI n ∧ nI n ≤ (if nI t < 600 then nI t else 600) := by
    refine ⟨e0, ?_⟩
    split
    · exact et
    · exact e600
  rw [P_11_museum_0, F_11_museum_0, h1, if_pos cond]
  obtain ⟨M1, a1, a2, a3, a4, a5⟩ := c_take (tb := tb) (n := n) (M := M) (by omega) (fun i hi => hT i (by omega))
  rw [a1]
  obtain ⟨b1, M2, b2, b3, b4⟩ := c_clear (M := M1)
  have T2 : CT tb n 0 M2 := by
    have k : Kp (fun c _ => 1572 ≤ c ∧ c ≤ 1582) M1 M2 := by
      rw [← b2]
      exact c_clearK
    exact a2.d k
  obtain ⟨c1, c2, c3⟩ := c_mus (tb := tb) (n := n) 61 0 0 d0U M2 T2 b3 (by omega) (by omega) FU (by unfold FU; omega)
  have c1' : P_4_read_6 FU 0 M2 := c1
  have eF : F_4_read_6 FU (nI 0) M2 = F_4_read_6 FU 0 M2 := rfl
  rw [eF] at c2 c3
  rw [P_11_museum_13, F_11_museum_13, P_4_read_0, F_4_read_0, b2, P_4_read_4, F_4_read_4]
  have K3 : Kp (fun c j => cTk c j ∨ cD c j) M (F_4_read_6 FU 0 M2).2 := ((a5.mono (fun c j z => Or.inl z)).tr (b4.mono (fun c j z => Or.inr z))).tr (c3.mono (fun c j z => Or.inr z))
  have s3 : rd (F_4_read_6 FU 0 M2).2 1558 1 = 0 := by rw [c3.g (by unfold cD; omega), b4.g (by unfold cD; omega)]; exact a3
  have c2' : CMs (musT tb n) (F_4_read_6 FU 0 M2) := c2
  generalize F_4_read_6 FU 0 M2 = z at *
  obtain ⟨x, M3⟩ := z
  suffices hs : P_11_museum_24 x M3 ∧ CMe (musT tb n) M3 (F_11_museum_24 x M3) from ⟨fun _ => ⟨⟨b1, c1'⟩, hs.1⟩, M3, K3, s3, hs.2⟩
  rw [P_11_museum_24, F_11_museum_24]
  cases o : musT tb n with
  | inl e =>
    rw [o] at c2'
    obtain ⟨d1, d2⟩ : x = 0 ∧ CErr e M3 := c2'
    rw [if_pos d1, c_fot d2, F_11_museum_31]
    exact ⟨⟨fun z => absurd d1 z, fun _ => trivial⟩, _, rfl, rd_s _ _ _ _, Kp.rf.w ⟨rfl, rfl⟩⟩
  | inr d =>
    rw [o] at c2'
    obtain ⟨d1, d2⟩ : x = 1 ∧ CD d M3 := c2'
    obtain ⟨f1, f2⟩ := c_anew d2
    rw [if_neg (x1 d1)]
    exact ⟨⟨fun _ => f1, fun z => absurd z (x1 d1)⟩, f2⟩
