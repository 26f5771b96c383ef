/-! MATHEMATICS 54: the class takes a text; works' small steps on both sides -/
def cTk (c j : Nat) : Prop := (c = 1560 ∧ 1 ≤ j ∧ j ≤ 7) ∨ (c = 1558 ∧ j = 1)
theorem c_take {tb : Nat → Nat} {n : Nat} {M : Mem} (hn : n ≤ 600) (hT : ∀ i, i < n → rd M 1559 i &&& 255 = nI (tb i) ∧ (rd M 1559 i = 32 ↔ tb i = 32) ∧ tb i < 256) : ∃ M', F_11_takeTape_0 (nI n) M = M' ∧ CT tb n 0 M' ∧ rd M' 1558 1 = 0 ∧ rd M' 1560 7 = -1 ∧ Kp cTk M M' := by
  have e0 : (0 : Int32) ≤ nI n := (nI_leI (a := 0) (by omega) (by omega)).mpr (Nat.zero_le _)
  have e1 : ¬ (600 : Int32) < nI n := by
    show ¬ nI 600 < nI n
    rw [nI_ltI (by omega) (by omega)]
    omega
  rw [F_11_takeTape_0, F_11_takeTape_8, F_5_begin_0, if_pos e0, if_neg e1]
  have hK : Kp cTk M (wr (wr (wr (wr (wr (wr (wr (wr M 1560 1 (nI n)) 1560 2 0) 1560 3 0) 1560 4 0) 1560 5 0) 1560 6 0) 1560 7 (-1)) 1558 1 0) := (((((((Kp.rf.w (Or.inl ⟨rfl, by omega, by omega⟩)).w (Or.inl ⟨rfl, by omega, by omega⟩)).w (Or.inl ⟨rfl, by omega, by omega⟩)).w (Or.inl ⟨rfl, by omega, by omega⟩)).w (Or.inl ⟨rfl, by omega, by omega⟩)).w (Or.inl ⟨rfl, by omega, by omega⟩)).w (Or.inl ⟨rfl, by omega, by omega⟩)).w (Or.inr ⟨rfl, rfl⟩)
  refine ⟨_, rfl, ⟨⟨hn, ?_, fun i hi => ?_⟩, ?_, Nat.zero_le _⟩, rd_s _ _ _ _, ?_, hK⟩
  · simp [rd_wr]
  · rw [hK.g (by unfold cTk; omega)]
    exact hT i hi
  · simp [rd_wr]; rfl
  · simp [rd_wr]
theorem c_fot {M : Mem} {e : Nat × Nat} (h : CErr e M) : F_11_faultOfText_0 M = (nI e.1 - 10, wr M 1558 2 (nI e.2)) := by
  rw [F_11_faultOfText_0, h.2, rd_c (by decide), h.1]
