/-! MATHEMATICS 60: ranges -/
theorem nI_nn {x : Int32} (h : (0 : Int32) ≤ x) : ∃ n, n < 2 ^ 31 ∧ x = nI n := by
  have h1 : (0 : Int) ≤ x.toInt := by
    have := Int32.le_iff_toInt_le.mp h
    simpa using this
  have h2 : x.toInt < 2 ^ 31 := Int32.toInt_lt x
  refine ⟨x.toInt.toNat, by omega, ?_⟩
  apply Int32.toInt_inj.mp
  have : (nI x.toInt.toNat).toInt = (x.toInt.toNat : Int) := by
    unfold nI
    exact Int32.toInt_ofNat_of_lt (by omega)
  rw [this]
  omega
/-- a call's length is in range on both sides, or out of it on both -/
theorem rng {x : Int32} {t B : Nat} (ht : t ≤ 600) (hB : B ≤ 600) {M : Mem} : (∃ n, x = nI n ∧ n ≤ t ∧ n ≤ B) ∨ ((F_12_in_0 M x 0 (nI t) = 0 ∨ ¬ x ≤ nI B) ∧ ¬ (0 ≤ x ∧ x ≤ (if nI t < nI B then nI t else nI B))) := by
  by_cases h0 : (0 : Int32) ≤ x
  · obtain ⟨n, hn, rfl⟩ := nI_nn h0
    by_cases h1 : n ≤ t
    · by_cases h2 : n ≤ B
      · exact Or.inl ⟨n, rfl, h1, h2⟩
      · have e2 : ¬ nI n ≤ nI B := by rw [nI_leI hn (by omega)]; exact h2
        refine Or.inr ⟨Or.inr e2, fun z => ?_⟩
        have z2 := z.2
        split at z2
        · next hlt =>
          rw [nI_ltI (by omega) (by omega)] at hlt
          omega
        · exact e2 z2
    · have e1 : nI t < nI n := by rw [nI_ltI (by omega) hn]; omega
      have e3 : ¬ nI n ≤ nI t := by rw [nI_leI hn (by omega)]; exact h1
      refine Or.inr ⟨Or.inl ?_, fun z => ?_⟩
      · rw [F_12_in_0, if_neg (nI_pos hn), if_pos e1]; rfl
      · have z2 := z.2
        split at z2
        · exact e3 z2
        · next hge =>
          rw [nI_ltI (by omega) (by omega)] at hge
          rw [nI_leI hn (by omega)] at z2
          omega
  · refine Or.inr ⟨Or.inl ?_, fun z => h0 z.1⟩
    have : x < 0 := Int32.not_le.mp h0
    rw [F_12_in_0, if_pos this]; rfl
