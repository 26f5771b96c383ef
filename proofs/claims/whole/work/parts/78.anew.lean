/-! MATHEMATICS 48: a museum taken, in the reference -/
def rAn (c j : Nat) : Prop := (c = 0 ∧ (j = 21 ∨ j = 35 ∨ j = 36 ∨ j = 37 ∨ j = 38)) ∨ c = 4 ∨ c = 6 ∨ c = 8 ∨ c = 10 ∨ c = 20 ∨ (54 ≤ c ∧ c < 78)
def s0U (d : DU) : SU := (0, 0, fun _ => false, fun _ => 0, d.2)
def anQ (d : DU) (M : Mem) (a : Mem) : Prop := ∃ M', a = M' ∧ RP d.1 M' ∧ RR d.1 (s0U d) (rd M' 20) ∧ (∀ t, t < uT d.1 → rd M' 10 t = nI (d.2 t)) ∧ rd M' 0 21 = 0 ∧ rd M' 0 35 = 0 ∧ rd M' 0 36 = 0 ∧ rd M' 0 37 = 0 ∧ rd M' 0 38 = 0 ∧ Kp rAn M M'
def an4 (M q : Mem) : Prop := ∀ j, j < 4 → rd q 4 j = rd M 3 j
def an10 (M q : Mem) : Prop := ∀ j, j < 10 → rd q 6 j = rd M 5 j ∧ rd q 8 j = rd M 7 j
def anD (d : DU) (M q : Mem) : Prop := ∀ a j, a < uM d.1 → j < 4 → rd q (54 + a) j = rd M (30 + a) j
theorem an_end {d : DU} {M q : Mem} (hd : RD d M) (hK : Kp rAn M q) (h4 : an4 M q) (h10 : an10 M q) (hD : anD d M q) (h20 : ∀ x, x < 56 → rd q 20 x = if x < uT d.1 then nI (d.2 x) else 0) (ht : ∀ t, t < uT d.1 → rd q 10 t = nI (d.2 t)) : anQ d M (wr (wr (wr (wr (wr q 0 21 0) 0 35 0) 0 36 0) 0 37 0) 0 38 0) := by
  have g : ∀ c j, c ≠ 0 → rd (wr (wr (wr (wr (wr q 0 21 0) 0 35 0) 0 36 0) 0 37 0) 0 38 0) c j = rd q c j := fun c j h => by rw [rd_c h, rd_c h, rd_c h, rd_c h, rd_c h]
  obtain ⟨i0, i1, i2, i3, i4, i5, i6, i7, i8⟩ := hd
  have hW := i0.1
  have hT := hW.2.2.1
  have hMd := hW.2.1
  refine ⟨_, rfl, ⟨hW, ?_, ?_, ?_, ?_, fun e he => ?_, fun r hr => ?_⟩, ⟨⟨by show (0 : Nat) ≤ 960; omega, fun t ht => i0.2 t ht⟩, fun t h => ?_, fun e he => ?_, fun e he => ?_, ?_, ?_⟩, fun t h => ?_, ?_, ?_, ?_, ?_, ?_, ((((hK.w (Or.inl ⟨rfl, by omega⟩)).w (Or.inl ⟨rfl, by omega⟩)).w (Or.inl ⟨rfl, by omega⟩)).w (Or.inl ⟨rfl, by omega⟩)).w (Or.inl ⟨rfl, by omega⟩)⟩
  · rw [g 4 0 (by decide), h4 0 (by omega)]; exact i1
  · rw [g 4 1 (by decide), h4 1 (by omega)]; exact i2
  · rw [g 4 2 (by decide), h4 2 (by omega)]; exact i3
  · rw [g 4 3 (by decide), h4 3 (by omega)]; exact i4
  · rw [g (54 + e) 0 (by omega), g (54 + e) 1 (by omega), g (54 + e) 2 (by omega), g (54 + e) 3 (by omega), hD e 0 he (by omega), hD e 1 he (by omega), hD e 2 he (by omega), hD e 3 he (by omega)]
    exact i5 e he
  · rw [g 6 r (by decide), g 8 r (by decide), (h10 r (by have := hW.1; omega)).1, (h10 r (by have := hW.1; omega)).2]
    exact i6 r hr
  · rw [g 20 t (by decide), h20 t (by omega), if_pos h]; rfl
  · rw [g 20 (6 + e) (by decide), h20 (6 + e) (by omega), if_neg (by omega)]; rfl
  · rw [g 20 (30 + e) (by decide), h20 (30 + e) (by omega), if_neg (by omega)]; rfl
  · rw [g 20 54 (by decide), h20 54 (by omega), if_neg (by omega)]; rfl
  · rw [g 20 55 (by decide), h20 55 (by omega), if_neg (by omega)]; rfl
  · rw [g 10 t (by decide)]; exact ht t h
  · simp [rd_wr]
  · simp [rd_wr]
  · simp [rd_wr]
  · simp [rd_wr]
  · exact rd_s _ _ _ _
theorem r_an103 {d : DU} {M M1 : Mem} (hd : RD d M) (hK : Kp rAn M M1) (h4 : an4 M M1) (h10 : an10 M M1) (hD : anD d M M1) (h20 : ∀ x, x < 56 → rd M1 20 x = 0) : P_12_beginsAnew_103 FU (nI 0) M1 ∧ anQ d M (F_12_beginsAnew_103 FU (nI 0) M1) := by
  have hW := hd.1.1
  have hT := hW.2.2.1
  have eT : ∀ i, i ≤ uT d.1 → ((nI (uT d.1) ≤ nI i) ↔ uT d.1 ≤ i) := fun i hi => nI_leI (by omega) (by omega)
  refine lq (S := Mem) (F := fun n i q => F_12_beginsAnew_103 n i q) (P := fun n i q => P_12_beginsAnew_103 n i q) (Q := anQ d M) (uT d.1) (fun i q => Kp rAn M q ∧ an4 M q ∧ an10 M q ∧ anD d M q ∧ (∀ x, x < 56 → rd q 20 x = if x < i then nI (d.2 x) else 0) ∧ (∀ t, t < i → rd q 10 t = nI (d.2 t))) ?_ ?_ FU 0 M1 ⟨hK, h4, h10, hD, fun x hx => by rw [h20 x hx, if_neg (by omega)], fun t h => by omega⟩ (Nat.zero_le _) (FU_ge (by omega))
  · intro n i q hi hI ih
    obtain ⟨k1, k4, k10, kD, k20, kt⟩ := hI
    have e42 : rd q 4 2 = nI (uT d.1) := by rw [k4 2 (by omega)]; exact hd.2.2.2.1
    have e9 : rd q 9 i = nI (d.2 i) := by rw [k1.g (by unfold rAn; omega)]; exact hd.2.2.2.2.2.2.2.2 i hi
    have e10 : rd (wr q 10 i (nI (d.2 i))) 10 i = nI (d.2 i) := rd_s _ _ _ _
    have z0 : (0 : Int32) + nI i = nI i := by rw [show (0 : Int32) = nI 0 from rfl, nI_add, Nat.zero_add]
    have v1 : vp_in (nI i) 6 := (vp_iff (by omega)).mpr (by omega)
    have v2 : vp_in (nI i) 56 := (vp_iff (by omega)).mpr (by omega)
    have c1 : ¬ uT d.1 ≤ i := by omega
    have g : ∀ c j, c ≠ 10 → c ≠ 20 → rd (wr (wr q 10 i (nI (d.2 i))) 20 i (nI (d.2 i))) c j = rd q c j := fun c j a b => by rw [rd_c b, rd_c a]
    have hg := ih (wr (wr q 10 i (nI (d.2 i))) 20 i (nI (d.2 i))) ⟨(k1.w (by unfold rAn; omega)).w (by unfold rAn; omega), fun j hj => by rw [g 4 j (by decide) (by decide)]; exact k4 j hj, fun j hj => by rw [g 6 j (by decide) (by decide), g 8 j (by decide) (by decide)]; exact k10 j hj, fun a j ha hj => by rw [g (54 + a) j (by omega) (by omega)]; exact kD a j ha hj, fun x hx => by
        by_cases e : x = i
        · rw [e, rd_s, if_pos (by omega)]
        · rw [rd_i e, rd_c (by decide), k20 x hx]
          by_cases e2 : x < i
          · rw [if_pos e2, if_pos (by omega)]
          · rw [if_neg e2, if_neg (by omega)], fun t ht => by
        rw [rd_c (by decide)]
        by_cases e : t = i
        · rw [e, rd_s]
        · rw [rd_i e]; exact kt t (by omega)⟩
    rw [P_12_beginsAnew_103, F_12_beginsAnew_103, cl2, e42, z0, nI_clamp (n := i) (by omega), e9, e10]
    simp only [eT i (by omega), c1, v1, v2, if_true, if_false, true_imp_iff, false_imp_iff, not_true_eq_false, not_false_eq_true, true_and, and_true, implies_true, reduceIte]
    exact hg
  · intro n q hI
    obtain ⟨k1, k4, k10, kD, k20, kt⟩ := hI
    have e42 : rd q 4 2 = nI (uT d.1) := by rw [k4 2 (by omega)]; exact hd.2.2.2.1
    rw [P_12_beginsAnew_103, F_12_beginsAnew_103, cl2, e42]
    simp only [eT (uT d.1) (by omega), Nat.le_refl, if_true, if_false, true_imp_iff, false_imp_iff, not_true_eq_false, not_false_eq_true, true_and, and_true, implies_true, reduceIte]
    exact an_end hd k1 k4 k10 kD k20 kt
theorem r_an80 {d : DU} {M M1 : Mem} (hd : RD d M) (hK : Kp rAn M M1) (h4 : an4 M M1) (h10 : an10 M M1) (hD : anD d M M1) : P_12_beginsAnew_80 M1 ∧ anQ d M (F_12_beginsAnew_80 M1) := by
  rw [P_12_beginsAnew_80, F_12_beginsAnew_80]
  have e56 : ∀ i, i ≤ 56 → (((56 : Int32) ≤ nI i) ↔ 56 ≤ i) := fun i hi => nI_leI (a := 56) (by omega) (by omega)
  refine lq (S := Mem) (F := fun n i q => F_12_beginsAnew_82 n i q) (P := fun n i q => P_12_beginsAnew_82 n i q) (Q := anQ d M) (56) (fun i q => Kp rAn M q ∧ an4 M q ∧ an10 M q ∧ anD d M q ∧ (∀ x, x < i → rd q 20 x = 0)) ?_ ?_ FU 0 M1 ⟨hK, h4, h10, hD, fun t h => by omega⟩ (Nat.zero_le _) (FU_ge (by omega))
  · intro n i q hi hI ih
    obtain ⟨k1, k4, k10, kD, k20⟩ := hI
    have v1 : vp_in (nI i) 56 := (vp_iff (by omega)).mpr (by omega)
    have c1 : ¬ 56 ≤ i := by omega
    have g : ∀ c j, c ≠ 20 → rd (wr q 20 i 0) c j = rd q c j := fun c j b => rd_c b
    have hg := ih (wr q 20 i 0) ⟨k1.w (by unfold rAn; omega), fun j hj => by rw [g 4 j (by decide)]; exact k4 j hj, fun j hj => by rw [g 6 j (by decide), g 8 j (by decide)]; exact k10 j hj, fun a j ha hj => by have := hd.1.1.2.1; rw [g (54 + a) j (by omega)]; exact kD a j ha hj, fun x hx => by
        by_cases e : x = i
        · rw [e, rd_s]
        · rw [rd_i e]; exact k20 x (by omega)⟩
    rw [P_12_beginsAnew_82, F_12_beginsAnew_82, nI_clamp (n := i) (by omega)]
    simp only [e56 i (by omega), c1, v1, if_true, if_false, true_imp_iff, false_imp_iff, not_true_eq_false, not_false_eq_true, true_and, and_true, implies_true, reduceIte]
    exact hg
  · intro n q hI
    obtain ⟨k1, k4, k10, kD, k20⟩ := hI
    rw [P_12_beginsAnew_82, F_12_beginsAnew_82]
    simp only [e56 56 (by omega), Nat.le_refl, if_true, if_false, true_imp_iff, false_imp_iff, not_true_eq_false, not_false_eq_true, true_and, and_true, implies_true, reduceIte]
    exact r_an103 hd k1 k4 k10 kD k20
theorem r_laysa {len : Nat} (hl : len ≤ 24) {M : Mem} : P_12_laysa_0 (nI len) M ∧ ∃ M', F_12_laysa_0 (nI len) M = M' ∧ (∀ i j, i < len → j < 4 → rd M' (54 + i) j = rd M (30 + i) j) ∧ Kp (fun c _ => 54 ≤ c ∧ c < 78) M M' := by
  rw [P_12_laysa_0, F_12_laysa_0]
  have eL : ∀ i, i ≤ len → ((nI len ≤ nI i) ↔ len ≤ i) := fun i hi => nI_leI (by omega) (by omega)
  have e2 : ∀ i, i ≤ 4 → (((4 : Int32) ≤ nI i) ↔ 4 ≤ i) := fun i hi => nI_leI (a := 4) (by omega) (by omega)
  refine lq (S := Mem) (F := fun n i q => F_12_laysa_2 n (nI len) i q) (P := fun n i q => P_12_laysa_2 n (nI len) i q) (Q := fun a => ∃ M', a = M' ∧ (∀ i j, i < len → j < 4 → rd M' (54 + i) j = rd M (30 + i) j) ∧ Kp (fun c _ => 54 ≤ c ∧ c < 78) M M') (len) (fun i q => Kp (fun c _ => 54 ≤ c ∧ c < 78) M q ∧ ∀ a j, a < i → j < 4 → rd q (54 + a) j = rd M (30 + a) j) ?_ ?_ FU 0 M ⟨Kp.rf, fun a j h => by omega⟩ (Nat.zero_le _) (FU_ge (by omega))
  · intro n i q hi hI ih
    have c1 : ¬ len ≤ i := by omega
    have vi : vp_in (nI i) 24 := (vp_iff (by omega)).mpr (by omega)
    rw [P_12_laysa_2, F_12_laysa_2]
    simp only [eL i (by omega), c1, if_true, if_false, true_imp_iff, false_imp_iff, not_true_eq_false, not_false_eq_true, true_and, and_true, implies_true, reduceIte]
    refine lq (S := Mem) (F := fun m j q => F_12_laysa_10 (F_12_laysa_2 n) m (nI len) (nI i) j q) (P := fun m j q => P_12_laysa_10 (P_12_laysa_2 n) m (nI len) (nI i) j q) (Q := fun a => ∃ M', a = M' ∧ (∀ i j, i < len → j < 4 → rd M' (54 + i) j = rd M (30 + i) j) ∧ Kp (fun c _ => 54 ≤ c ∧ c < 78) M M') 4 (fun j q => Kp (fun c _ => 54 ≤ c ∧ c < 78) M q ∧ (∀ a b, a < i → b < 4 → rd q (54 + a) b = rd M (30 + a) b) ∧ ∀ b, b < j → rd q (54 + i) b = rd M (30 + i) b) ?_ ?_ FU 0 q ⟨hI.1, hI.2, fun b h => by omega⟩ (Nat.zero_le _) (FU_ge (by omega))
    · intro m j q hj hJ ih2
      have c2 : ¬ 4 ≤ j := by omega
      have vj : vp_in (nI j) 4 := (vp_iff (by omega)).mpr hj
      have hg := ih2 (wr q (54 + i) j (rd q (30 + i) j)) ⟨hJ.1.w ⟨by omega, by omega⟩, fun a b ha hb => by rw [rd_c (by omega)]; exact hJ.2.1 a b ha hb, fun b hb => by
        by_cases e : b = j
        · rw [e, rd_s, hJ.1.g (by omega)]
        · rw [rd_i e]; exact hJ.2.2 b (by omega)⟩
      try dsimp only
      rw [P_12_laysa_10, F_12_laysa_10, nI_clamp (n := i) (by omega), nI_clamp (n := j) (by omega)]
      simp only [e2 j (by omega), c2, vi, vj, if_true, if_false, true_imp_iff, false_imp_iff, not_true_eq_false, not_false_eq_true, true_and, and_true, implies_true, reduceIte]
      exact hg
    · intro m q hJ
      have hg := ih q ⟨hJ.1, fun a j ha hj => by
        by_cases e : a = i
        · rw [e]; exact hJ.2.2 j hj
        · exact hJ.2.1 a j (by omega) hj⟩
      try dsimp only
      rw [P_12_laysa_10, F_12_laysa_10]
      simp only [e2 4 (by omega), Nat.le_refl, vi, if_true, if_false, true_imp_iff, false_imp_iff, not_true_eq_false, not_false_eq_true, true_and, and_true, implies_true, reduceIte]
      exact hg
  · intro n q hI
    rw [P_12_laysa_2, F_12_laysa_2]
    simp only [eL len (by omega), Nat.le_refl, if_true, if_false, true_imp_iff, false_imp_iff, not_true_eq_false, not_false_eq_true, true_and, and_true, implies_true, reduceIte]
    exact ⟨q, rfl, fun a j ha hj => hI.2 a j ha hj, hI.1⟩
theorem r_an27 {d : DU} {M M1 : Mem} (hd : RD d M) (hK : Kp rAn M M1) (h4 : an4 M M1) : P_12_beginsAnew_27 FU (nI 0) M1 ∧ anQ d M (F_12_beginsAnew_27 FU (nI 0) M1) := by
  have e10 : ∀ i, i ≤ 10 → (((10 : Int32) ≤ nI i) ↔ 10 ≤ i) := fun i hi => nI_leI (a := 10) (by omega) (by omega)
  have hM := hd.1.1.2.1
  refine lq (S := Mem) (F := fun n i q => F_12_beginsAnew_27 n i q) (P := fun n i q => P_12_beginsAnew_27 n i q) (Q := anQ d M) (10) (fun i q => Kp rAn M q ∧ an4 M q ∧ (∀ j, j < i → rd q 6 j = rd M 5 j ∧ rd q 8 j = rd M 7 j)) ?_ ?_ FU 0 M1 ⟨hK, h4, fun t h => by omega⟩ (Nat.zero_le _) (FU_ge (by omega))
  · intro n i q hi hI ih
    obtain ⟨k1, k4, k10⟩ := hI
    have v1 : vp_in (nI i) 10 := (vp_iff (by omega)).mpr (by omega)
    have c1 : ¬ 10 ≤ i := by omega
    have e5 : rd q 5 i = rd M 5 i := k1.g (by unfold rAn; omega)
    have e7 : rd (wr q 6 i (rd M 5 i)) 7 i = rd M 7 i := by rw [rd_c (by decide)]; exact k1.g (by unfold rAn; omega)
    have g : ∀ c j, c ≠ 6 → c ≠ 8 → rd (wr (wr q 6 i (rd M 5 i)) 8 i (rd M 7 i)) c j = rd q c j := fun c j a b => by rw [rd_c b, rd_c a]
    have hg := ih (wr (wr q 6 i (rd M 5 i)) 8 i (rd M 7 i)) ⟨(k1.w (by unfold rAn; omega)).w (by unfold rAn; omega), fun j hj => by rw [g 4 j (by decide) (by decide)]; exact k4 j hj, fun j hj => by
        rw [rd_c (by decide)]
        by_cases e : j = i
        · rw [e, rd_s, rd_s]; exact ⟨rfl, rfl⟩
        · rw [rd_i e, rd_i e, rd_c (by decide)]; exact k10 j (by omega)⟩
    rw [P_12_beginsAnew_27, F_12_beginsAnew_27, nI_clamp (n := i) (by omega), e5, e7]
    simp only [e10 i (by omega), c1, v1, if_true, if_false, true_imp_iff, false_imp_iff, not_true_eq_false, not_false_eq_true, true_and, and_true, implies_true, reduceIte]
    exact hg
  · intro n q hI
    obtain ⟨k1, k4, k10⟩ := hI
    have e41 : rd q 4 1 = nI (uM d.1) := by rw [k4 1 (by omega)]; exact hd.2.2.1
    obtain ⟨f1, M2, f2, f3, f4⟩ := r_laysa (M := q) hM
    have K2 : Kp rAn M M2 := k1.tr (f4.mono (fun c j z => by unfold rAn; omega))
    obtain ⟨z1, z2⟩ := r_an80 (M1 := M2) hd K2 (fun j hj => by rw [f4.g (by omega)]; exact k4 j hj) (fun j hj => by rw [f4.g (by omega), f4.g (by omega)]; exact k10 j hj) (fun a j ha hj => by rw [f3 a j ha hj]; exact k1.g (by unfold rAn; omega))
    rw [P_12_beginsAnew_27, F_12_beginsAnew_27, cl1, e41, f2]
    simp only [e10 10 (by omega), Nat.le_refl, f1, if_true, if_false, true_imp_iff, false_imp_iff, not_true_eq_false, not_false_eq_true, true_and, and_true, implies_true, reduceIte]
    exact ⟨z1, z2⟩
theorem r_anew {d : DU} {M : Mem} (hd : RD d M) : P_12_beginsAnew_0 M ∧ anQ d M (F_12_beginsAnew_0 M) := by
  rw [P_12_beginsAnew_0, F_12_beginsAnew_0]
  have e4 : ∀ i, i ≤ 4 → (((4 : Int32) ≤ nI i) ↔ 4 ≤ i) := fun i hi => nI_leI (a := 4) (by omega) (by omega)
  refine lq (S := Mem) (F := fun n i q => F_12_beginsAnew_2 n i q) (P := fun n i q => P_12_beginsAnew_2 n i q) (Q := anQ d M) (4) (fun i q => Kp rAn M q ∧ (∀ j, j < i → rd q 4 j = rd M 3 j)) ?_ ?_ FU 0 M ⟨Kp.rf, fun t h => by omega⟩ (Nat.zero_le _) (FU_ge (by omega))
  · intro n i q hi hI ih
    obtain ⟨k1, k4⟩ := hI
    have v1 : vp_in (nI i) 4 := (vp_iff (by omega)).mpr (by omega)
    have c1 : ¬ 4 ≤ i := by omega
    have e3 : rd q 3 i = rd M 3 i := k1.g (by unfold rAn; omega)
    have hg := ih (wr q 4 i (rd M 3 i)) ⟨k1.w (by unfold rAn; omega), fun j hj => by
        by_cases e : j = i
        · rw [e, rd_s]
        · rw [rd_i e]; exact k4 j (by omega)⟩
    rw [P_12_beginsAnew_2, F_12_beginsAnew_2, nI_clamp (n := i) (by omega), e3]
    simp only [e4 i (by omega), c1, v1, if_true, if_false, true_imp_iff, false_imp_iff, not_true_eq_false, not_false_eq_true, true_and, and_true, implies_true, reduceIte]
    exact hg
  · intro n q hI
    rw [P_12_beginsAnew_2, F_12_beginsAnew_2]
    simp only [e4 4 (by omega), Nat.le_refl, if_true, if_false, true_imp_iff, false_imp_iff, not_true_eq_false, not_false_eq_true, true_and, and_true, implies_true, reduceIte]
    exact r_an27 hd hI.1 hI.2
