/-! MATHEMATICS 21: the reference's quiet; least terms -/
def rQ (c _ : Nat) : Prop := c = 28 ∨ c = 29
theorem gcd_loop {v W : Nat} {b : Nat} {w : Int32} {M : Mem} (hb : b < 10) (hW : W < 2 ^ 62) (hv : v < 2 ^ 62) (hl : rl M 28 b = lN v) : ∀ (k : Nat) (x y n : Nat), y < 2 ^ k → x < 2 ^ 62 → y < 2 ^ 62 → (0 < x ∨ 0 < y) → 2 * k + 1 < n → P_12_quiet_292 n (nI b) w (lN W) (lN x) (lN y) M ∧ F_12_quiet_292 n (nI b) w (lN W) (lN x) (lN y) M = (if w = 0 then lN (v / Nat.gcd x y) else lN (W / Nat.gcd x y), M) := by
  have vb : vp_in (nI b) 10 := (vp_iff (by omega)).mpr hb
  have stop : ∀ (x n : Nat), x < 2 ^ 62 → 0 < x → P_12_quiet_292 (n + 1) (nI b) w (lN W) (lN x) (lN 0) M ∧ F_12_quiet_292 (n + 1) (nI b) w (lN W) (lN x) (lN 0) M = (if w = 0 then lN (v / x) else lN (W / x), M) := by
    intro x n hx h0
    have e1 : lg_cmp (lN 0) 0 = 0 := (lg_cmp_eq _ _).mpr rfl
    have hne : ¬ lN x = 0 := fun z => by
      have := (pk_lEQ (a := x) (b := 0) (by omega) (by omega)).mp z; omega
    rw [P_12_quiet_292, F_12_quiet_292]
    simp only [e1, hne, vb, nI_clamp (n := b) (by omega), hl, pk_lDiv (a := v) (b := x) (by omega) h0 (by omega), pk_lDiv (a := W) (b := x) (by omega) h0 (by omega), implies_true, and_self, if_true, if_false, true_imp_iff, false_imp_iff, not_true_eq_false, not_false_eq_true, true_and, and_true, implies_true, reduceIte]
    by_cases c : w = 0 <;> simp [c]
  have step : ∀ (x y n : Nat), x < 2 ^ 62 → y < 2 ^ 62 → 0 < y → P_12_quiet_292 n (nI b) w (lN W) (lN y) (lN (x % y)) M ∧ F_12_quiet_292 n (nI b) w (lN W) (lN y) (lN (x % y)) M = (if w = 0 then lN (v / Nat.gcd y (x % y)) else lN (W / Nat.gcd y (x % y)), M) → P_12_quiet_292 (n + 1) (nI b) w (lN W) (lN x) (lN y) M ∧ F_12_quiet_292 (n + 1) (nI b) w (lN W) (lN x) (lN y) M = (if w = 0 then lN (v / Nat.gcd x y) else lN (W / Nat.gcd x y), M) := by
    intro x y n hx hy h0 h
    have hne : ¬ lN y = 0 := fun z => by
      have := (pk_lEQ (a := y) (b := 0) (by omega) (by omega)).mp z; omega
    have e1 : ¬ lg_cmp (lN y) 0 = 0 := fun z => hne ((lg_cmp_eq _ _).mp z)
    have eg : Nat.gcd y (x % y) = Nat.gcd x y := by rw [Nat.gcd_comm x y, Nat.gcd_rec y x, Nat.gcd_comm]
    rw [eg] at h
    rw [P_12_quiet_292, F_12_quiet_292]
    simp only [e1, hne, pk_lRem (a := x) (b := y) (by omega) h0 (by omega), if_true, if_false, true_imp_iff, false_imp_iff, not_true_eq_false, not_false_eq_true, true_and, and_true, implies_true, reduceIte]
    exact h
  intro k
  induction k with
  | zero =>
    intro x y n hy hx hy2 h0 hn
    have hy0 : y = 0 := by simp at hy; exact hy
    subst hy0
    obtain ⟨n, rfl⟩ : ∃ m, n = m + 1 := ⟨n - 1, by omega⟩
    rw [Nat.gcd_zero_right]
    exact stop x n hx (by omega)
  | succ k ih =>
    intro x y n hy hx hy2 h0 hn
    by_cases c : y = 0
    · subst c
      obtain ⟨n, rfl⟩ : ∃ m, n = m + 1 := ⟨n - 1, by omega⟩
      rw [Nat.gcd_zero_right]
      exact stop x n hx (by omega)
    · obtain ⟨n, rfl⟩ : ∃ m, n = m + 1 + 1 := ⟨n - 2, by omega⟩
      have hr := Nat.mod_lt x (Nat.pos_of_ne_zero c)
      refine step x y (n + 1) hx hy2 (by omega) ?_
      by_cases c2 : x % y = 0
      · rw [c2, Nat.gcd_zero_right]
        exact stop y n hy2 (by omega)
      · have hr2 := Nat.mod_lt y (Nat.pos_of_ne_zero c2)
        refine step y (x % y) n hy2 (by omega) (by omega) ?_
        refine ih (x % y) (y % (x % y)) n ?_ (by omega) (by omega) (by omega) (by omega)
        have h2 : 2 * (y % (x % y)) ≤ y := by
          have h3 := Nat.div_add_mod y (x % y)
          have h4 : 1 ≤ y / (x % y) := Nat.div_pos (by omega) (by omega)
          have h5 : x % y * 1 ≤ x % y * (y / (x % y)) := Nat.mul_le_mul_left _ h4
          omega
        rw [Nat.pow_succ] at hy
        omega
theorem r_quietIn {u : MU} {s : SU} {a b i0 : Nat} {w : Int32} {M M1 : Mem} (hp : RP u M) (hr : RR u s (rd M 20)) (hK : Kp rQ M M1) (hf : LV 28 (qL u s a i0) M1)
    {k103 : Int32 → Int32 → Int64 → Int32 → Mem → Int64 × Mem} {pk103 : Int32 → Int32 → Int64 → Int32 → Mem → Prop} {Q : Int64 × Mem → Prop}
    (hn' : ∀ M2, Kp rQ M M2 → LV 28 (qL u s a (i0 + 1)) M2 → pk103 (nI b) w (lN 68719476736) (nI (i0 + 1) + 1) M2 ∧ Q (k103 (nI b) w (lN 68719476736) (nI (i0 + 1) + 1) M2)) : P_12_quiet_113 pk103 FU (nI b) w (lN 68719476736) (nI (i0 + 1)) 0 M1 ∧ Q (F_12_quiet_113 k103 FU (nI b) w (lN 68719476736) (nI (i0 + 1)) 0 M1) := by
  have hu := hp.1
  have hn := hu.1
  have hm := hu.2.1
  have third : ∀ M2, Kp rQ M M2 → LV 29 (qL u s a (i0 + 1)) M2 → P_12_quiet_247 pk103 FU (nI b) w (lN 68719476736) (nI (i0 + 1)) 0 M2 ∧ Q (F_12_quiet_247 k103 FU (nI b) w (lN 68719476736) (nI (i0 + 1)) 0 M2) := by
    intro M2 hK2 hf2
    refine lq (S := Mem) (F := fun n i q => F_12_quiet_247 k103 n (nI b) w (lN 68719476736) (nI (i0 + 1)) i q) (P := fun n i q => P_12_quiet_247 pk103 n (nI b) w (lN 68719476736) (nI (i0 + 1)) i q) (Q := Q) (10) (fun i q => Kp rQ M q ∧ LV 29 (qL u s a (i0 + 1)) q ∧ ∀ r, r < i → rl q 28 r = lN (qL u s a (i0 + 1) r)) ?_ ?_ FU 0 M2 ⟨hK2, hf2, fun r h => by omega⟩ (Nat.zero_le _) (FU_ge (by omega))
    · rintro n i M3 hi ⟨hK3, hf3, hz⟩ ih
      try dsimp only at ih ⊢
      have q1 : ¬ (10 : Int32) ≤ nI i := nI_ge (b := 10) hi (by omega)
      have v1 : vp_in (nI i) 10 := (vp_iff (by omega)).mpr hi
      rw [P_12_quiet_247, F_12_quiet_247]
      simp only [q1, v1, nI_clamp (n := i) (by omega), hf3 i hi, if_true, if_false, true_imp_iff, false_imp_iff, not_true_eq_false, not_false_eq_true, true_and, and_true, implies_true, reduceIte]
      refine ih _ ⟨hK3.wl (Or.inl rfl), fun r hr => ?_, fun r hr => ?_⟩
      · rw [rl_wl, if_neg (fun z => by omega)]; exact hf3 r hr
      · rw [rl_wl]
        by_cases e : r = i
        · rw [if_pos ⟨rfl, e⟩, e]
        · rw [if_neg (fun z => e z.2)]; exact hz r (by omega)
    · rintro n M3 ⟨hK3, hf3, hz⟩
      try dsimp only
      rw [P_12_quiet_247, F_12_quiet_247]
      simp only [(by decide : (10 : Int32) ≤ nI 10), if_true, if_false, true_imp_iff, false_imp_iff, not_true_eq_false, not_false_eq_true, true_and, and_true, implies_true, reduceIte]
      exact hn' M3 hK3 hz
  have second : ∀ M2, Kp rQ M M2 → LV 28 (qL u s a i0) M2 → LV 29 (qL u s a i0) M2 → P_12_quiet_143 pk103 FU (nI b) w (lN 68719476736) (nI (i0 + 1)) 0 M2 ∧ Q (F_12_quiet_143 k103 FU (nI b) w (lN 68719476736) (nI (i0 + 1)) 0 M2) := by
    intro M2 hK2 hf2 hg2
    refine lq (S := Mem) (F := fun n i q => F_12_quiet_143 k103 n (nI b) w (lN 68719476736) (nI (i0 + 1)) i q) (P := fun n i q => P_12_quiet_143 pk103 n (nI b) w (lN 68719476736) (nI (i0 + 1)) i q) (Q := Q) (uM u) (fun d q => Kp rQ M q ∧ LV 28 (qL u s a i0) q ∧ LV 29 (qS u s (qL u s a i0) d) q) ?_ ?_ FU 0 M2 ⟨hK2, hf2, hg2⟩ (Nat.zero_le _) (FU_ge (by omega))
    · rintro n d M3 hd ⟨hK3, hf3, hg3⟩ ih
      try dsimp only at ih ⊢
      have hp3 := hp.k hK3 (fun a j z => by unfold rQ at z; omega)
      have hr3 : RR u s (rd M3 20) := by rw [hK3.row (c := 20) (fun j z => by unfold rQ at z; omega)]; exact hr
      have q1 : ¬ nI (uM u) ≤ nI d := nI_ge hd (by omega)
      have w1 := hu.2.2.2.2.1 d hd
      have w2 := hu.2.2.2.2.2 (uG u d) w1.2.1
      obtain ⟨f1, f2, _, _⟩ := hp3.2.2.2.2.2.1 d hd
      have f3 := (hp3.2.2.2.2.2.2 (uG u d) w1.2.1).2
      obtain ⟨b1, b2⟩ := r_isBarred hd hu hr3
      have v1 : vp_in (nI d) 24 := (vp_iff (by omega)).mpr (by omega)
      have v2 : vp_in (nI (uF u d)) 10 := (vp_iff (by omega)).mpr (by omega)
      have v3 : vp_in (nI (uG u d)) 10 := (vp_iff (by omega)).mpr (by omega)
      have bF := qL_le (s := s) (a := a) hu i0 (uF u d)
      have bS : qS u s (qL u s a i0) d (uG u d) ≤ 68719476736 := by
        rcases qS_at (u := u) (s := s) (f := qL u s a i0) (r := uG u d) d with e | ⟨d', h1, h2, h3, h4⟩
        · rw [e]; exact qL_le hu _ _
        · rw [h4]
          exact Nat.le_trans (hp_le w2.2) (qL_le hu _ _)
      have e3 : rl M3 28 (uF u d) / 16 * (nI (uL u (uG u d))).toInt64 = lN (hpQ u (uG u d) (qL u s a i0 (uF u d))) := by
        rw [hf3 (uF u d) (by omega), nI_l (by omega), show (16 : Int64) = lN 16 from rfl, pk_lDiv (by omega) (by omega) (by omega), lN_mul]; rfl
      have hhp := hp_le (x := qL u s a i0 (uF u d)) w2.2
      have e4 : (0 < lg_cmp (lN (hpQ u (uG u d) (qL u s a i0 (uF u d)))) (lN (qS u s (qL u s a i0) d (uG u d)))) ↔ qS u s (qL u s a i0) d (uG u d) < hpQ u (uG u d) (qL u s a i0 (uF u d)) := by
        rw [lg_cmp_gt]; exact pk_lLT (by omega) (by omega)
      rw [P_12_quiet_143, F_12_quiet_143, cl0, cl1, hp3.2.2.1]
      simp only [q1, v1, v2, v3, b1, b2, ib0, nI_clamp (n := d) (by omega), f1, f2, nI_clamp (n := uF u d) (by omega), nI_clamp (n := uG u d) (by omega), f3, e3, hg3 (uG u d) (by omega), e4, if_true, if_false, true_imp_iff, false_imp_iff, not_true_eq_false, not_false_eq_true, true_and, and_true, implies_true, reduceIte, P_12_quiet_225, P_12_quiet_237, F_12_quiet_225, F_12_quiet_237]
      have same : (sB s d = true ∨ ¬ qS u s (qL u s a i0) d (uG u d) < hpQ u (uG u d) (qL u s a i0 (uF u d))) → P_12_quiet_143 pk103 n (nI b) w (lN 68719476736) (nI (i0 + 1)) (nI d + 1) (wl M3 29 (uG u d) (lN (qS u s (qL u s a i0) d (uG u d)))) ∧ Q (F_12_quiet_143 k103 n (nI b) w (lN 68719476736) (nI (i0 + 1)) (nI d + 1) (wl M3 29 (uG u d) (lN (qS u s (qL u s a i0) d (uG u d))))) := by
        intro hc
        refine ih _ ⟨hK3.wl (Or.inr rfl), fun r hr => ?_, fun r hr => ?_⟩
        · rw [rl_wl, if_neg (fun z => by omega)]; exact hf3 r hr
        · have hcc : ¬ (sB s d = false ∧ uG u d = r ∧ qS u s (qL u s a i0) d r < hpQ u r (qL u s a i0 (uF u d))) := by
            rintro ⟨z1, z2, z3⟩
            rcases hc with hc | hc
            · rw [z1] at hc; cases hc
            · rw [z2] at hc; exact hc z3
          rw [rl_wl, qS, if_neg hcc]
          by_cases e : r = uG u d
          · rw [if_pos ⟨rfl, e⟩, e]
          · rw [if_neg (fun z => e z.2)]; exact hg3 r hr
      cases cB : sB s d
      · by_cases c : qS u s (qL u s a i0) d (uG u d) < hpQ u (uG u d) (qL u s a i0 (uF u d))
        · have := ih (wl M3 29 (uG u d) (lN (hpQ u (uG u d) (qL u s a i0 (uF u d))))) ⟨hK3.wl (Or.inr rfl), fun r hr => by rw [rl_wl, if_neg (fun z => by omega)]; exact hf3 r hr, fun r hr => by
            rw [rl_wl, qS]
            by_cases e : r = uG u d
            · subst e
              rw [if_pos ⟨rfl, rfl⟩, if_pos ⟨cB, rfl, c⟩]
            · rw [if_neg (fun z => e z.2), if_neg (fun z => e z.2.1.symm)]; exact hg3 r hr⟩
          simpa [c] using this
        · have := same (Or.inr c)
          simpa [c] using this
      · have := same (Or.inl cB)
        simpa using this
    · rintro n M3 ⟨hK3, hf3, hg3⟩
      try dsimp only
      have hp3 := hp.k hK3 (fun a j z => by unfold rQ at z; omega)
      have q1 : nI (uM u) ≤ nI (uM u) := nI_le (Nat.le_refl _) (by omega)
      rw [P_12_quiet_143, F_12_quiet_143, cl1, hp3.2.2.1]
      simp only [q1, if_true, if_false, true_imp_iff, false_imp_iff, not_true_eq_false, not_false_eq_true, true_and, and_true, implies_true, reduceIte]
      exact third M3 hK3 hg3
  refine lq (S := Mem) (F := fun n i q => F_12_quiet_113 k103 n (nI b) w (lN 68719476736) (nI (i0 + 1)) i q) (P := fun n i q => P_12_quiet_113 pk103 n (nI b) w (lN 68719476736) (nI (i0 + 1)) i q) (Q := Q) (10) (fun i q => Kp rQ M q ∧ LV 28 (qL u s a i0) q ∧ ∀ r, r < i → rl q 29 r = lN (qL u s a i0 r)) ?_ ?_ FU 0 M1 ⟨hK, hf, fun r h => by omega⟩ (Nat.zero_le _) (FU_ge (by omega))
  · rintro n i M3 hi ⟨hK3, hf3, hz⟩ ih
    try dsimp only at ih ⊢
    have q1 : ¬ (10 : Int32) ≤ nI i := nI_ge (b := 10) hi (by omega)
    have v1 : vp_in (nI i) 10 := (vp_iff (by omega)).mpr hi
    rw [P_12_quiet_113, F_12_quiet_113]
    simp only [q1, v1, nI_clamp (n := i) (by omega), hf3 i hi, if_true, if_false, true_imp_iff, false_imp_iff, not_true_eq_false, not_false_eq_true, true_and, and_true, implies_true, reduceIte]
    refine ih _ ⟨hK3.wl (Or.inr rfl), fun r hr => ?_, fun r hr => ?_⟩
    · rw [rl_wl, if_neg (fun z => by omega)]; exact hf3 r hr
    · rw [rl_wl]
      by_cases e : r = i
      · rw [if_pos ⟨rfl, e⟩, e]
      · rw [if_neg (fun z => e z.2)]; exact hz r (by omega)
  · rintro n M3 ⟨hK3, hf3, hz⟩
    try dsimp only
    rw [P_12_quiet_113, F_12_quiet_113]
    simp only [(by decide : (10 : Int32) ≤ nI 10), if_true, if_false, true_imp_iff, false_imp_iff, not_true_eq_false, not_false_eq_true, true_and, and_true, implies_true, reduceIte]
    exact second M3 hK3 hf3 hz
/-- quiet's answer -/
def qtA (v : Nat) (w : Int32) : Int64 := if w = 0 then lN (v / Nat.gcd 68719476736 v) else lN (68719476736 / Nat.gcd 68719476736 v)
theorem r_quiet {u : MU} {s : SU} {a b : Nat} {w : Int32} {M : Mem} (hp : RP u M) (hr : RR u s (rd M 20)) (ha : a < uN u) (hb : b < uN u) : P_12_quiet_68 FU (nI a) (nI b) w 68719476736 0 M ∧ ∃ M', F_12_quiet_68 FU (nI a) (nI b) w 68719476736 0 M = (qtA (qL u s a 9 b) w, M') ∧ Kp rQ M M' := by
  have hu := hp.1
  have hn := hu.1
  have vb : vp_in (nI b) 10 := (vp_iff (by omega)).mpr (by omega)
  have second : ∀ M1, Kp rQ M M1 → LV 28 (qL u s a 0) M1 → P_12_quiet_103 FU (nI b) w (lN 68719476736) 1 M1 ∧ ∃ M', F_12_quiet_103 FU (nI b) w (lN 68719476736) 1 M1 = (qtA (qL u s a 9 b) w, M') ∧ Kp rQ M M' := by
    intro M1 hK1 hf1
    refine lq (S := Mem) (F := fun n i q => F_12_quiet_103 n (nI b) w (lN 68719476736) i q) (P := fun n i q => P_12_quiet_103 n (nI b) w (lN 68719476736) i q) (Q := fun z => ∃ M', z = (qtA (qL u s a 9 b) w, M') ∧ Kp rQ M M') (10) (fun i q => Kp rQ M q ∧ 1 ≤ i ∧ LV 28 (qL u s a (i - 1)) q) ?_ ?_ FU 1 M1 ⟨hK1, Nat.le_refl _, hf1⟩ (by omega) (FU_ge (by omega))
    · rintro n i M2 hi ⟨hK2, h1, hf2⟩ ih
      try dsimp only at ih ⊢
      obtain ⟨j, rfl⟩ : ∃ j, i = j + 1 := ⟨i - 1, by omega⟩
      have q1 : ¬ (10 : Int32) ≤ nI (j + 1) := nI_ge (b := 10) hi (by omega)
      rw [P_12_quiet_103, F_12_quiet_103]
      simp only [q1, if_true, if_false, true_imp_iff, false_imp_iff, not_true_eq_false, not_false_eq_true, true_and, and_true, implies_true, reduceIte]
      exact r_quietIn (Q := fun z => ∃ M', z = (qtA (qL u s a 9 b) w, M') ∧ Kp rQ M M') hp hr hK2 hf2 (fun M3 k1 k2 => ih M3 ⟨k1, by omega, k2⟩)
    · rintro n M2 ⟨hK2, h1, hf2⟩
      try dsimp only
      have e9 : rl M2 28 b = lN (qL u s a 9 b) := hf2 b (by omega)
      have bv := qL_le (s := s) (a := a) hu 9 b
      obtain ⟨g1, g2⟩ := gcd_loop (v := qL u s a 9 b) (W := 68719476736) (b := b) (w := w) (M := M2) (by omega) (by omega) (by omega) e9 37 68719476736 (qL u s a 9 b) FU (by omega) (by omega) (by omega) (by omega) (by unfold FU; omega)
      rw [P_12_quiet_103, F_12_quiet_103]
      simp only [(by decide : (10 : Int32) ≤ nI 10), vb, nI_clamp (n := b) (by omega), e9, g1, g2, if_true, if_false, true_imp_iff, false_imp_iff, not_true_eq_false, not_false_eq_true, true_and, and_true, implies_true, reduceIte]
      refine ⟨M2, ?_, hK2⟩
      unfold qtA
      by_cases c : w = 0 <;> simp [c]
  refine lq (S := Mem) (F := fun n i q => F_12_quiet_68 n (nI a) (nI b) w 68719476736 i q) (P := fun n i q => P_12_quiet_68 n (nI a) (nI b) w 68719476736 i q) (Q := fun z => ∃ M', z = (qtA (qL u s a 9 b) w, M') ∧ Kp rQ M M') (10) (fun i q => Kp rQ M q ∧ ∀ r, r < i → rl q 28 r = lN (q0 a r)) ?_ ?_ FU 0 M ⟨Kp.rf, fun r h => by omega⟩ (Nat.zero_le _) (FU_ge (by omega))
  · rintro n i M3 hi ⟨hK3, hz⟩ ih
    try dsimp only at ih ⊢
    have q1 : ¬ (10 : Int32) ≤ nI i := nI_ge (b := 10) hi (by omega)
    have v1 : vp_in (nI i) 10 := (vp_iff (by omega)).mpr hi
    have e1 : (nI i = nI a) ↔ i = a := nI_eq (by omega) (by omega)
    have hg : ∀ v, v = lN (q0 a i) → _ := fun v hv => ih (wl M3 28 i v) ⟨hK3.wl (Or.inl rfl), fun r hr => by
      rw [rl_wl]
      by_cases e : r = i
      · rw [if_pos ⟨rfl, e⟩, e]; exact hv
      · rw [if_neg (fun z => e z.2)]; exact hz r (by omega)⟩
    rw [P_12_quiet_68, F_12_quiet_68]
    simp only [q1, v1, e1, nI_clamp (n := i) (by omega), if_true, if_false, true_imp_iff, false_imp_iff, not_true_eq_false, not_false_eq_true, true_and, and_true, implies_true, reduceIte, P_12_quiet_93, F_12_quiet_93]
    by_cases c : i = a
    · have := hg 68719476736 (by unfold q0; rw [if_pos c]; rfl)
      simpa [c] using this
    · have := hg 0 (by unfold q0; rw [if_neg c]; rfl)
      simpa [c] using this
  · rintro n M3 ⟨hK3, hz⟩
    try dsimp only
    rw [P_12_quiet_68, F_12_quiet_68]
    simp only [(by decide : (10 : Int32) ≤ nI 10), if_true, if_false, true_imp_iff, false_imp_iff, not_true_eq_false, not_false_eq_true, true_and, and_true, implies_true, reduceIte]
    exact second M3 hK3 hz
/-! least terms -/
theorem two_odd : ∀ v : Nat, 0 < v → ∃ t m, v = 2 ^ t * m ∧ m % 2 = 1 := by
  intro v
  induction v using Nat.strongRecOn with
  | _ v ih =>
    intro h
    by_cases c : v % 2 = 1
    · exact ⟨0, v, by simp, c⟩
    · obtain ⟨t, m, h1, h2⟩ := ih (v / 2) (by omega) (by omega)
      refine ⟨t + 1, m, ?_, h2⟩
      rw [Nat.pow_succ, Nat.mul_assoc, Nat.mul_comm 2 m, ← Nat.mul_assoc, ← h1]
      omega
theorem l_low {v t m : Nat} (hv : v < 2 ^ 63) (e : v = 2 ^ t * m) (hm : m % 2 = 1) : lN v &&& -(lN v) = lN (2 ^ t) := by
  have ht : t < 63 := by
    apply Classical.byContradiction
    intro z
    have h1 : 2 ^ 63 ≤ 2 ^ t := Nat.pow_le_pow_right (by decide) (by omega)
    have h2 : 2 ^ t * 1 ≤ 2 ^ t * m := Nat.mul_le_mul_left _ (by omega)
    omega
  have hb : ∀ i, v.testBit i = (decide (t ≤ i) && m.testBit (i - t)) := fun i => by
    rw [e, Nat.mul_comm, Nat.testBit_mul_two_pow]
  have ht1 : v.testBit t = true := by rw [hb]; simp [Nat.testBit_zero, hm]
  have hlo : ∀ j, j < t → v.testBit j = false := fun j hj => by rw [hb]; simp; omega
  apply Int64.toBitVec_inj.mp
  rw [Int64.toBitVec_and, Int64.toBitVec_neg]
  show BitVec.ofNat 64 v &&& -BitVec.ofNat 64 v = BitVec.ofNat 64 (2 ^ t)
  apply BitVec.eq_of_getLsbD_eq
  intro i hi
  rw [BitVec.getLsbD_and, BitVec.getLsbD_neg, BitVec.getLsbD_ofNat, BitVec.getLsbD_ofNat, decide_eq_true hi, Bool.true_and, Bool.true_and, Nat.testBit_two_pow]
  have hex : (∃ j, j < i ∧ (BitVec.ofNat 64 v).getLsbD j = true) ↔ ∃ j, j < i ∧ v.testBit j = true := by
    constructor
    · rintro ⟨j, h1, h2⟩
      rw [BitVec.getLsbD_ofNat, Bool.and_eq_true] at h2
      exact ⟨j, h1, h2.2⟩
    · rintro ⟨j, h1, h2⟩
      refine ⟨j, h1, ?_⟩
      rw [BitVec.getLsbD_ofNat, h2, decide_eq_true (by omega)]; rfl
  rw [decide_eq_decide.mpr hex]
  by_cases c : i = t
  · subst c
    rw [ht1, decide_eq_false (fun ⟨j, h1, h2⟩ => by rw [hlo j h1] at h2; cases h2)]
    simp
  · rw [decide_eq_false (fun z : t = i => c z.symm)]
    rcases Nat.lt_or_gt_of_ne c with h | h
    · rw [hlo i h]; rfl
    · rw [decide_eq_true ⟨t, h, ht1⟩]
      cases v.testBit i <;> rfl
theorem gcd_low {v t m : Nat} (e : v = 2 ^ t * m) (hm : m % 2 = 1) (ht : t ≤ 36) : Nat.gcd 68719476736 v = 2 ^ t := by
  have hc : Nat.gcd 2 m = 1 := by rw [Nat.gcd_rec, hm]; decide
  have hcp : Nat.gcd (2 ^ (36 - t)) m = 1 := Nat.Coprime.pow_left (36 - t) hc
  have e2 : (68719476736 : Nat) = 2 ^ t * 2 ^ (36 - t) := by rw [← Nat.pow_add, show t + (36 - t) = 36 by omega]
  rw [e2, e, Nat.gcd_mul_left, hcp, Nat.mul_one]
theorem c_terms {M : Mem} {v : Nat} (hv : v ≤ 68719476736) : (P_0_aboveInLeastTerms_0 M (lN v) ∧ F_0_aboveInLeastTerms_0 M (lN v) = qtA v 0) ∧ (P_0_belowInLeastTerms_0 M (lN v) ∧ F_0_belowInLeastTerms_0 M (lN v) = qtA v 1) := by
  rw [P_0_aboveInLeastTerms_0, F_0_aboveInLeastTerms_0, P_0_belowInLeastTerms_0, F_0_belowInLeastTerms_0, F_0_commonTwos_0]
  unfold qtA
  rw [if_pos rfl, if_neg i10]
  by_cases c : v = 0
  · subst c
    have e1 : lg_cmp (lN 0) 0 = 0 := (lg_cmp_eq _ _).mpr rfl
    simp only [e1, if_true, if_false, true_imp_iff, false_imp_iff, not_true_eq_false, not_false_eq_true, true_and, and_true, implies_true, reduceIte]
    rw [Nat.gcd_zero_right]
    exact ⟨rfl, rfl⟩
  · obtain ⟨t, m, h1, h2⟩ := two_odd v (by omega)
    have ht : t ≤ 36 := by
      apply Classical.byContradiction
      intro z
      have h3 : 2 ^ 37 ≤ 2 ^ t := Nat.pow_le_pow_right (by decide) (by omega)
      have h4 : 2 ^ t * 1 ≤ 2 ^ t * m := Nat.mul_le_mul_left _ (by omega)
      omega
    have hne : ¬ lN v = 0 := fun z => by
      have := (pk_lEQ (a := v) (b := 0) (by omega) (by omega)).mp z; omega
    have e1 : ¬ lg_cmp (lN v) 0 = 0 := fun z => hne ((lg_cmp_eq _ _).mp z)
    have hp2 : 0 < 2 ^ t := Nat.two_pow_pos t
    have hp3 : 2 ^ t ≤ 2 ^ 36 := Nat.pow_le_pow_right (by decide) ht
    have hne2 : ¬ lN (2 ^ t) = 0 := fun z => by
      have := (pk_lEQ (a := 2 ^ t) (b := 0) (by omega) (by omega)).mp z; omega
    rw [l_low (by omega) h1 h2, gcd_low h1 h2 ht]
    simp only [e1, hne2, if_true, if_false, true_imp_iff, false_imp_iff, not_true_eq_false, not_false_eq_true, true_and, and_true, implies_true, reduceIte]
    refine ⟨pk_lDiv (by omega) hp2 (by omega), ?_⟩
    exact pk_lDiv (a := 68719476736) (by omega) hp2 (by omega)
