/-! MATHEMATICS 67: one step is done -/
def upBo (f : Nat → Bool) (i : Nat) (v : Bool) : Nat → Bool := fun j => if j = i then v else f j
def upI (f : Nat → Int32) (i : Nat) (v : Int32) : Nat → Int32 := fun j => if j = i then v else f j
def gwS (u : MU) (s : SU) (t d : Nat) : SU := (sH s, sM s + nI (trs u s (uG u d)), sB s, upI (sU s) d (sU s d + 1), up (sP s) t (uG u d))
def bwS (s : SU) (d : Nat) (b : Bool) : SU := (sH s, sM s, upBo (sB s) d b, sU s, sP s)
def hwS (s : SU) : SU := (sH s + 1, sM s, sB s, sU s, sP s)
def dLf (u : MU) (L : List Int32) (x : Nat × Nat × Nat) (s : SU) : Bool × SU :=
  if x.1 = 0 then (if sP s x.2.1 = uF u x.2.2 ∧ opn u s L x.2.2 (sH s) = true then (true, gwS u s x.2.1 x.2.2) else (false, s))
  else if x.1 = 1 then (if sB s x.2.2 = true then (false, s) else (true, bwS s x.2.2 true))
  else if x.1 = 2 then (if sB s x.2.2 = true then (true, bwS s x.2.2 false) else (false, s))
  else (if sH s < 960 then (true, hwS s) else (false, s))
def OKx (u : MU) (x : Nat × Nat × Nat) : Prop := x.1 ≤ 3 ∧ (x.1 = 0 → x.2.1 < uT u) ∧ (x.1 < 3 → x.2.2 < uM u)
theorem gwS_w {u : MU} {s : SU} {t d : Nat} (hu : UW u) (h : SW u s) (hd : d < uM u) : SW u (gwS u s t d) := by
  refine ⟨h.1, fun k hk => ?_⟩
  show up (sP s) t (uG u d) k < uN u
  by_cases e : k = t
  · rw [e, up_s]; exact (hu.2.2.2.2.1 d hd).2.1
  · rw [up_o e]; exact h.2 k hk
theorem met_c {u : MU} {s : SU} {t d : Nat} (h : ¬ sP s t = uG u d) : cnt (fun k => decide (k ≠ t) && decide (up (sP s) t (uG u d) k = uG u d)) (uT u) = trs u s (uG u d) := by
  unfold trs
  refine cnt_cg (fun k hk => ?_)
  by_cases e : k = t
  · subst e; simp [h]
  · rw [up_o e]; simp [e]
theorem r_met {u : MU} {t d : Nat} {M : Mem} {P' : Nat → Nat} (hu : RP u M) (ht : t < uT u) (hd : d < uM u) (hP : ∀ k, k < uT u → rd M 20 k = nI (P' k) ∧ P' k < 10) : P_12_does_101 FU (nI t) (nI d) 0 M ∧ ∃ M', F_12_does_101 FU (nI t) (nI d) 0 M = (1, M') ∧ rd M' 20 54 = rd M 20 54 + nI (cnt (fun k => decide (k ≠ t) && decide (P' k = uG u d)) (uT u)) ∧ Kp (fun c j => c = 20 ∧ j = 54) M M' := by
  have hN := hu.1.1
  have hM := hu.1.2.1
  have hT := hu.1.2.2.1
  have hg := (hu.1.2.2.2.2.1 d hd).2.1
  refine lq (S := Mem) (F := fun n i q => F_12_does_101 n (nI t) (nI d) i q) (P := fun n i q => P_12_does_101 n (nI t) (nI d) i q) (Q := fun a => ∃ M', a = (1, M') ∧ rd M' 20 54 = rd M 20 54 + nI (cnt (fun k => decide (k ≠ t) && decide (P' k = uG u d)) (uT u)) ∧ Kp (fun c j => c = 20 ∧ j = 54) M M') (uT u) (fun i q => rd q 20 54 = rd M 20 54 + nI (cnt (fun k => decide (k ≠ t) && decide (P' k = uG u d)) i) ∧ Kp (fun c j => c = 20 ∧ j = 54) M q) ?_ ?_ FU 0 M ⟨(add0 _).symm, Kp.rf⟩ (Nat.zero_le _) (FU_ge (by omega))
  · intro n i q hi hI ih
    try dsimp only at hI ih ⊢
    have q1 : ¬ nI (uT u) ≤ nI i := nI_ge hi (by omega)
    have U : RP u q := hu.k hI.2 (fun c j z => by omega)
    have f2 : rd q 4 2 = nI (uT u) := U.2.2.2.1
    have f1 : rd q 20 i = nI (P' i) := by rw [hI.2.g (by omega)]; exact (hP i hi).1
    have fg : rd q (54 + d) 1 = nI (uG u d) := (U.2.2.2.2.2.1 d hd).2.1
    have hPi := (hP i hi).2
    have et : (nI i = nI t) ↔ i = t := nI_eq (by omega) (by omega)
    have eg : (nI (P' i) = nI (uG u d)) ↔ P' i = uG u d := nI_eq (by omega) (by omega)
    have z : (0 : Int32) + nI i = nI i := Int32.zero_add _
    have v1 : vp_in (nI i) 56 := (vp_iff (by omega)).mpr (by omega)
    have v2 : vp_in (nI d) 24 := (vp_iff (by omega)).mpr (by omega)
    have v3 : vp_in 54 56 := (vp_iff (i := 54) (by omega)).mpr (by omega)
    have key : ∀ b : Bool, (decide (i ≠ t) && decide (P' i = uG u d)) = b → P_12_does_101 n (nI t) (nI d) (nI i + 1) (wr q 20 54 (rd q 20 54 + (if b = true then 1 else 0))) ∧ ∃ M', F_12_does_101 n (nI t) (nI d) (nI i + 1) (wr q 20 54 (rd q 20 54 + (if b = true then 1 else 0))) = (1, M') ∧ rd M' 20 54 = rd M 20 54 + nI (cnt (fun k => decide (k ≠ t) && decide (P' k = uG u d)) (uT u)) ∧ Kp (fun c j => c = 20 ∧ j = 54) M M' := by
      intro b hb
      refine ih _ ⟨?_, hI.2.w ⟨rfl, rfl⟩⟩
      rw [rd_s, hI.1, cnt, hb, Int32.add_assoc, nI_b]
    rw [P_12_does_101, F_12_does_101]
    simp only [cl2, cl1, cl54, f2, z, nI_clamp (n := i) (by omega), nI_clamp (n := d) (by omega), f1, fg, q1, et, eg, v1, v2, v3, if_true, if_false, true_imp_iff, false_imp_iff, not_true_eq_false, not_false_eq_true, true_and, and_true, implies_true, reduceIte, P_12_does_145, F_12_does_145, P_12_does_146, F_12_does_146]
    by_cases e1 : i = t
    · have := key false (by simp [e1])
      simpa [e1] using this
    · by_cases e2 : P' i = uG u d
      · have := key true (by simp [e1, e2])
        simpa [e1, e2] using this
      · have := key false (by simp [e2])
        simpa [e1, e2] using this
  · intro n q hI
    try dsimp only at hI ⊢
    have U : RP u q := hu.k hI.2 (fun c j z => by omega)
    have f2 : rd q 4 2 = nI (uT u) := U.2.2.2.1
    have q1 : nI (uT u) ≤ nI (uT u) := nI_le (Nat.le_refl _) (by omega)
    rw [P_12_does_101, F_12_does_101]
    simp only [cl2, f2, q1, if_true, if_false, true_imp_iff, false_imp_iff, not_true_eq_false, not_false_eq_true, true_and, and_true, implies_true, reduceIte]
    exact ⟨q, rfl, hI.1, hI.2⟩
def rDo (c _j : Nat) : Prop := c = 15 ∨ c = 16 ∨ c = 20
theorem RV.up {u : MU} {s s' : SU} {L : List Int32} {M M' : Mem} (h : RV u s L M) (hk : Kp rDo M M') (hr : RR u s' (rd M' 20)) : RV u s' L M' := ⟨h.1.k hk (fun c j z => by unfold rDo at z; omega), hr, h.2.2.k hk (fun c j z => by unfold rDo at z; omega)⟩
theorem r_does {u : MU} {s : SU} {L : List Int32} {q : Nat} {x : Nat × Nat × Nat} {M : Mem} (hv : RV u s L M) (hx : OKx u x) (hq : q < 80) (h0 : rd M (398 + q) 0 = nI x.1) (h1 : x.1 = 0 → rd M (398 + q) 1 = nI x.2.1) (h2 : x.1 < 3 → rd M (398 + q) 2 = nI x.2.2) : P_12_does_0 q M ∧ ∃ M', F_12_does_0 q M = (if (dLf u L x s).1 = true then 1 else 0, M') ∧ RV u (dLf u L x s).2 L M' ∧ Kp rDo M M' := by
  obtain ⟨k, t, d⟩ := x
  obtain ⟨x1', x2, x3⟩ : k ≤ 3 ∧ (k = 0 → t < uT u) ∧ (k < 3 → d < uM u) := hx
  have h0' : rd M (398 + q) 0 = nI k := h0
  have h1' : k = 0 → rd M (398 + q) 1 = nI t := h1
  have h2' : k < 3 → rd M (398 + q) 2 = nI d := h2
  clear h0 h1 h2
  have hN := hv.1.1.1
  have hM := hv.1.1.2.1
  have hT := hv.1.1.2.2.1
  obtain ⟨w0, w1, w2, w3, w4, w5⟩ := hv.2.1
  have a0 : (nI k = 0) ↔ k = 0 := nI_eq (b := 0) (by omega) (by omega)
  have a1 : (nI k = 1) ↔ k = 1 := nI_eq (b := 1) (by omega) (by omega)
  have a2 : (nI k = 2) ↔ k = 2 := nI_eq (b := 2) (by omega) (by omega)
  rw [P_12_does_0, F_12_does_0]
  simp only [cl0, cl1, cl2, cl55, h0', a0, a1, a2]
  unfold dLf
  by_cases k0 : k = 0
  · subst k0
    have ht := x2 rfl
    have hd := x3 (by omega)
    have z : (0 : Int32) + nI t = nI t := Int32.zero_add _
    have v1 : vp_in (nI t) 56 := (vp_iff (by omega)).mpr (by omega)
    have v2 : vp_in (nI d) 24 := (vp_iff (by omega)).mpr (by omega)
    have f1 := w1 t ht
    have hPt := w0.2 t ht
    have fF : rd M (54 + d) 0 = nI (uF u d) := (hv.1.2.2.2.2.2.1 d hd).1
    have hF := hv.1.1.2.2.2.2.1 d hd
    have eF : (nI (sP s t) = nI (uF u d)) ↔ sP s t = uF u d := nI_eq (by omega) (by omega)
    simp only [h1' rfl, h2' (by omega), z, nI_clamp (n := t) (by omega), nI_clamp (n := d) (by omega), f1, fF, eF, v1, v2, hq, w5, true_and, if_true, true_imp_iff, not_true_eq_false, false_imp_iff, and_true]
    by_cases c1 : sP s t = uF u d
    · have hH := w0.1
      obtain ⟨b1, M1, b2, b3⟩ := r_open hv hd (show sH s < 4000 by omega)
      have V1 := hv.o b3
      rw [b2]
      by_cases c2 : opn u s L d (sH s) = true
      · have v3 : vp_in (nI (30 + d)) 56 := (vp_iff (by omega)).mpr (by omega)
        have e30 : (30 : Int32) + nI d = nI (30 + d) := l_add 30 d
        have g1 : rd M1 (54 + d) 1 = nI (uG u d) := (V1.1.2.2.2.2.2.1 d hd).2.1
        have g2 : rd (wr M1 20 t (nI (uG u d))) 20 (30 + d) = sU s d := by
          rw [rd_i (by omega), b3.g (by unfold rO; omega)]
          exact w3 d hd
        have K2 : Kp rDo M1 (wr (wr M1 20 t (nI (uG u d))) 20 (30 + d) (sU s d + 1)) := (Kp.rf.w (Or.inr (Or.inr rfl))).w (Or.inr (Or.inr rfl))
        have hPP : ∀ k, k < uT u → rd (wr (wr M1 20 t (nI (uG u d))) 20 (30 + d) (sU s d + 1)) 20 k = nI (up (sP s) t (uG u d) k) ∧ up (sP s) t (uG u d) k < 10 := by
          intro k hk
          rw [rd_i (by omega)]
          by_cases e : k = t
          · rw [e, rd_s, up_s]; exact ⟨rfl, by omega⟩
          · rw [rd_i e, up_o e, b3.g (by unfold rO; omega)]
            exact ⟨w1 k hk, by have := w0.2 k hk; omega⟩
        obtain ⟨m1, M', m2, m3, m4⟩ := r_met (V1.1.k K2 (fun c j z => by unfold rDo at z; omega)) ht hd hPP
        have hne : ¬ sP s t = uG u d := by rw [c1]; exact hF.2.2.1
        rw [met_c hne] at m3
        have KK : Kp rDo M M' := (b3.mono (fun c j z => by unfold rO at z; unfold rDo; omega)).tr (K2.tr (m4.mono (fun c j z => by unfold rDo; omega)))
        have d0 : P_12_does_68 (nI t) (nI d) 1 M1 ∧ F_12_does_68 (nI t) (nI d) 1 M1 = (1, M') := by
          rw [P_12_does_68, F_12_does_68, if_neg one_ne, z, nI_clamp (n := t) (by omega), nI_clamp (n := d) (by omega), cl1, g1, e30, nI_clamp (n := 30 + d) (by omega), g2]
          exact ⟨⟨fun _ => ⟨v2, v1, v3, m1⟩, fun y => absurd y one_ne⟩, m2⟩
        simp only [c1, c2, and_self, if_true, true_imp_iff, not_true_eq_false, false_imp_iff, true_and, and_true]
        refine ⟨⟨⟨b1, d0.1⟩, fun y => absurd y (by decide), fun y => absurd y (by decide), fun _ => trivial⟩, M', d0.2, hv.up KK ⟨gwS_w hv.1.1 w0 hd, fun k hk => ?_, fun e he => ?_, fun e he => ?_, ?_, ?_⟩, KK⟩
        · rw [m4.g (by omega)]; exact (hPP k hk).1
        · rw [m4.g (by omega), rd_i (by omega), rd_i (by omega), b3.g (by unfold rO; omega)]; exact w2 e he
        · show rd M' 20 (30 + e) = upI (sU s) d (sU s d + 1) e
          unfold upI
          rw [m4.g (by omega)]
          by_cases ee : e = d
          · rw [ee, rd_s, if_pos rfl]
          · rw [rd_i (by omega), rd_i (by omega), b3.g (by unfold rO; omega), if_neg ee]; exact w3 e he
        · show rd M' 20 54 = sM s + nI (trs u s (uG u d))
          rw [m3, rd_i (by omega), rd_i (by omega), b3.g (by unfold rO; omega), w4]
        · show rd M' 20 55 = nI (sH s)
          rw [m4.g (by omega), rd_i (by omega), rd_i (by omega), b3.g (by unfold rO; omega)]; exact w5
      · have d0 : P_12_does_68 (nI t) (nI d) 0 M1 ∧ F_12_does_68 (nI t) (nI d) 0 M1 = (0, M1) := by
          rw [P_12_does_68, F_12_does_68, if_pos rfl]
          exact ⟨⟨fun y => absurd rfl y, fun _ => trivial⟩, rfl⟩
        simp only [c1, c2, if_true, if_false, Bool.false_eq_true, and_false, true_imp_iff, not_true_eq_false, false_imp_iff, true_and, and_true]
        exact ⟨⟨⟨b1, d0.1⟩, fun y => absurd y (by decide), fun y => absurd y (by decide), fun _ => trivial⟩, M1, d0.2, V1, b3.mono (fun c j z => by unfold rO at z; unfold rDo; omega)⟩
    · simp only [c1, if_false, false_and, Bool.false_eq_true, not_false_eq_true, false_imp_iff, true_imp_iff, true_and, and_true]
      exact ⟨⟨fun y => absurd y (by decide), fun y => absurd y (by decide)⟩, M, rfl, hv, Kp.rf⟩
  have bar : ∀ b : Bool, k < 3 → (2 - nI k = if b = true then 1 else 0) → ¬ sB s d = b → P_12_isBarred_0 M (nI d) ∧ F_12_isBarred_0 M (nI d) = (if sB s d = true then 1 else 0) ∧ vp_in (6 + nI d) 56 ∧ RV u (bwS s d b) L (wr M 20 ((6 : Int32) + nI d).toNatClampNeg (2 - nI k)) ∧ Kp rDo M (wr M 20 ((6 : Int32) + nI d).toNatClampNeg (2 - nI k)) := by
    intro b hk hb _
    have hd := x3 hk
    obtain ⟨e1, e2⟩ := r_isBarred hd hv.1.1 hv.2.1
    have e6 : (6 : Int32) + nI d = nI (6 + d) := l_add 6 d
    rw [e6, nI_clamp (n := 6 + d) (by omega), hb]
    have K : Kp rDo M (wr M 20 (6 + d) (if b = true then 1 else 0)) := Kp.rf.w (Or.inr (Or.inr rfl))
    refine ⟨e1, e2, (vp_iff (by omega)).mpr (by omega), hv.up K ⟨w0, fun k hk => ?_, fun e he => ?_, fun e he => ?_, ?_, ?_⟩, K⟩
    · rw [rd_i (by omega)]; exact w1 k hk
    · show rd (wr M 20 (6 + d) _) 20 (6 + e) = if upBo (sB s) d b e = true then 1 else 0
      unfold upBo
      by_cases ee : e = d
      · rw [ee, rd_s, if_pos rfl]
      · rw [rd_i (by omega), if_neg ee]; exact w2 e he
    · rw [rd_i (by omega)]; exact w3 e he
    · rw [rd_i (by omega)]; exact w4
    · rw [rd_i (by omega)]; exact w5
  by_cases k1 : k = 1
  · subst k1
    have hd := x3 (by omega)
    obtain ⟨e1, e2⟩ := r_isBarred hd hv.1.1 hv.2.1
    simp only [h2' (by omega), e1, e2, show ¬ (1 : Nat) = 0 by decide, show ¬ (1 : Nat) = 2 by decide, if_true, if_false, true_imp_iff, false_imp_iff, not_true_eq_false, not_false_eq_true, true_and, and_true, P_12_does_174, F_12_does_174, hq]
    by_cases c1 : sB s d = true
    · simp only [c1, if_true, true_imp_iff, not_true_eq_false, false_imp_iff, true_and, Bool.false_eq_true, if_false]
      exact ⟨M, rfl, hv, Kp.rf⟩
    · obtain ⟨_, _, b3, b4, b5⟩ := bar true (by omega) (by decide) (by rw [Bool.not_eq_true] at c1; rw [c1]; decide)
      simp only [c1, Bool.false_eq_true, if_false, i0_1, if_true, not_false_eq_true, true_imp_iff, false_imp_iff, and_true, b3, true_and, cl0, h0']
      exact ⟨_, rfl, b4, b5⟩
  by_cases k2 : k = 2
  · subst k2
    have hd := x3 (by omega)
    obtain ⟨e1, e2⟩ := r_isBarred hd hv.1.1 hv.2.1
    simp only [h2' (by omega), e1, e2, show ¬ (2 : Nat) = 0 by decide, show ¬ (2 : Nat) = 1 by decide, if_true, if_false, true_imp_iff, false_imp_iff, not_true_eq_false, not_false_eq_true, true_and, and_true, P_12_does_174, F_12_does_174, hq]
    by_cases c1 : sB s d = true
    · obtain ⟨_, _, b3, b4, b5⟩ := bar false (by omega) (by decide) (by rw [c1]; decide)
      simp only [c1, if_true, i1_0, if_false, not_false_eq_true, true_imp_iff, false_imp_iff, and_true, b3, true_and, cl0, h0']
      exact ⟨_, rfl, b4, b5⟩
    · simp only [c1, Bool.false_eq_true, if_false, if_true, not_true_eq_false, true_imp_iff, false_imp_iff, true_and]
      exact ⟨M, rfl, hv, Kp.rf⟩
  · simp only [k0, k1, k2, if_false, false_imp_iff, not_false_eq_true, and_self, true_imp_iff, and_true, hq, w5]
    have hH := w0.1
    have e9 : (nI (sH s) < 960) ↔ sH s < 960 := nI_ltI (b := 960) (by omega) (by omega)
    by_cases c1 : sH s < 960
    · have K : Kp rDo M (wr M 20 55 (nI (sH s) + 1)) := Kp.rf.w (Or.inr (Or.inr rfl))
      rw [if_pos (e9.mpr c1), if_pos c1]
      refine ⟨trivial, _, rfl, hv.up K ⟨⟨show sH s + 1 ≤ 960 by omega, w0.2⟩, fun k hk => ?_, fun e he => ?_, fun e he => ?_, ?_, ?_⟩, K⟩
      · rw [rd_i (by omega)]; exact w1 k hk
      · rw [rd_i (by omega)]; exact w2 e he
      · rw [rd_i (by omega)]; exact w3 e he
      · rw [rd_i (by omega)]; exact w4
      · show rd _ 20 55 = nI (sH s + 1)
        rw [rd_s, nI_1]
    · rw [if_neg (fun y => c1 (e9.mp y)), if_neg c1]
      exact ⟨trivial, M, rfl, hv, Kp.rf⟩
