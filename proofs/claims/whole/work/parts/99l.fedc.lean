/-! MATHEMATICS 81: the call feed, both sides -/
def fdA (x1 x2 x3 x4 x5 : Int32) (k : Nat) : Int32 := if k < 4 then x1 else if k < 8 then x2 else if k < 12 then x3 else if k < 16 then x4 else x5
def fdT (x1 x2 x3 x4 x5 : Int32) (t : Nat) (tb : Nat → Nat) (i : Nat) : Nat := if i < t then tb i else byN (fdA x1 x2 x3 x4 x5 (i - t)) (24 - 8 * ((i - t) % 4))
theorem r_feedL {x1 x2 x3 x4 x5 : Int32} {t : Nat} {tb : Nat → Nat} {M : Mem} (ht : t + 20 ≤ 600) (h1 : rd M 0 1 = nI t) (hT : ∀ i, i < t → rd M 1 i = nI (tb i) ∧ tb i < 256) : P_12_feed_23 FU x1 x2 x3 x4 x5 0 M ∧ ∃ M', F_12_feed_23 FU x1 x2 x3 x4 x5 0 M = (nI (t + 20), M') ∧ rd M' 0 1 = nI (t + 20) ∧ (∀ i, i < t + 20 → rd M' 1 i = nI (fdT x1 x2 x3 x4 x5 t tb i) ∧ fdT x1 x2 x3 x4 x5 t tb i < 256) ∧ Kp (fun c j => c = 1 ∨ (c = 0 ∧ j = 1)) M M' := by
  refine lq (S := Mem) (F := fun n i q => F_12_feed_23 n x1 x2 x3 x4 x5 i q) (P := fun n i q => P_12_feed_23 n x1 x2 x3 x4 x5 i q) (Q := fun z => ∃ M', z = (nI (t + 20), M') ∧ rd M' 0 1 = nI (t + 20) ∧ (∀ i, i < t + 20 → rd M' 1 i = nI (fdT x1 x2 x3 x4 x5 t tb i) ∧ fdT x1 x2 x3 x4 x5 t tb i < 256) ∧ Kp (fun c j => c = 1 ∨ (c = 0 ∧ j = 1)) M M') (20) (fun i q => rd q 0 1 = nI (t + i) ∧ (∀ j, j < t + i → rd q 1 j = nI (fdT x1 x2 x3 x4 x5 t tb j) ∧ fdT x1 x2 x3 x4 x5 t tb j < 256) ∧ Kp (fun c j => c = 1 ∨ (c = 0 ∧ j = 1)) M q) ?_ ?_ FU 0 M ⟨h1, fun j hj => by unfold fdT; rw [if_pos (show j < t by omega)]; exact hT j (by omega), Kp.rf⟩ (Nat.zero_le _) (FU_ge (by omega))
  · intro n i q hi hI ih
    try dsimp only at hI ih ⊢
    have q1 : ¬ (20 : Int32) ≤ nI i := nI_ge (b := 20) hi (by omega)
    have e4 : ((4 : Int32) ≤ nI i) ↔ 4 ≤ i := nI_leI (a := 4) (by omega) (by omega)
    have e8 : ((8 : Int32) ≤ nI i) ↔ 8 ≤ i := nI_leI (a := 8) (by omega) (by omega)
    have e12 : ((12 : Int32) ≤ nI i) ↔ 12 ≤ i := nI_leI (a := 12) (by omega) (by omega)
    have e16 : ((16 : Int32) ≤ nI i) ↔ 16 ≤ i := nI_leI (a := 16) (by omega) (by omega)
    have er : nI i - nI i / 4 * 4 = nI (i % 4) := pk_rem (a := i) (d := 4) (by omega) (by omega) (by omega)
    have es : (24 : Int32) - 8 * nI (i % 4) = nI (24 - 8 * (i % 4)) := by
      rw [show (8 : Int32) = nI 8 from rfl, pk_mul, show (24 : Int32) = nI 24 from rfl, pk_sub (by omega)]
    have v : vp_in (nI (t + i)) 600 := (vp_iff (by omega)).mpr (by omega)
    have key : ∀ x : Int32, x = fdA x1 x2 x3 x4 x5 i → P_12_feed_76 (P_12_feed_23 n) x1 x2 x3 x4 x5 (nI i) x q ∧ ∃ M', F_12_feed_76 (F_12_feed_23 n) x1 x2 x3 x4 x5 (nI i) x q = (nI (t + 20), M') ∧ rd M' 0 1 = nI (t + 20) ∧ (∀ i, i < t + 20 → rd M' 1 i = nI (fdT x1 x2 x3 x4 x5 t tb i) ∧ fdT x1 x2 x3 x4 x5 t tb i < 256) ∧ Kp (fun c j => c = 1 ∨ (c = 0 ∧ j = 1)) M M' := by
      intro x hx
      obtain ⟨b1, b2⟩ := byN_r x (sh := 24 - 8 * (i % 4)) (by omega)
      have eT : fdT x1 x2 x3 x4 x5 t tb (t + i) = byN x (24 - 8 * (i % 4)) := by
        unfold fdT
        rw [if_neg (by omega), Nat.add_sub_cancel_left, hx]
      have k := ih (wr (wr q 1 (t + i) (nI (byN x (24 - 8 * (i % 4))))) 0 1 (nI (t + i) + 1)) ⟨by rw [rd_s, nI_1]; rfl, fun j hj => ?_, (hI.2.2.w (Or.inl rfl)).w (Or.inr ⟨rfl, rfl⟩)⟩
      · rw [P_12_feed_76, F_12_feed_76, hI.1, er, es, b2, nI_clamp (n := t + i) (by omega), rd_c (by decide), hI.1]
        exact ⟨⟨v, k.1⟩, k.2⟩
      · rw [rd_c (by decide)]
        by_cases c : j = t + i
        · rw [c, rd_s, eT]; exact ⟨rfl, b1⟩
        · rw [rd_i c]; exact hI.2.1 j (by omega)
    rw [P_12_feed_23, F_12_feed_23]
    simp only [q1, e4, e8, e12, e16, if_true, if_false, true_imp_iff, false_imp_iff, not_true_eq_false, not_false_eq_true, true_and, and_true, implies_true, reduceIte]
    by_cases c4 : 4 ≤ i
    · by_cases c8 : 8 ≤ i
      · by_cases c12 : 12 ≤ i
        · by_cases c16 : 16 ≤ i
          · have := key x5 (by unfold fdA; rw [if_neg (by omega), if_neg (by omega), if_neg (by omega), if_neg (by omega)])
            simpa only [c4, c8, c12, c16, if_true, if_false, true_imp_iff, false_imp_iff, not_true_eq_false, not_false_eq_true, true_and, and_true, implies_true, reduceIte] using this
          · have := key x4 (by unfold fdA; rw [if_neg (by omega), if_neg (by omega), if_neg (by omega), if_pos (by omega)])
            simpa only [c4, c8, c12, c16, if_true, if_false, true_imp_iff, false_imp_iff, not_true_eq_false, not_false_eq_true, true_and, and_true, implies_true, reduceIte] using this
        · have := key x3 (by unfold fdA; rw [if_neg (by omega), if_neg (by omega), if_pos (by omega)])
          simpa only [c4, c8, c12, if_true, if_false, true_imp_iff, false_imp_iff, not_true_eq_false, not_false_eq_true, true_and, and_true, implies_true, reduceIte] using this
      · have := key x2 (by unfold fdA; rw [if_neg (by omega), if_pos (by omega)])
        simpa only [c4, c8, if_true, if_false, true_imp_iff, false_imp_iff, not_true_eq_false, not_false_eq_true, true_and, and_true, implies_true, reduceIte] using this
    · have := key x1 (by unfold fdA; rw [if_pos (by omega)])
      simpa only [c4, if_true, if_false, true_imp_iff, false_imp_iff, not_true_eq_false, not_false_eq_true, true_and, and_true, implies_true, reduceIte] using this
  · intro n q hI
    try dsimp only at hI ⊢
    rw [P_12_feed_23, F_12_feed_23]
    simp only [(by decide : (20 : Int32) ≤ nI 20), hI.1, if_true, if_false, true_imp_iff, false_imp_iff, not_true_eq_false, not_false_eq_true, true_and, and_true, implies_true, reduceIte]
    exact ⟨q, rfl, hI.1, hI.2.1, hI.2.2⟩
theorem putS {n t sh : Nat} {x : Int32} {M : Mem} (hs : sh ≤ 24) (ht : t < 600) (h : rd M 1558 1 = nI t) : (P_11_putNumber_3 n x (nI sh + (-8)) (wr (wr M 1559 t (byC x sh)) 1558 1 (nI (t + 1))) → P_11_putNumber_3 (n + 1) x (nI sh) M) ∧ F_11_putNumber_3 (n + 1) x (nI sh) M = F_11_putNumber_3 n x (nI sh + (-8)) (wr (wr M 1559 t (byC x sh)) 1558 1 (nI (t + 1))) := by
  have n0 : ¬ nI sh < 0 := nI_pos (by omega)
  have n6 : ¬ (600 : Int32) ≤ nI t := nI_ge (b := 600) ht (by omega)
  have v : vp_in (nI t) 600 := (vp_iff (by omega)).mpr ht
  rw [P_11_putNumber_3, F_11_putNumber_3, h, if_neg n0, if_neg n6, nI_clamp (n := t) (by omega), rd_c (by decide), h, nI_1]
  exact ⟨fun y => ⟨fun w => absurd w n0, fun _ => ⟨fun w => absurd w n6, fun _ => ⟨v, y⟩⟩⟩, rfl⟩
theorem c_put1 {t : Nat} {x : Int32} {M : Mem} (ht : t + 4 ≤ 600) (h : rd M 1558 1 = nI t) : P_11_putNumber_0 x M ∧ ∃ M', F_11_putNumber_0 x M = M' ∧ rd M' 1558 1 = nI (t + 4) ∧ (∀ k, k < 4 → rd M' 1559 (t + k) = byC x (24 - 8 * (k % 4))) ∧ Kp (fun c j => (c = 1558 ∧ j = 1) ∨ (c = 1559 ∧ t ≤ j)) M M' := by
  have hFU : FU = 6995 + 1 + 1 + 1 + 1 + 1 := rfl
  have m1 : nI 24 + (-8) = nI 16 := by decide
  have m2 : nI 16 + (-8) = nI 8 := by decide
  have m3 : nI 8 + (-8) = nI 0 := by decide
  have m4 : nI 0 + (-8) = -8 := by decide
  have n8 : (-8 : Int32) < 0 := by decide
  obtain ⟨a1, a2⟩ := putS (n := 6995 + 1 + 1 + 1 + 1) (x := x) (sh := 24) (by omega) (show t < 600 by omega) h
  have r1 : rd (wr (wr M 1559 t (byC x 24)) 1558 1 (nI (t + 1))) 1558 1 = nI (t + 1) := rd_s _ _ _ _
  obtain ⟨b1, b2⟩ := putS (n := 6995 + 1 + 1 + 1) (x := x) (sh := 16) (by omega) (show t + 1 < 600 by omega) r1
  have r2 : rd (wr (wr (wr (wr M 1559 t (byC x 24)) 1558 1 (nI (t + 1))) 1559 (t + 1) (byC x 16)) 1558 1 (nI (t + 1 + 1))) 1558 1 = nI (t + 1 + 1) := rd_s _ _ _ _
  obtain ⟨c1, c2⟩ := putS (n := 6995 + 1 + 1) (x := x) (sh := 8) (by omega) (show t + 1 + 1 < 600 by omega) r2
  have r3 : rd (wr (wr (wr (wr (wr (wr M 1559 t (byC x 24)) 1558 1 (nI (t + 1))) 1559 (t + 1) (byC x 16)) 1558 1 (nI (t + 1 + 1))) 1559 (t + 1 + 1) (byC x 8)) 1558 1 (nI (t + 1 + 1 + 1))) 1558 1 = nI (t + 1 + 1 + 1) := rd_s _ _ _ _
  obtain ⟨d1, d2⟩ := putS (n := 6995 + 1) (x := x) (sh := 0) (by omega) (show t + 1 + 1 + 1 < 600 by omega) r3
  rw [m1] at a1 a2
  rw [m2] at b1 b2
  rw [m3] at c1 c2
  rw [m4] at d1 d2
  have e24 : (24 : Int32) = nI 24 := rfl
  rw [P_11_putNumber_0, F_11_putNumber_0, hFU, e24, a2, b2, c2, d2, F_11_putNumber_3, if_pos n8]
  have fin : P_11_putNumber_3 (6995 + 1) x (-8) (wr (wr (wr (wr (wr (wr (wr (wr M 1559 t (byC x 24)) 1558 1 (nI (t + 1))) 1559 (t + 1) (byC x 16)) 1558 1 (nI (t + 1 + 1))) 1559 (t + 1 + 1) (byC x 8)) 1558 1 (nI (t + 1 + 1 + 1))) 1559 (t + 1 + 1 + 1) (byC x 0)) 1558 1 (nI (t + 1 + 1 + 1 + 1))) := by
    rw [P_11_putNumber_3]
    exact ⟨fun _ => trivial, fun y => absurd n8 y⟩
  refine ⟨a1 (b1 (c1 (d1 fin))), _, rfl, rd_s _ _ _ _, fun k hk => ?_, ?_⟩
  · have cs : k = 0 ∨ k = 1 ∨ k = 2 ∨ k = 3 := by omega
    rcases cs with rfl | rfl | rfl | rfl
    · rw [rd_c (by decide), rd_i (by omega), rd_c (by decide), rd_i (by omega), rd_c (by decide), rd_i (by omega), rd_c (by decide)]; exact rd_s _ _ _ _
    · rw [rd_c (by decide), rd_i (by omega), rd_c (by decide), rd_i (by omega), rd_c (by decide)]; exact rd_s _ _ _ _
    · rw [rd_c (by decide), rd_i (by omega), rd_c (by decide)]; exact rd_s _ _ _ _
    · rw [rd_c (by decide)]; exact rd_s _ _ _ _
  · exact (((((((Kp.rf.w (Or.inr ⟨rfl, by omega⟩)).w (Or.inl ⟨rfl, rfl⟩)).w (Or.inr ⟨rfl, by omega⟩)).w (Or.inl ⟨rfl, rfl⟩)).w (Or.inr ⟨rfl, by omega⟩)).w (Or.inl ⟨rfl, rfl⟩)).w (Or.inr ⟨rfl, by omega⟩)).w (Or.inl ⟨rfl, rfl⟩)
def fdD (d : ID) (x1 x2 x3 x4 x5 : Int32) : ID := (dU d, dS d, dL d, dW d, dB d, dI d, ((dT d).1 + 20, fdT x1 x2 x3 x4 x5 (dT d).1 (dT d).2), dP d, dR d, dN d, dE d)
theorem q_feed (x1 x2 x3 x4 x5 : Int32) {d : ID} {Mr Mc : Mem} (hr : RI d Mr) (hc : CI d Mc) : P_12_feed_0 x1 x2 x3 x4 x5 Mr ∧ P_11_feed_0 x1 x2 x3 x4 x5 Mc ∧ QD Mr Mc (F_12_feed_0 x1 x2 x3 x4 x5 Mr) (F_11_feed_0 x1 x2 x3 x4 x5 Mc) := by
  obtain ⟨h0, z0, k0⟩ := hr.z
  rw [P_12_feed_0, F_12_feed_0, P_11_feed_0, F_11_feed_0]
  generalize wr Mr 0 0 0 = M0 at *
  have ht := h0.2.2.1.1
  have e1 : rd M0 0 1 = nI (dT d).1 := h0.2.2.1.2.1
  have ec : rd Mc 1558 1 = nI (dT d).1 := hc.2.2.1.2.1
  have e20 : nI (dT d).1 + 20 = nI ((dT d).1 + 20) := l_adr 20 (dT d).1
  have el : (nI ((dT d).1 + 20) ≤ 600) ↔ (dT d).1 + 20 ≤ 600 := nI_leI (b := 600) (by omega) (by omega)
  have em : (nI (dT d).1 ≤ 580) ↔ (dT d).1 ≤ 580 := nI_leI (b := 580) (by omega) (by omega)
  rw [e1, ec, e20]
  by_cases c : (dT d).1 + 20 ≤ 600
  · have c1 := el.mpr c
    have c2 : nI (dT d).1 ≤ 580 := em.mpr (by omega)
    obtain ⟨a1, M1, a2, a3, a4, a5⟩ := r_feedL (x1 := x1) (x2 := x2) (x3 := x3) (x4 := x4) (x5 := x5) c e1 h0.2.2.1.2.2
    obtain ⟨p1, C1, f1, g1, b1, K1⟩ := c_put1 (x := x1) (t := (dT d).1) (by omega) ec
    obtain ⟨p2, C2, f2, g2, b2, K2⟩ := c_put1 (x := x2) (t := (dT d).1 + 4) (by omega) g1
    obtain ⟨p3, C3, f3, g3, b3, K3⟩ := c_put1 (x := x3) (t := (dT d).1 + 4 + 4) (by omega) g2
    obtain ⟨p4, C4, f4, g4, b4, K4⟩ := c_put1 (x := x4) (t := (dT d).1 + 4 + 4 + 4) (by omega) g3
    obtain ⟨p5, C5, f5, g5, b5, K5⟩ := c_put1 (x := x5) (t := (dT d).1 + 4 + 4 + 4 + 4) (by omega) g4
    have g5' : rd C5 1558 1 = nI ((dT d).1 + 20) := g5
    rw [if_pos c1, if_pos c2, a2, f1, F_11_feed_17, f2, F_11_feed_22, f3, F_11_feed_27, f4, F_11_feed_33, f5, F_11_feed_39, g5']
    have Kc : Kp (fun c j => (c = 1558 ∧ j = 1) ∨ (c = 1559 ∧ (dT d).1 ≤ j)) Mc C5 := (((K1.tr (K2.mono (fun c j z => by omega))).tr (K3.mono (fun c j z => by omega))).tr (K4.mono (fun c j z => by omega))).tr (K5.mono (fun c j z => by omega))
    obtain ⟨r1, r2, r3, r4, r5, r6, r7, r8, r9⟩ := h0
    obtain ⟨s1, s2, s3, s4, s5, s6, s7, s8, s9⟩ := hc
    have q2 : P_11_feed_17 x2 x3 x4 x5 C1 := by
      rw [P_11_feed_17, P_11_feed_22, P_11_feed_27, P_11_feed_33, f2, f3, f4]
      exact ⟨p2, p3, p4, p5⟩
    refine ⟨⟨fun _ => a1, fun y => absurd c1 y⟩, ⟨fun _ => ⟨p1, q2⟩, fun y => absurd c2 y⟩, fdD d x1 x2 x3 x4 x5, ⟨r1.k a5 (fun c j z => by omega), r2.k a5 (fun c j z => by omega), ⟨c, a3, a4⟩, r4.k a5 (fun c j z => by omega), r5.k a5 (fun c j z => by omega), ?_, ?_, ?_, ?_⟩, (rq_all k0).tr (a5.mono (fun c j z => by unfold rAll; omega)), ⟨s1.k Kc (fun c j z => by omega), s2.k Kc (fun c j z => by omega), ⟨c, g5', fun i hi => ?_⟩, s4.k Kc (fun c j z => by omega), s5.k Kc (fun c j z => by omega), ?_, ?_, ?_, ?_⟩, Kc.mono (fun c j z => by unfold cAll; omega), rfl⟩
    · rw [a5.g (by omega)]; exact r6
    · rw [a5.g (by omega)]; exact r7
    · rw [a5.g (by omega)]; exact r8
    · rw [a5.g (by omega)]; exact r9
    · have hi' : i < (dT d).1 + 20 := hi
      show rd C5 1559 i &&& 255 = nI (fdT x1 x2 x3 x4 x5 (dT d).1 (dT d).2 i) ∧ (rd C5 1559 i = 32 ↔ fdT x1 x2 x3 x4 x5 (dT d).1 (dT d).2 i = 32) ∧ fdT x1 x2 x3 x4 x5 (dT d).1 (dT d).2 i < 256
      by_cases ci : i < (dT d).1
      · have eT : fdT x1 x2 x3 x4 x5 (dT d).1 (dT d).2 i = (dT d).2 i := by unfold fdT; rw [if_pos ci]
        rw [eT, Kc.g (by omega)]
        exact s3.2.2 i ci
      · have fin : ∀ (x : Int32) (k : Nat), k < 4 → x = fdA x1 x2 x3 x4 x5 (i - (dT d).1) → (i - (dT d).1) % 4 = k % 4 → rd C5 1559 i = byC x (24 - 8 * (k % 4)) → rd C5 1559 i &&& 255 = nI (fdT x1 x2 x3 x4 x5 (dT d).1 (dT d).2 i) ∧ (rd C5 1559 i = 32 ↔ fdT x1 x2 x3 x4 x5 (dT d).1 (dT d).2 i = 32) ∧ fdT x1 x2 x3 x4 x5 (dT d).1 (dT d).2 i < 256 := by
          intro x k hk hx hm hv
          have eT : fdT x1 x2 x3 x4 x5 (dT d).1 (dT d).2 i = byN x (24 - 8 * (k % 4)) := by
            unfold fdT
            rw [if_neg ci, hm, hx]
          rw [eT, hv]
          obtain ⟨y1, y2⟩ := byC_r x (sh := 24 - 8 * (k % 4)) (by omega)
          exact ⟨y1, y2, (byN_r x (by omega)).1⟩
        by_cases c16 : i < (dT d).1 + 4
        · refine fin x1 (i - (dT d).1) (by omega) (by unfold fdA; rw [if_pos (by omega)]) rfl ?_
          rw [K5.g (by omega), K4.g (by omega), K3.g (by omega), K2.g (by omega)]
          have := b1 (i - (dT d).1) (by omega)
          rw [show (dT d).1 + (i - (dT d).1) = i by omega] at this
          exact this
        by_cases c12 : i < (dT d).1 + 4 + 4
        · refine fin x2 (i - ((dT d).1 + 4)) (by omega) (by unfold fdA; rw [if_neg (by omega), if_pos (by omega)]) (by omega) ?_
          rw [K5.g (by omega), K4.g (by omega), K3.g (by omega)]
          have := b2 (i - ((dT d).1 + 4)) (by omega)
          rw [show (dT d).1 + 4 + (i - ((dT d).1 + 4)) = i by omega] at this
          exact this
        by_cases c8 : i < (dT d).1 + 4 + 4 + 4
        · refine fin x3 (i - ((dT d).1 + 4 + 4)) (by omega) (by unfold fdA; rw [if_neg (by omega), if_neg (by omega), if_pos (by omega)]) (by omega) ?_
          rw [K5.g (by omega), K4.g (by omega)]
          have := b3 (i - ((dT d).1 + 4 + 4)) (by omega)
          rw [show (dT d).1 + 4 + 4 + (i - ((dT d).1 + 4 + 4)) = i by omega] at this
          exact this
        by_cases c4 : i < (dT d).1 + 4 + 4 + 4 + 4
        · refine fin x4 (i - ((dT d).1 + 4 + 4 + 4)) (by omega) (by unfold fdA; rw [if_neg (by omega), if_neg (by omega), if_neg (by omega), if_pos (by omega)]) (by omega) ?_
          rw [K5.g (by omega)]
          have := b4 (i - ((dT d).1 + 4 + 4 + 4)) (by omega)
          rw [show (dT d).1 + 4 + 4 + 4 + (i - ((dT d).1 + 4 + 4 + 4)) = i by omega] at this
          exact this
        · refine fin x5 (i - ((dT d).1 + 4 + 4 + 4 + 4)) (by omega) (by unfold fdA; rw [if_neg (by omega), if_neg (by omega), if_neg (by omega), if_neg (by omega)]) (by omega) ?_
          have := b5 (i - ((dT d).1 + 4 + 4 + 4 + 4)) (by omega)
          rw [show (dT d).1 + 4 + 4 + 4 + 4 + (i - ((dT d).1 + 4 + 4 + 4 + 4)) = i by omega] at this
          exact this
    · rw [Kc.g (by omega)]; exact s6
    · rw [Kc.g (by omega)]; exact s7
    · rw [Kc.g (by omega)]; exact s8
    · rw [Kc.g (by omega)]; exact s9
  · have c1 : ¬ nI ((dT d).1 + 20) ≤ 600 := fun y => c (el.mp y)
    have c2 : ¬ nI (dT d).1 ≤ 580 := fun y => by have := em.mp y; omega
    rw [if_neg c1, if_neg c2]
    exact ⟨⟨fun y => absurd y c1, fun _ => trivial⟩, ⟨fun y => absurd y c2, fun _ => trivial⟩, QD.ok h0 k0 Kp.rf hc Kp.rf⟩
