/-! MATHEMATICS 77: the calls law, walk, museum, both sides (printed by gen/q6.py) -/
def rTke (c j : Nat) : Prop := rQy c j ∨ (c = 0 ∧ (j = 1 ∨ j = 3)) ∨ (c = 0 ∧ j = 21) ∨ (78 ≤ c ∧ c < 238) ∨ (c = 0 ∧ j = 35) ∨ c = 17
def cTke (c j : Nat) : Prop := cQy c j ∨ (c = 1558 ∧ (j = 1 ∨ j = 2)) ∨ c = 1583 ∨ c = 1584 ∨ (c = 1592 ∧ j = 7) ∨ c = 1593
def tkD (d : ID) (L : List Int32) (w : WU) (pl : Int32) : ID := (dU d, dS d, L, w, dB d, dI d, (0, (dT d).2), pl, dR d, dN d, dE d)
theorem RIt0 {f : Nat → Nat} {M : Mem} (h : rd M 0 1 = 0) : RIt (0, f) M := ⟨Nat.zero_le _, h, fun i hi => absurd (show i < 0 from hi) (by omega)⟩
theorem CIt0 {f : Nat → Nat} {M : Mem} (h : rd M 1558 1 = 0) : CIt (0, f) M := ⟨Nat.zero_le _, h, fun i hi => absurd (show i < 0 from hi) (by omega)⟩
theorem RI.tk {d : ID} {M M' : Mem} {L : List Int32} {w : WU} {pl : Int32} (h : RI d M) (hk : Kp rTke M M') (h1 : rd M' 0 1 = 0) (h3 : rd M' 0 3 = pl) (hL : RL L M') (hw : RK w M') : RI (tkD d L w pl) M' := by
  obtain ⟨⟨a1, a2, a3⟩, b2, b3, b4, b5, b6, b7, b8, b9⟩ := h
  refine ⟨⟨a1.k hk (fun c j z => ?_), ?_, hL⟩, hw, RIt0 h1, b4.k hk (fun c j z => ?_), b5.k hk (fun c j z => ?_), h3, ?_, ?_, ?_⟩
  · unfold rTke rQy at z; omega
  · rw [hk.row (c := 20) (fun j z => by unfold rTke rQy at z; omega)]; exact a2
  · unfold rTke rQy at z; omega
  · unfold rTke rQy at z; omega
  · rw [hk.g (by unfold rTke rQy; omega)]; exact b7
  · rw [hk.g (by unfold rTke rQy; omega)]; exact b8
  · rw [hk.g (by unfold rTke rQy; omega)]; exact b9
theorem CI.tk {d : ID} {M M' : Mem} {L : List Int32} {w : WU} {pl : Int32} (h : CI d M) (hk : Kp cTke M M') (h1 : rd M' 1558 1 = 0) (h3 : rd M' 1558 2 = pl) (hL : CL L M') (hw : CK w M') : CI (tkD d L w pl) M' := by
  obtain ⟨⟨a1, a2, a3⟩, b2, b3, b4, b5, b6, b7, b8, b9⟩ := h
  refine ⟨⟨a1.k hk (fun c j z => ?_), a2.k hk (fun c j z => ?_), hL⟩, hw, CIt0 h1, b4.k hk (fun c j z => ?_), b5.k hk (fun c j z => ?_), h3, ?_, ?_, ?_⟩
  · unfold cTke cQy at z; omega
  · unfold cTke cQy at z; omega
  · unfold cTke cQy at z; omega
  · unfold cTke cQy at z; omega
  · rw [hk.g (by unfold cTke cQy; omega)]; exact b7
  · rw [hk.g (by unfold cTke cQy; omega)]; exact b8
  · rw [hk.g (by unfold cTke cQy; omega)]; exact b9
theorem CL.k2 {p : Nat → Nat → Prop} {L : List Int32} {M M' : Mem} (h : CL L M) (hk : Kp p M M') (hp : ∀ a j, p a j → ¬ (a = 1583 ∧ j = 3) ∧ a ≠ 1584) : CL L M' := ⟨h.1, by rw [hk.g (fun z => (hp _ _ z).1 ⟨rfl, rfl⟩)]; exact h.2.1, fun i hi => by rw [hk.g (fun z => (hp _ _ z).2 rfl)]; exact h.2.2 i hi⟩
theorem rt_all {M M' : Mem} (h : Kp rTke M M') : Kp rAll M M' := h.mono (fun c j z => by unfold rTke rQy at z; unfold rAll; omega)
theorem ct_all {M M' : Mem} (h : Kp cTke M M') : Kp cAll M M' := h.mono (fun c j z => by unfold cTke cQy at z; unfold cAll; omega)
theorem q_law (x1 : Int32) {d : ID} {Mr Mc : Mem} (hr : RI d Mr) (hc : CI d Mc) : P_12_law_0 x1 Mr ∧ P_11_law_0 x1 Mc ∧ QC 0 1 Mr Mc (F_12_law_0 x1 Mr) (F_11_law_0 x1 Mc) := by
  rcases (rng (x := x1) (t := (dT d).1) (B := 150) hr.2.2.1.1 (by omega) (M := wr Mr 0 0 0)).symm with ⟨hx, nc⟩ | ⟨n, rfl, hnt, hn⟩
  · obtain ⟨h0, z0, k0⟩ := hr.z
    have hx' : F_12_in_0 (wr Mr 0 0 0) x1 0 (nI (dT d).1) = 0 ∨ ¬ x1 ≤ 150 := hx
    have nc' : ¬ (0 ≤ x1 ∧ x1 ≤ (if nI (dT d).1 < 150 then nI (dT d).1 else 150)) := nc
    have ec : rd Mc 1558 1 = nI (dT d).1 := hc.2.2.1.2.1
    rw [P_12_law_0, F_12_law_0, P_11_law_0, F_11_law_0]
    generalize wr Mr 0 0 0 = M0 at *
    have er : rd M0 0 1 = nI (dT d).1 := h0.2.2.1.2.1
    by_cases ci : F_12_in_0 M0 x1 0 (nI (dT d).1) = 0
    · simp only [er, ec, ci, nc', bdE z0 one_ne, F_12_law_25, P_12_law_25, F_12_law_30, P_12_law_30, F_12_law_35, P_12_law_35, if_true, if_false, true_imp_iff, false_imp_iff, not_true_eq_false, not_false_eq_true, true_and, and_true, false_and, and_false, and_self, implies_true, i1_0, i0_1, one_ne, reduceIte]
      exact QC.e one_ne h0 k0 hc
    · have h2 : ¬ x1 ≤ 150 := hx'.elim (fun y => absurd y ci) id
      simp only [er, ec, ci, h2, nc', bdE z0 one_ne, F_12_law_25, P_12_law_25, F_12_law_30, P_12_law_30, F_12_law_35, P_12_law_35, if_true, if_false, true_imp_iff, false_imp_iff, not_true_eq_false, not_false_eq_true, true_and, and_true, false_and, and_false, and_self, implies_true, i1_0, i0_1, one_ne, reduceIte]
      exact QC.e one_ne h0 k0 hc
  obtain ⟨a1, M1, a2, a3, a4, a5⟩ := r_lawG (tb := (dT d).2) hn hnt hr.2.2.1.1 hr.2.2.1.2.1 hr.2.2.1.2.2
  obtain ⟨b1, M2, b2, b3, b4⟩ := c_lawG (tb := (dT d).2) hn hnt hc.2.2.1.1 hc.2.2.1.2.1 hc.2.2.1.2.2
  refine ⟨a1, b1, ?_⟩
  have k1 : Kp rTke Mr M1 := a2.mono (fun c j z => by unfold rB0 rBg at z; unfold rTke rQy; omega)
  have k2 : Kp cTke Mc M2 := b2.mono (fun c j z => by unfold cTk at z; unfold cTke cQy; omega)
  generalize F_12_law_0 (nI n) Mr = z at *
  obtain ⟨v, M3⟩ := z
  generalize F_11_law_0 (nI n) Mc = y at *
  cases oo : lawA (dT d).2 n with
  | inl e =>
    rw [oo] at a5 b4
    obtain ⟨c1, c2, c3, c4, c5, c6⟩ : v = nI e.1 - 10 ∧ rd M3 0 3 = nI e.2 ∧ 1 ≤ e.1 ∧ e.1 ≤ 3 ∧ e.2 ≤ 600 ∧ Kp (fun c j => rL c j ∨ (c = 0 ∧ j = 3)) M1 M3 := a5
    obtain ⟨M4, e1, e2, e3⟩ := b4
    have k3 : Kp rTke M1 M3 := c6.mono (fun c j z => by unfold rL at z; unfold rTke rQy; omega)
    have k4 : Kp cTke M2 M4 := e3.mono (fun c j z => by unfold cLw at z; unfold cTke cQy; omega)
    have K3 := k1.tr k3
    have K4 := k2.tr k4
    refine ⟨tkD d (dL d) (dW d) (nI e.2), M4, hr.tk K3 (by rw [c6.g (by unfold rL; omega)]; exact a4) c2 ?_ ?_, rt_all K3, hc.tk K4 (by rw [e3.g (by unfold cLw; omega)]; exact b3) e2 ?_ ?_, ct_all K4, Or.inl ⟨by rw [c6.g (by unfold rL; omega)]; exact a3, by rw [e1, c1]⟩⟩
    · exact (hr.1.2.2.k a2 (fun c j z => by unfold rB0 rBg at z; omega)).k c6 (fun c j z => by unfold rL at z; omega)
    · exact (hr.2.1.k a2 (fun c j z => by unfold rB0 rBg at z; omega)).k c6 (fun c j z => by unfold rL at z; omega)
    · exact (hc.1.2.2.k b2 (fun c j z => by unfold cTk at z; omega)).k2 e3 (fun c j z => by unfold cLw at z; omega)
    · exact (hc.2.1.k b2 (fun c j z => by unfold cTk at z; omega)).k e3 (fun c j z => by unfold cLw at z; omega)
  | inr L =>
    rw [oo] at a5 b4
    obtain ⟨c1, c2, c3, c6⟩ : v = 1 ∧ rd M3 0 3 = -1 ∧ RL L M3 ∧ Kp (fun c j => rL c j ∨ (c = 0 ∧ (j = 3 ∨ j = 21)) ∨ rLb c j) M1 M3 := a5
    obtain ⟨M4, e1, e2, e4, e3'⟩ := b4
    have e3 : Kp (fun c j => cLw c j ∨ (c = 1583 ∧ j = 3) ∨ c = 1584 ∨ (c = 1558 ∧ j = 2)) M2 M4 := e3'
    have k3 : Kp rTke M1 M3 := c6.mono (fun c j z => by unfold rL rLb at z; unfold rTke rQy; omega)
    have k4 : Kp cTke M2 M4 := e3.mono (fun c j z => by unfold cLw at z; unfold cTke cQy; omega)
    have K3 := k1.tr k3
    have K4 := k2.tr k4
    refine ⟨tkD d L (dW d) (-1), M4, hr.tk K3 (by rw [c6.g (by unfold rL rLb; omega)]; exact a4) c2 c3 ?_, rt_all K3, hc.tk K4 (by rw [e3.g (by unfold cLw; omega)]; exact b3) e2 e4 ?_, ct_all K4, Or.inl ⟨by rw [c6.g (by unfold rL rLb; omega)]; exact a3, by rw [e1, c1]⟩⟩
    · exact (hr.2.1.k a2 (fun c j z => by unfold rB0 rBg at z; omega)).k c6 (fun c j z => by unfold rL rLb at z; omega)
    · exact (hc.2.1.k b2 (fun c j z => by unfold cTk at z; omega)).k e3 (fun c j z => by unfold cLw at z; omega)
theorem q_walk (x1 : Int32) {d : ID} {Mr Mc : Mem} (hr : RI d Mr) (hc : CI d Mc) : P_12_walk_0 x1 Mr ∧ P_11_walk_0 x1 Mc ∧ QC 0 1 Mr Mc (F_12_walk_0 x1 Mr) (F_11_walk_0 x1 Mc) := by
  rcases (rng (x := x1) (t := (dT d).1) (B := 60) hr.2.2.1.1 (by omega) (M := wr Mr 0 0 0)).symm with ⟨hx, nc⟩ | ⟨n, rfl, hnt, hn⟩
  · obtain ⟨h0, z0, k0⟩ := hr.z
    have hx' : F_12_in_0 (wr Mr 0 0 0) x1 0 (nI (dT d).1) = 0 ∨ ¬ x1 ≤ 60 := hx
    have nc' : ¬ (0 ≤ x1 ∧ x1 ≤ (if nI (dT d).1 < 60 then nI (dT d).1 else 60)) := nc
    have ec : rd Mc 1558 1 = nI (dT d).1 := hc.2.2.1.2.1
    rw [P_12_walk_0, F_12_walk_0, P_11_walk_0, F_11_walk_0]
    generalize wr Mr 0 0 0 = M0 at *
    have er : rd M0 0 1 = nI (dT d).1 := h0.2.2.1.2.1
    by_cases ci : F_12_in_0 M0 x1 0 (nI (dT d).1) = 0
    · simp only [er, ec, ci, nc', bdE z0 one_ne, F_12_walk_24, P_12_walk_24, F_12_walk_29, P_12_walk_29, F_12_walk_34, P_12_walk_34, if_true, if_false, true_imp_iff, false_imp_iff, not_true_eq_false, not_false_eq_true, true_and, and_true, false_and, and_false, and_self, implies_true, i1_0, i0_1, one_ne, reduceIte]
      exact QC.e one_ne h0 k0 hc
    · have h2 : ¬ x1 ≤ 60 := hx'.elim (fun y => absurd y ci) id
      simp only [er, ec, ci, h2, nc', bdE z0 one_ne, F_12_walk_24, P_12_walk_24, F_12_walk_29, P_12_walk_29, F_12_walk_34, P_12_walk_34, if_true, if_false, true_imp_iff, false_imp_iff, not_true_eq_false, not_false_eq_true, true_and, and_true, false_and, and_false, and_self, implies_true, i1_0, i0_1, one_ne, reduceIte]
      exact QC.e one_ne h0 k0 hc
  obtain ⟨a1, M1, a2, a3, a4, a5⟩ := r_walkG (tb := (dT d).2) hn hnt hr.2.2.1.1 hr.2.2.1.2.1 hr.2.2.1.2.2
  obtain ⟨b1, M2, b2, b3, b4⟩ := c_walkG (tb := (dT d).2) hn hnt hc.2.2.1.1 hc.2.2.1.2.1 hc.2.2.1.2.2
  refine ⟨a1, b1, ?_⟩
  have k1 : Kp rTke Mr M1 := a2.mono (fun c j z => by unfold rB0 rBg rK at z; unfold rTke rQy; omega)
  have k2 : Kp cTke Mc M2 := b2.mono (fun c j z => by unfold cTk at z; unfold cTke cQy; omega)
  generalize F_12_walk_0 (nI n) Mr = z at *
  obtain ⟨v, M3⟩ := z
  generalize F_11_walk_0 (nI n) Mc = y at *
  cases oo : walkA (dT d).2 n with
  | inl e =>
    rw [oo] at a5 b4
    obtain ⟨c1, c2, c3, c4, c5, c6⟩ : v = nI e.1 - 10 ∧ rd M3 0 3 = nI e.2 ∧ 1 ≤ e.1 ∧ e.1 ≤ 3 ∧ e.2 ≤ 600 ∧ Kp (fun c j => c = 0 ∧ j = 3) M1 M3 := a5
    obtain ⟨M4, e1, e2, e3⟩ := b4
    have k3 : Kp rTke M1 M3 := c6.mono (fun c j z => by unfold rTke rQy; omega)
    have k4 : Kp cTke M2 M4 := e3.mono (fun c j z => by unfold cTke cQy; omega)
    have K3 := k1.tr k3
    have K4 := k2.tr k4
    refine ⟨tkD d (dL d) (dW d) (nI e.2), M4, hr.tk K3 (by rw [c6.g (by omega)]; exact a4) c2 ?_ ?_, rt_all K3, hc.tk K4 (by rw [e3.g (by omega)]; exact b3) e2 ?_ ?_, ct_all K4, Or.inl ⟨by rw [c6.g (by omega)]; exact a3, by rw [e1, c1]⟩⟩
    · exact (hr.1.2.2.k a2 (fun c j z => by unfold rB0 rBg rK at z; omega)).k c6 (fun c j z => by omega)
    · exact (hr.2.1.k a2 (fun c j z => by unfold rB0 rBg rK at z; omega)).k c6 (fun c j z => by omega)
    · exact (hc.1.2.2.k b2 (fun c j z => by unfold cTk at z; omega)).k e3 (fun c j z => by omega)
    · exact (hc.2.1.k b2 (fun c j z => by unfold cTk at z; omega)).k e3 (fun c j z => by omega)
  | inr w =>
    rw [oo] at a5 b4
    obtain ⟨c1, c2, c3, c6⟩ : v = nI w.1 ∧ rd M3 0 3 = -1 ∧ RK w M3 ∧ Kp (fun c j => (c = 0 ∧ (j = 3 ∨ j = 35)) ∨ c = 17) M1 M3 := a5
    obtain ⟨M4, e1, e2, e4, e3⟩ := b4
    have k3 : Kp rTke M1 M3 := c6.mono (fun c j z => by unfold rTke rQy; omega)
    have k4 : Kp cTke M2 M4 := e3.mono (fun c j z => by unfold cK at z; unfold cTke cQy; omega)
    have K3 := k1.tr k3
    have K4 := k2.tr k4
    refine ⟨tkD d (dL d) w (-1), M4, hr.tk K3 (by rw [c6.g (by omega)]; exact a4) c2 ?_ c3, rt_all K3, hc.tk K4 (by rw [e3.g (by unfold cK; omega)]; exact b3) e2 ?_ e4, ct_all K4, Or.inl ⟨by rw [c6.g (by omega)]; exact a3, by rw [e1, c1]⟩⟩
    · exact (hr.1.2.2.k a2 (fun c j z => by unfold rB0 rBg rK at z; omega)).k c6 (fun c j z => by omega)
    · exact (hc.1.2.2.k b2 (fun c j z => by unfold cTk at z; omega)).k e3 (fun c j z => by unfold cK at z; omega)
def muD (d : ID) (D : DU) : ID := (D.1, s0U D, [-1], w0U, (0, fun _ => s0U D), (0, fun _ => (0, s0U D, fun _ => s0U D)), (0, (dT d).2), -1, 0, dN d, dE d)
theorem q_museum (x1 : Int32) {d : ID} {Mr Mc : Mem} (hr : RI d Mr) (hc : CI d Mc) : P_12_museum_0 x1 Mr ∧ P_11_museum_0 x1 Mc ∧ QC 0 1 Mr Mc (F_12_museum_0 x1 Mr) (F_11_museum_0 x1 Mc) := by
  have ht := hr.2.2.1.1
  rcases (rngB (x := x1) (B := (dT d).1) ht).symm with ⟨hx, nc⟩ | ⟨n, hnt, rfl, _, _⟩
  · obtain ⟨h0, z0, k0⟩ := hr.z
    have nc' : ¬ (0 ≤ x1 ∧ x1 ≤ (if nI (dT d).1 < 600 then nI (dT d).1 else 600)) := by
      intro y
      apply nc
      refine ⟨y.1, ?_⟩
      have y2 := y.2
      split at y2
      · exact y2
      · next hh =>
        have e6 : (nI (dT d).1 < 600) ↔ (dT d).1 < 600 := nI_ltI (b := 600) (by omega) (by omega)
        have : (dT d).1 = 600 := by
          have : ¬ (dT d).1 < 600 := fun w => hh (e6.mpr w)
          omega
        rw [this]; exact y2
    have ec : rd Mc 1558 1 = nI (dT d).1 := hc.2.2.1.2.1
    rw [P_12_museum_0, F_12_museum_0, P_11_museum_0, F_11_museum_0]
    generalize wr Mr 0 0 0 = M0 at *
    have er : rd M0 0 1 = nI (dT d).1 := h0.2.2.1.2.1
    simp only [er, ec, hx, nc', bdE z0 one_ne, F_12_museum_23, P_12_museum_23, F_12_museum_28, P_12_museum_28, if_true, if_false, true_imp_iff, false_imp_iff, not_true_eq_false, not_false_eq_true, true_and, and_true, false_and, and_false, and_self, implies_true, i1_0, i0_1, one_ne, reduceIte]
    exact QC.e one_ne h0 k0 hc
  obtain ⟨a1, M1, a2, a3, a4, a5⟩ := r_musG (tb := (dT d).2) hnt hr.2.2.1.1 hr.2.2.1.2.1 hr.2.2.1.2.2
  obtain ⟨b1, M2, b2, b3, b4⟩ := c_musG (tb := (dT d).2) hnt hc.2.2.1.1 hc.2.2.1.2.1 hc.2.2.1.2.2
  refine ⟨a1, b1, ?_⟩
  have k1 : Kp rTke Mr M1 := a2.mono (fun c j z => by unfold rB0 rBg rC rD at z; unfold rTke rQy; omega)
  have k2 : Kp cTke Mc M2 := b2.mono (fun c j z => by unfold cTk cD at z; unfold cTke cQy; omega)
  generalize F_12_museum_0 (nI n) Mr = z at *
  obtain ⟨v, M3⟩ := z
  generalize F_11_museum_0 (nI n) Mc = y at *
  cases oo : musT (dT d).2 n with
  | inl e =>
    rw [oo] at a5 b4
    obtain ⟨c1, c2, c3, c4, c5, c6⟩ : v = nI e.1 - 10 ∧ rd M3 0 3 = nI e.2 ∧ 1 ≤ e.1 ∧ e.1 ≤ 3 ∧ e.2 ≤ 600 ∧ Kp (fun c j => c = 0 ∧ j = 3) M1 M3 := a5
    obtain ⟨M4, e1, e2, e3⟩ := b4
    have k3 : Kp rTke M1 M3 := c6.mono (fun c j z => by unfold rTke rQy; omega)
    have k4 : Kp cTke M2 M4 := e3.mono (fun c j z => by unfold cTke cQy; omega)
    have K3 := k1.tr k3
    have K4 := k2.tr k4
    refine ⟨tkD d (dL d) (dW d) (nI e.2), M4, hr.tk K3 (by rw [c6.g (by omega)]; exact a4) c2 ?_ ?_, rt_all K3, hc.tk K4 (by rw [e3.g (by omega)]; exact b3) e2 ?_ ?_, ct_all K4, Or.inl ⟨by rw [c6.g (by omega)]; exact a3, by rw [e1, c1]⟩⟩
    · exact (hr.1.2.2.k a2 (fun c j z => by unfold rB0 rBg rC rD at z; omega)).k c6 (fun c j z => by omega)
    · exact (hr.2.1.k a2 (fun c j z => by unfold rB0 rBg rC rD at z; omega)).k c6 (fun c j z => by omega)
    · exact (hc.1.2.2.k b2 (fun c j z => by unfold cTk cD at z; omega)).k e3 (fun c j z => by omega)
    · exact (hc.2.1.k b2 (fun c j z => by unfold cTk cD at z; omega)).k e3 (fun c j z => by omega)
  | inr D =>
    rw [oo] at a5 b4
    obtain ⟨c1, c2, c3, M5, rfl, f1, f2, f3, f4, f5, f6, f7, f8, f9⟩ : v = nI (uN D.1) ∧ rd M3 0 3 = -1 ∧ DW D ∧ anQ D (wr M1 0 3 (-1)) M3 := a5
    obtain ⟨M4, e1, e2, e3, e4, e5, e6, e7, e8, e9⟩ := b4
    have k5 : Kp (fun c j => rAn c j ∨ (c = 0 ∧ j = 3)) M1 M3 := (Kp.w (p := fun c j => rAn c j ∨ (c = 0 ∧ j = 3)) Kp.rf (Or.inr ⟨rfl, rfl⟩)).tr (f9.mono (fun c j z => Or.inl z))
    have w0 : ∀ M : Mem, rd M 0 35 = 0 → RK w0U M := fun M h => ⟨WW0, h, fun k hk => absurd (show k < 0 from hk) (by omega)⟩
    refine ⟨muD d D, M4, ⟨⟨f1, f2, LW1, Or.inl ⟨f4, rfl⟩⟩, w0 _ f5, RIt0 (by rw [k5.g (by unfold rAn; omega)]; exact a4), ⟨Nat.zero_le _, f6, fun i hi => absurd (show i < 0 from hi) (by omega)⟩, ⟨Nat.zero_le _, f8, fun i hi => absurd (show i < 0 from hi) (by omega)⟩, c2, f7, ?_, ?_⟩, (rt_all k1).tr (k5.mono (fun c j z => by unfold rAn at z; unfold rAll; omega)), ⟨e2, ⟨WW0, e3, fun k hk => absurd (show k < 0 from hk) (by omega)⟩, CIt0 (by rw [e9.g (by unfold cAn cCp cBg; omega)]; exact b3), ⟨Nat.zero_le _, e4, fun i hi => absurd (show i < 0 from hi) (by omega)⟩, ⟨Nat.zero_le _, e6, fun i hi => absurd (show i < 0 from hi) (by omega)⟩, e5, e7, ?_, ?_⟩, (ct_all k2).tr (e9.mono (fun c j z => by unfold cAn cCp cBg at z; unfold cAll; omega)), Or.inl ⟨?_, by rw [e1, c1]⟩⟩
    · show rd M3 2 0 = dN d
      rw [k5.g (by unfold rAn; omega), k1.g (by unfold rTke rQy; omega)]; exact hr.2.2.2.2.2.2.2.1
    · show rd M3 2 1 = dE d
      rw [k5.g (by unfold rAn; omega), k1.g (by unfold rTke rQy; omega)]; exact hr.2.2.2.2.2.2.2.2
    · show rd M4 1558 3 = dN d
      rw [e9.g (by unfold cAn cCp cBg; omega), k2.g (by unfold cTke cQy; omega)]; exact hc.2.2.2.2.2.2.2.1
    · show rd M4 1558 4 = dE d
      rw [e9.g (by unfold cAn cCp cBg; omega), k2.g (by unfold cTke cQy; omega)]; exact hc.2.2.2.2.2.2.2.2
    · rw [k5.g (by unfold rAn; omega)]; exact a3
