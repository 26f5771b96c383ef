/-! MATHEMATICS 79: the calls work and undo, both sides (printed by gen/q7.py) -/
theorem isS_68 : ∀ k, k < 68 → isS (1622 + 3 * k) := by unfold isS; decide +kernel
theorem isS_w {k : Nat} (h : k < 16) : isS (1625 + 3 * k) := by
  have := isS_68 (k + 1) (by omega)
  rw [show 1622 + 3 * (k + 1) = 1625 + 3 * k by omega] at this
  exact this
theorem isS_0 : isS 1622 := isS_68 0 (by omega)
def CWe (d : ID) (tb : Nat → Nat) (n : Nat) (M : Mem) (z : Oc) : Prop := match wkP tb n (dU d) with
  | .inl e => ∃ M', z = .inl (some (.int (nI e.1 - 10)), M') ∧ rd M' 1558 2 = nI e.2 ∧ Kp (fun c j => cSs 0 c j ∨ (c = 1558 ∧ j = 2)) M M'
  | .inr y => ∃ M', z = .inl (some (.int (nI (rnP (dU d) (dL d) 7 y.1 (0, 0, 0, dS d)).2.1)), M') ∧ CI (wkD d (rnP (dU d) (dL d) 7 y.1 (0, 0, 0, dS d))) M' ∧ Kp cAll M M'
theorem c_keep {k : Nat} {u : MU} {s : SU} {M : Mem} (hk : k < 16) (h : rd M 1614 2 = nI k) (hu : UW u) (hr : CR 1622 u s M) : P_8_keep_0 M ∧ ∃ M', F_8_keep_0 M = M' ∧ rd M' 1614 2 = nI (k + 1) ∧ CR (1622 + 3 * (k + 1)) u s M' ∧ Kp (fun c j => (c = 1614 ∧ j = 2) ∨ (1625 + 3 * k ≤ c ∧ c ≤ 1627 + 3 * k)) M M' := by
  have e16 : ¬ (16 : Int32) ≤ nI k := nI_ge (b := 16) hk (by omega)
  have v : vp_in (nI k) 16 := (vp_iff (by omega)).mpr hk
  obtain ⟨a1, a2⟩ := st_copy (a := 1625 + 3 * k) (b := 1622) (by omega) hr hu
  have K : Kp (fun c j => (c = 1614 ∧ j = 2) ∨ (1625 + 3 * k ≤ c ∧ c ≤ 1627 + 3 * k)) M (wr (stCopy (1625 + 3 * k) 1622 M) 1614 2 (nI (k + 1))) := (a2.mono (fun c j z => by omega)).w (Or.inl ⟨rfl, rfl⟩)
  have e2 : rd (stCopy (1625 + 3 * k) 1622 M) 1614 2 = nI k := by rw [a2.g (by omega)]; exact h
  rw [P_8_keep_0, F_8_keep_0, h, if_neg e16, nI_clamp (n := k) (by omega), F_8_keep_25, e2, nI_1]
  refine ⟨⟨fun y => absurd y e16, fun _ => ⟨v, isS_w hk, isS_0⟩⟩, _, rfl, rd_s _ _ _ _, ?_, K⟩
  have e3 : 1622 + 3 * (k + 1) = 1625 + 3 * k := by omega
  rw [e3]
  exact a1.k (Kp.w (p := fun c j => c = 1614 ∧ j = 2) Kp.rf ⟨rfl, rfl⟩) (fun c j z => by omega)
theorem c_work13 {d : ID} {tb : Nat → Nat} {n : Nat} {M : Mem} (hn : n ≤ 150) (h : CT tb n 0 M) (hc : CI (tkD d (dL d) (dW d) (dP d)) M) (hk : (dB d).1 < 16) : P_11_work_13 M ∧ CWe d tb n M (F_11_work_13 M) := by
  obtain ⟨a1, a2, a3⟩ := c_wtx hn h hc.1.1
  obtain ⟨r1, r2, r3, r4, r5, r6, r7, r8, r9⟩ := hc
  have ek : rd M 1614 2 = nI (dB d).1 := r4.2.1
  have e16 : nI (dB d).1 < 16 := (nI_ltI (b := 16) (by omega) (by omega)).mpr hk
  rw [P_11_work_13, F_11_work_13, ek, if_pos e16]
  generalize F_10_read_0 M = z at *
  obtain ⟨x, M1⟩ := z
  have a3' : Kp (cSs 0) M M1 := a3
  suffices hs : P_11_work_48 x M1 ∧ CWe d tb n M (F_11_work_48 x M1) from ⟨⟨fun _ => ⟨a1, hs.1⟩, fun y => absurd e16 y⟩, hs.2⟩
  unfold CWe
  cases oo : wkP tb n (dU d) with
  | inl e =>
    rw [show wkP tb n (dU (tkD d (dL d) (dW d) (dP d))) = wkP tb n (dU d) from rfl, oo] at a2
    obtain ⟨b1, b2⟩ : x = 0 ∧ CErr e M1 := a2
    rw [P_11_work_48, F_11_work_48, if_pos b1, c_fot b2, F_11_work_55]
    exact ⟨⟨fun y => absurd b1 y, fun _ => trivial⟩, _, rfl, rd_s _ _ _ _, (a3'.mono (fun c j z => Or.inl z)).w (Or.inr ⟨rfl, rfl⟩)⟩
  | inr y =>
    obtain ⟨l, p'⟩ := y
    rw [show wkP tb n (dU (tkD d (dL d) (dW d) (dP d))) = wkP tb n (dU d) from rfl, oo] at a2
    obtain ⟨b1, b2, b3, b4⟩ : x = 1 ∧ CT tb n p' M1 ∧ rd M1 1587 4 = nI (0 + szP 2 7 l) ∧ CAP 7 l 0 M1 := a2
    have gb : 2 * szP 1 7 l + 0 ≤ p' ∧ p' ≤ n ∧ PWP (dU d) 7 l := by
      have := wst_b (tb := tb) (n := n) (u := dU d) 7 0 0 (by omega) (Nat.zero_le _)
      have e : wSt tb n (dU d) 7 0 0 = .inr (l, p') := oo
      rw [e] at this
      exact this
    have g2 := szP2 7 l
    have K1 : Kp (fun c j => cSs 0 c j ∨ (c = 1558 ∧ j = 2)) M (wr M1 1558 2 (-1)) := (a3'.mono (fun c j z => Or.inl z)).w (Or.inr ⟨rfl, rfl⟩)
    have V1 : CV (dU d) (dS d) (dL d) (wr M1 1558 2 (-1)) := r1.k K1 (fun c j z => by unfold cSs at z; omega)
    obtain ⟨c1, M2, c2, c3, c4, c5⟩ := c_keep (k := (dB d).1) (M := wr M1 1558 2 (-1)) hk (by rw [K1.g (by unfold cSs; omega)]; exact ek) V1.1.1 V1.2.1
    have V2 : CV (dU d) (dS d) (dL d) M2 := V1.k c5 (fun c j z => by omega)
    have A2 : CAP 7 l 0 M2 := CAP.g 7 l 0 b4 (fun x _ _ => ⟨by rw [c5.g (by omega), rd_c (by decide)], by rw [c5.g (by omega), rd_c (by decide)], by rw [c5.g (by omega), rd_c (by decide)]⟩)
    have l2 : rd M2 1587 4 = nI (szP 2 7 l) := by rw [c5.g (by omega), rd_c (by decide), b3, Nat.zero_add]
    obtain ⟨d1, M3, d2, d3, d4⟩ := c_run V2 A2 gb.2.2 l2 (by omega)
    have KA : Kp (fun c j => (c = 1560 ∧ 2 ≤ j ∧ j ≤ 7) ∨ (c = 1558 ∧ (j = 2 ∨ j = 5)) ∨ (1586 ≤ c ∧ c ≤ 1591) ∨ (c = 1614 ∧ j = 2) ∨ (1625 + 3 * (dB d).1 ≤ c ∧ c ≤ 1627 + 3 * (dB d).1) ∨ (1622 ≤ c ∧ c ≤ 1624)) M (wr M3 1558 5 (rd M3 1587 6)) := (((K1.mono (fun c j z => by unfold cSs at z; omega)).tr (c5.mono (fun c j z => by omega))).tr (d4.mono (fun c j z => by unfold cRn cDo at z; omega))).w (Or.inr (Or.inl ⟨rfl, by omega⟩))
    have e5 : rd (wr M3 1558 5 (rd M3 1587 6)) 1587 5 = nI (rnP (dU d) (dL d) 7 l (0, 0, 0, dS d)).2.1 := by rw [rd_c (by decide)]; exact d3.2.2.1
    have K5 : Kp (fun c j => c = 1558 ∧ j = 5) M3 (wr M3 1558 5 (rd M3 1587 6)) := Kp.rf.w ⟨rfl, rfl⟩
    have eB : ∀ i, ¬ i = (dB d).1 → upS (dB d).2 (dB d).1 (dS d) i = (dB d).2 i := fun i hi => by unfold upS; rw [if_neg hi]
    have eB' : upS (dB d).2 (dB d).1 (dS d) (dB d).1 = dS d := by unfold upS; rw [if_pos rfl]
    rw [P_11_work_48, F_11_work_48, if_neg (x1 b1), c2, P_11_work_68, F_11_work_68, d2, F_11_work_87, e5]
    refine ⟨⟨fun _ => ⟨c1, d1⟩, fun y => absurd y (x1 b1)⟩, _, rfl, ⟨d3.1.k K5 (fun c j z => by omega), r2.k KA (fun c j z => by omega), r3.k KA (fun c j z => by omega), ⟨show (dB d).1 + 1 ≤ 16 by omega, ?_, fun i hi => ?_⟩, r5.k KA (fun c j z => by omega), ?_, ?_, ?_, ?_⟩, KA.mono (fun c j z => by unfold cAll; omega)⟩
    · show rd (wr M3 1558 5 _) 1614 2 = nI ((dB d).1 + 1)
      rw [rd_c (by decide), d4.g (by unfold cRn cDo; omega)]; exact c3
    · have hi' : i < (dB d).1 + 1 := hi
      show CR (1622 + 3 * (i + 1)) (dU d) (upS (dB d).2 (dB d).1 (dS d) i) _
      by_cases e : i = (dB d).1
      · rw [e, eB']
        exact (c4.k d4 (fun c j z => by unfold cRn cDo at z; omega)).k K5 (fun c j z => by omega)
      · rw [eB i e]
        exact (r4.2.2 i (show i < (dB d).1 by omega)).k KA (fun c j z => by omega)
    · show rd (wr M3 1558 5 _) 1558 2 = -1
      rw [rd_i (by decide), d4.g (by unfold cRn cDo; omega), c5.g (by omega), rd_s]
    · show rd (wr M3 1558 5 (rd M3 1587 6)) 1558 5 = nI _
      rw [rd_s]; exact d3.2.2.2.1
    · rw [KA.g (by omega)]; exact r8
    · rw [KA.g (by omega)]; exact r9
theorem q_work (x1 : Int32) {d : ID} {Mr Mc : Mem} (hr : RI d Mr) (hc : CI d Mc) : P_12_work_0 x1 Mr ∧ P_11_work_0 x1 Mc ∧ QC 0 1 Mr Mc (F_12_work_0 x1 Mr) (F_11_work_0 x1 Mc) := by
  rcases (rng (x := x1) (t := (dT d).1) (B := 150) hr.2.2.1.1 (by omega) (M := wr Mr 0 0 0)).symm with ⟨hx, nc⟩ | ⟨n, rfl, hnt, hn⟩
  · obtain ⟨h0, z0, k0⟩ := hr.z
    have hx' : F_12_in_0 (wr Mr 0 0 0) x1 0 (nI (dT d).1) = 0 ∨ ¬ x1 ≤ 150 := hx
    have nc' : ¬ (0 ≤ x1 ∧ x1 ≤ (if nI (dT d).1 < 150 then nI (dT d).1 else 150)) := nc
    have ec : rd Mc 1558 1 = nI (dT d).1 := hc.2.2.1.2.1
    rw [P_12_work_0, F_12_work_0, P_11_work_0, F_11_work_0]
    generalize wr Mr 0 0 0 = M0 at *
    have er : rd M0 0 1 = nI (dT d).1 := h0.2.2.1.2.1
    by_cases ci : F_12_in_0 M0 x1 0 (nI (dT d).1) = 0
    · simp only [er, ec, ci, nc', bdE z0 one_ne, F_12_work_25, P_12_work_25, F_12_work_30, P_12_work_30, F_12_work_35, P_12_work_35, if_true, if_false, true_imp_iff, false_imp_iff, not_true_eq_false, not_false_eq_true, true_and, and_true, false_and, and_false, and_self, implies_true, i1_0, i0_1, one_ne, reduceIte]
      exact QC.e one_ne h0 k0 hc
    · have h2 : ¬ x1 ≤ 150 := hx'.elim (fun y => absurd y ci) id
      simp only [er, ec, ci, h2, nc', bdE z0 one_ne, F_12_work_25, P_12_work_25, F_12_work_30, P_12_work_30, F_12_work_35, P_12_work_35, if_true, if_false, true_imp_iff, false_imp_iff, not_true_eq_false, not_false_eq_true, true_and, and_true, false_and, and_false, and_self, implies_true, i1_0, i0_1, one_ne, reduceIte]
      exact QC.e one_ne h0 k0 hc
  have ht := hr.2.2.1.1
  have ec : rd Mc 1558 1 = nI (dT d).1 := hc.2.2.1.2.1
  have e0 : (0 : Int32) ≤ nI n := (nI_leI (a := 0) (by omega) (by omega)).mpr (Nat.zero_le _)
  have e150 : nI n ≤ 150 := (nI_leI (b := 150) (by omega) (by omega)).mpr hn
  have et : nI n ≤ nI (dT d).1 := (nI_leI (by omega) (by omega)).mpr hnt
  have cond : 0 ≤ nI n ∧ nI n ≤ (if nI (dT d).1 < 150 then nI (dT d).1 else 150) := by
    refine ⟨e0, ?_⟩
    split
    · exact et
    · exact e150
  obtain ⟨M2, b1, b2, b3, b4, b5⟩ := c_take (tb := (dT d).2) (n := n) (M := Mc) (by omega) (fun i hi => hc.2.2.1.2.2 i (by omega))
  have k2 : Kp cTke Mc M2 := b5.mono (fun c j z => by unfold cTk at z; unfold cTke cQy; omega)
  have C2 : CI (tkD d (dL d) (dW d) (dP d)) M2 := hc.tk k2 b3 (by rw [b5.g (by unfold cTk; omega)]; exact hc.2.2.2.2.2.1) (hc.1.2.2.k b5 (fun c j z => by unfold cTk at z; omega)) (hc.2.1.k b5 (fun c j z => by unfold cTk at z; omega))
  obtain ⟨h0, z0, k0⟩ := hr.z
  have a1 : rd (wr Mr 0 0 0) 0 1 = nI (dT d).1 := h0.2.2.1.2.1
  rw [P_12_work_0, F_12_work_0, P_11_work_0, F_11_work_0, ec, if_pos cond, b1, a1, r_in1 hnt ht, if_neg one_ne, if_pos e150]
  generalize wr Mr 0 0 0 = M0 at *
  obtain ⟨y1, y2⟩ := r_bad0 (x := 1) (y := 1) z0
  rw [P_12_work_30, F_12_work_30, y2, P_12_work_35, F_12_work_35, if_pos rfl]
  have e36 : rd M0 0 36 = nI (dB d).1 := h0.2.2.2.1.2.1
  have h16 := h0.2.2.2.1.1
  have ee : (nI (dB d).1 = 16) ↔ (dB d).1 = 16 := nI_eq (b := 16) (by omega) (by omega)
  rw [e36]
  by_cases full : (dB d).1 = 16
  · have f1 := ee.mpr full
    have e16 : ¬ rd M2 1614 2 < 16 := by
      rw [C2.2.2.2.1.2.1]
      show ¬ nI (dB d).1 < nI 16
      rw [nI_ltI (by omega) (by omega)]; omega
    have K3 : Kp rTke M0 (wr (wr M0 0 1 0) 0 3 (-1)) := (Kp.rf.w (by unfold rTke; omega)).w (by unfold rTke; omega)
    have K4 : Kp cTke M2 (wr M2 1558 2 (-1)) := Kp.rf.w (by unfold cTke; omega)
    have K4' : Kp (fun c j => c = 1558 ∧ j = 2) M2 (wr M2 1558 2 (-1)) := Kp.rf.w ⟨rfl, rfl⟩
    have K3' : Kp (fun c j => c = 0 ∧ (j = 1 ∨ j = 3)) M0 (wr (wr M0 0 1 0) 0 3 (-1)) := (Kp.rf.w ⟨rfl, by omega⟩).w ⟨rfl, by omega⟩
    rw [if_pos f1, P_11_work_13, F_11_work_13, if_neg e16]
    refine ⟨⟨fun y => absurd y one_ne, fun _ => ⟨fun _ => ⟨y1, fun _ => ⟨fun y => absurd f1 y, fun _ => trivial⟩, fun y => absurd rfl y⟩, fun y => absurd e150 y⟩⟩, fun _ => ⟨fun y => absurd y e16, fun _ => trivial⟩, tkD d (dL d) (dW d) (-1), _, h0.tk K3 (by rw [rd_i (by decide), rd_s]) (rd_s _ _ _ _) (h0.1.2.2.k K3' (fun c j z => by omega)) (h0.2.1.k K3' (fun c j z => by omega)), (rq_all k0).tr (rt_all K3), C2.tk K4 (by rw [rd_i (by decide)]; exact b3) (rd_s _ _ _ _) (C2.1.2.2.k K4' (fun c j z => by omega)) (C2.2.1.k K4' (fun c j z => by omega)), (ct_all k2).tr (ct_all K4), Or.inl ⟨?_, rfl⟩⟩
    rw [rd_i (by decide), rd_i (by decide)]; exact z0
  have f1 : ¬ nI (dB d).1 = 16 := fun y => full (ee.mp y)
  rw [if_neg f1]
  obtain ⟨c1, M1, c2, c3, c4, c5, c6, c7, c8⟩ := r_starts (tb := (dT d).2) (n := n) (M := M0) (by omega) (fun i hi => h0.2.2.1.2.2 i (by omega))
  have k1 : Kp rTke M0 M1 := c8.mono (fun c j z => by unfold rBg at z; unfold rTke rQy; omega)
  have R1 : RI (tkD d (dL d) (dW d) (dP d)) M1 := h0.tk k1 c4 (by rw [c8.g (by unfold rBg; omega)]; exact h0.2.2.2.2.2.1) (h0.1.2.2.k c8 (fun c j z => by unfold rBg at z; omega)) (h0.2.1.k c8 (fun c j z => by unfold rBg at z; omega))
  obtain ⟨d1, d2⟩ := r_work67 hn c3 c7 R1 (by omega)
  obtain ⟨f2, f3⟩ := c_work13 hn b2 C2 (by omega)
  have zz : rd M1 0 0 = 0 := by rw [c8.g (by unfold rBg; omega)]; exact z0
  rw [c2]
  refine ⟨⟨fun y => absurd y one_ne, fun _ => ⟨fun _ => ⟨y1, fun _ => ⟨fun _ => ⟨c1, d1⟩, fun y => absurd y f1⟩, fun y => absurd rfl y⟩, fun y => absurd e150 y⟩⟩, fun _ => f2, ?_⟩
  generalize F_12_work_67 M1 = z at *
  obtain ⟨v, M3⟩ := z
  generalize F_11_work_13 M2 = y at *
  unfold RWe at d2
  unfold CWe at f3
  cases oo : wkP (dT d).2 n (dU d) with
  | inl e =>
    rw [oo] at d2 f3
    obtain ⟨g1, g2, g3⟩ : v = nI e.1 - 10 ∧ rd M3 0 3 = nI e.2 ∧ Kp (fun c j => rSs 0 c j ∨ (c = 0 ∧ j = 3)) M1 M3 := d2
    obtain ⟨M4, e1, e2, e3⟩ := f3
    have k3 : Kp rTke M1 M3 := g3.mono (fun c j z => by unfold rSs at z; unfold rTke rQy; omega)
    have k4 : Kp cTke M2 M4 := e3.mono (fun c j z => by unfold cSs at z; unfold cTke cQy; omega)
    refine ⟨tkD d (dL d) (dW d) (nI e.2), M4, R1.tk k3 (by rw [g3.g (by unfold rSs; omega)]; exact c4) g2 (R1.1.2.2.k g3 (fun c j z => by unfold rSs at z; omega)) (R1.2.1.k g3 (fun c j z => by unfold rSs at z; omega)), ((rq_all k0).tr (rt_all k1)).tr (rt_all k3), C2.tk k4 (by rw [e3.g (by unfold cSs; omega)]; exact b3) e2 (C2.1.2.2.k e3 (fun c j z => by unfold cSs at z; omega)) (C2.2.1.k e3 (fun c j z => by unfold cSs at z; omega)), (ct_all k2).tr (ct_all k4), Or.inl ⟨?_, by rw [e1, g1]⟩⟩
    show rd M3 0 0 = 0
    rw [g3.g (by unfold rSs; omega)]; exact zz
  | inr l =>
    rw [oo] at d2 f3
    obtain ⟨g1, g2, g3, g4⟩ := d2
    obtain ⟨M4, e1, e2, e3⟩ := f3
    have g1' : v = _ := g1
    exact ⟨_, M4, g2, ((rq_all k0).tr (rt_all k1)).tr g3, e2, (ct_all k2).tr e3, Or.inl ⟨g4.trans zz, by rw [e1, g1']⟩⟩
def unD (d : ID) : ID := (dU d, (dB d).2 ((dB d).1 - 1), dL d, dW d, ((dB d).1 - 1, (dB d).2), dI d, dT d, dP d, 0, dN d, dE d)
theorem q_undo {d : ID} {Mr Mc : Mem} (hr : RI d Mr) (hc : CI d Mc) : P_12_undo_0 Mr ∧ P_11_undo_0 Mc ∧ QD Mr Mc (F_12_undo_0 Mr) (F_11_undo_0 Mc) := by
  obtain ⟨h0, z0, k0⟩ := hr.z
  rw [P_12_undo_0, F_12_undo_0, P_11_undo_0, F_11_undo_0]
  generalize wr Mr 0 0 0 = M0 at *
  have e36 : rd M0 0 36 = nI (dB d).1 := h0.2.2.2.1.2.1
  have ec : rd Mc 1614 2 = nI (dB d).1 := hc.2.2.2.1.2.1
  have h16 := h0.2.2.2.1.1
  have ee : (nI (dB d).1 = 0) ↔ (dB d).1 = 0 := nI_eq (b := 0) (by omega) (by omega)
  have el : ((0 : Int32) < nI (dB d).1) ↔ 0 < (dB d).1 := nI_ltI (a := 0) (by omega) (by omega)
  rw [e36, ec]
  by_cases c : (dB d).1 = 0
  · have c1 := ee.mpr c
    have c2 : ¬ (0 : Int32) < nI (dB d).1 := fun y => by have := el.mp y; omega
    rw [if_pos c1, if_neg c2]
    exact ⟨⟨fun y => absurd c1 y, fun _ => trivial⟩, ⟨fun y => absurd y c2, fun _ => trivial⟩, QD.ok h0 k0 Kp.rf hc Kp.rf⟩
  have c1 : ¬ nI (dB d).1 = 0 := fun y => c (ee.mp y)
  have c2 : (0 : Int32) < nI (dB d).1 := el.mpr (by omega)
  have c3 : ¬ nI (dB d).1 ≤ 0 := fun y => c ((z_le (by omega)).mp y)
  have es : nI (dB d).1 - 1 = nI ((dB d).1 - 1) := by rw [show (1 : Int32) = nI 1 from rfl, pk_sub (by omega)]
  have v : vp_in (nI ((dB d).1 - 1)) 16 := (vp_iff (by omega)).mpr (by omega)
  obtain ⟨r1, r2, r3, r4, r5, r6, r7, r8, r9⟩ := h0
  obtain ⟨s1, s2, s3, s4, s5, s6, s7, s8, s9⟩ := hc
  obtain ⟨a1, M1, a2, a3, a4⟩ := r_copb (a := (dB d).1 - 1) (M := wr M0 0 36 (nI ((dB d).1 - 1))) (by omega)
  rw [if_neg c1, if_pos c2, es, nI_clamp (n := (dB d).1 - 1) (by omega), a2, F_12_undo_40, F_11_undo_19, P_8_takeBack_0, F_8_takeBack_0, ec, if_neg c3, es, nI_clamp (n := (dB d).1 - 1) (by omega), F_8_takeBack_33]
  have Kr : Kp (fun c j => (c = 0 ∧ (j = 36 ∨ j = 37)) ∨ c = 20) M0 (wr M1 0 37 0) := ((Kp.w (p := fun c j => (c = 0 ∧ (j = 36 ∨ j = 37)) ∨ c = 20) Kp.rf (Or.inl ⟨rfl, by omega⟩)).tr (a4.mono (fun c j z => Or.inr z))).w (Or.inl ⟨rfl, by omega⟩)
  have K1 : Kp (fun c j => c = 1614 ∧ j = 2) Mc (wr Mc 1614 2 (nI ((dB d).1 - 1))) := Kp.rf.w ⟨rfl, rfl⟩
  have cb := (s4.2.2 ((dB d).1 - 1) (by omega)).k K1 (fun c j z => by omega)
  rw [show 1622 + 3 * ((dB d).1 - 1 + 1) = 1625 + 3 * ((dB d).1 - 1) by omega] at cb
  obtain ⟨b1, b2⟩ := st_copy (a := 1622) (b := 1625 + 3 * ((dB d).1 - 1)) (by omega) cb s1.1.1
  have Kc : Kp (fun c j => (c = 1614 ∧ j = 2) ∨ (1622 ≤ c ∧ c ≤ 1624) ∨ (c = 1558 ∧ j = 5)) Mc (wr (stCopy 1622 (1625 + 3 * ((dB d).1 - 1)) (wr Mc 1614 2 (nI ((dB d).1 - 1)))) 1558 5 0) := ((K1.mono (fun c j z => Or.inl z)).tr (b2.mono (fun c j z => by omega))).w (Or.inr (Or.inr ⟨rfl, rfl⟩))
  have K5 : Kp (fun c j => c = 1558 ∧ j = 5) (stCopy 1622 (1625 + 3 * ((dB d).1 - 1)) (wr Mc 1614 2 (nI ((dB d).1 - 1)))) (wr (stCopy 1622 (1625 + 3 * ((dB d).1 - 1)) (wr Mc 1614 2 (nI ((dB d).1 - 1)))) 1558 5 0) := Kp.rf.w ⟨rfl, rfl⟩
  have w1 : rd (wr M1 0 37 0) 0 36 = nI ((dB d).1 - 1) := by rw [rd_i (by decide), a4.g (by omega), rd_s]
  have w2 : rd (wr (stCopy 1622 (1625 + 3 * ((dB d).1 - 1)) (wr Mc 1614 2 (nI ((dB d).1 - 1)))) 1558 5 0) 1614 2 = nI ((dB d).1 - 1) := by rw [rd_c (by decide), b2.g (by omega), rd_s]
  refine ⟨⟨fun _ => ⟨v, a1⟩, fun y => absurd y c1⟩, ⟨fun _ => ⟨fun y => absurd y c3, fun _ => ⟨v, isS_0, isS_w (by omega)⟩⟩, fun y => absurd c2 y⟩, unD d, ⟨⟨r1.1.k Kr (fun c j z => by omega), ?_, r1.2.2.k Kr (fun c j z => by omega)⟩, r2.k Kr (fun c j z => by omega), r3.k Kr (fun c j z => by omega), ⟨show (dB d).1 - 1 ≤ 16 by omega, w1, fun i hi => ?_⟩, r5.k Kr (fun c j z => by omega), ?_, rd_s _ _ _ _, ?_, ?_⟩, (rq_all k0).tr (Kr.mono (fun c j z => by unfold rAll; omega)), ⟨⟨s1.1.k Kc (fun c j z => by omega), b1.k K5 (fun c j z => by omega), s1.2.2.k Kc (fun c j z => by omega)⟩, s2.k Kc (fun c j z => by omega), s3.k Kc (fun c j z => by omega), ⟨show (dB d).1 - 1 ≤ 16 by omega, w2, fun i hi => ?_⟩, s5.k Kc (fun c j z => by omega), ?_, rd_s _ _ _ _, ?_, ?_⟩, Kc.mono (fun c j z => by unfold cAll; omega), by rw [w1, w2]⟩
  · refine RR.cg r1.1.1 (r4.2.2 ((dB d).1 - 1) (by omega)) (fun j hj => ?_)
    rw [rd_c (by decide), a3 j hj, rd_c (by omega)]
  · have hi' : i < (dB d).1 - 1 := hi
    rw [Kr.row (c := 478 + i) (fun j z => by omega)]
    exact r4.2.2 i (by omega)
  · rw [Kr.g (by omega)]; exact r6
  · rw [Kr.g (by omega)]; exact r8
  · rw [Kr.g (by omega)]; exact r9
  · have hi' : i < (dB d).1 - 1 := hi
    exact (s4.2.2 i (by omega)).k Kc (fun c j z => by omega)
  · rw [Kc.g (by omega)]; exact s6
  · rw [Kc.g (by omega)]; exact s8
  · rw [Kc.g (by omega)]; exact s9
