/-! MATHEMATICS 83: the calls image and restore, both sides -/
def upX (f : Nat → Nat × SU × (Nat → SU)) (i : Nat) (v : Nat × SU × (Nat → SU)) : Nat → Nat × SU × (Nat → SU) := fun j => if j = i then v else f j
theorem tc_A {q k : Nat} {u : MU} {s : SU} {bs : Nat → SU} {M : Mem} (hq : q < 3) (hu : UW u) (hk : k ≤ 16) (hw : rd M 1614 2 = nI k) (h0 : CR 1622 u s M) (hb : ∀ a, a < k → CR (1622 + 3 * (a + 1)) u (bs a) M) : tcAP q M ∧ ∃ M', tcA q M = M' ∧ TcR (1622 + 51 * (q + 1)) (1615 + q) k u s bs M M' := by
  have cs : q = 0 ∨ q = 1 ∨ q = 2 := by omega
  rcases cs with rfl | rfl | rfl
  · exact tc_a hu hk hw h0 hb
  · exact tc_b hu hk hw h0 hb
  · exact tc_c hu hk hw h0 hb
theorem tc_B {q k : Nat} {u : MU} {s : SU} {bs : Nat → SU} {M : Mem} (hq : q < 3) (hu : UW u) (hk : k ≤ 16) (hw : rd M (1615 + q) 2 = nI k) (h0 : CR (1622 + 51 * (q + 1)) u s M) (hb : ∀ a, a < k → CR (1622 + 51 * (q + 1) + 3 * (a + 1)) u (bs a) M) : tcBP q M ∧ ∃ M', tcB q M = M' ∧ TcR 1622 1614 k u s bs M M' := by
  have cs : q = 0 ∨ q = 1 ∨ q = 2 := by omega
  rcases cs with rfl | rfl | rfl
  · exact tc_d hu hk hw h0 hb
  · exact tc_e hu hk hw h0 hb
  · exact tc_f hu hk hw h0 hb
def imD (d : ID) : ID := (dU d, dS d, dL d, dW d, dB d, ((dI d).1 + 1, upX (dI d).2 (dI d).1 ((dB d).1, dS d, (dB d).2)), dT d, dP d, dR d, dN d, dE d)
def reD (d : ID) : ID := (dU d, ((dI d).2 ((dI d).1 - 1)).2.1, dL d, dW d, (((dI d).2 ((dI d).1 - 1)).1, ((dI d).2 ((dI d).1 - 1)).2.2), ((dI d).1 - 1, (dI d).2), dT d, dP d, 0, dN d, dE d)
theorem q_image {d : ID} {Mr Mc : Mem} (hr : RI d Mr) (hc : CI d Mc) : P_12_image_0 Mr ∧ P_11_image_0 Mc ∧ QD Mr Mc (F_12_image_0 Mr) (F_11_image_0 Mc) := by
  obtain ⟨h0, z0, k0⟩ := hr.z
  rw [P_12_image_0, F_12_image_0, P_11_image_0, F_11_image_0]
  generalize wr Mr 0 0 0 = M0 at *
  have e38 : rd M0 0 38 = nI (dI d).1 := h0.2.2.2.2.1.2.1
  have ec : rd Mc 1558 14 = nI (dI d).1 := hc.2.2.2.2.1.2.1
  have h3 := h0.2.2.2.2.1.1
  have ee : (nI (dI d).1 = 3) ↔ (dI d).1 = 3 := nI_eq (b := 3) (by omega) (by omega)
  have el : (nI (dI d).1 < 3) ↔ (dI d).1 < 3 := nI_ltI (b := 3) (by omega) (by omega)
  have n0 : ¬ nI (dI d).1 < 0 := nI_pos (by omega)
  rw [e38, ec, if_neg n0]
  by_cases c : (dI d).1 = 3
  · have c1 := ee.mpr c
    have c2 : ¬ nI (dI d).1 < 3 := fun y => by have := el.mp y; omega
    rw [if_pos c1, if_neg c2]
    exact ⟨⟨fun y => absurd c1 y, fun _ => trivial⟩, fun _ y => absurd y c2, QD.ok h0 k0 Kp.rf hc Kp.rf⟩
  have c1 : ¬ nI (dI d).1 = 3 := fun y => c (ee.mp y)
  have c2 : nI (dI d).1 < 3 := el.mpr (by omega)
  have v : vp_in (nI (dI d).1) 3 := (vp_iff (by omega)).mpr (by omega)
  obtain ⟨r1, r2, r3, r4, r5, r6, r7, r8, r9⟩ := h0
  obtain ⟨s1, s2, s3, s4, s5, s6, s7, s8, s9⟩ := hc
  obtain ⟨a1, M1, a2, a3, a4⟩ := r_imgOut (r := (dI d).1) (M := M0) (by omega)
  obtain ⟨b1, M2, b2, b3, b4, b5, b6⟩ := tc_A (q := (dI d).1) (k := (dB d).1) (s := dS d) (bs := (dB d).2) (by omega) s1.1.1 s4.1 s4.2.1 s1.2.1 s4.2.2
  have f38 : rd M1 0 38 = nI (dI d).1 := by rw [a4.g (by unfold rIm; omega)]; exact e38
  have fc : rd M2 1558 14 = nI (dI d).1 := by rw [b6.g (by omega)]; exact ec
  rw [if_neg c1, if_pos c2, nI_clamp (n := (dI d).1) (by omega), a2, b2, F_12_image_29, f38, fc, nI_1]
  have Kr : Kp (fun c j => c = 494 + (dI d).1 ∨ (c = 0 ∧ (j = 38 ∨ j = 39))) M0 (wr M1 0 38 (nI ((dI d).1 + 1))) := (a4.mono (fun c j z => by unfold rIm at z; omega)).w (Or.inr ⟨rfl, by omega⟩)
  have Kc : Kp (fun c j => (c = 1615 + (dI d).1 ∧ j = 2) ∨ (1622 + 51 * ((dI d).1 + 1) ≤ c ∧ c ≤ 1672 + 51 * ((dI d).1 + 1)) ∨ (c = 1558 ∧ j = 14)) Mc (wr M2 1558 14 (nI ((dI d).1 + 1))) := (b6.mono (fun c j z => by omega)).w (Or.inr (Or.inr ⟨rfl, rfl⟩))
  have K14 : Kp (fun c j => c = 1558 ∧ j = 14) M2 (wr M2 1558 14 (nI ((dI d).1 + 1))) := Kp.rf.w ⟨rfl, rfl⟩
  have eX : ∀ i, ¬ i = (dI d).1 → upX (dI d).2 (dI d).1 ((dB d).1, dS d, (dB d).2) i = (dI d).2 i := fun i hi => by unfold upX; rw [if_neg hi]
  have eX' : upX (dI d).2 (dI d).1 ((dB d).1, dS d, (dB d).2) (dI d).1 = ((dB d).1, dS d, (dB d).2) := by unfold upX; rw [if_pos rfl]
  have hk16 := r4.1
  refine ⟨⟨fun _ => ⟨v, a1⟩, fun y => absurd y c1⟩, fun _ _ => ⟨v, b1⟩, imD d, ⟨r1.k Kr (fun c j z => by omega), r2.k Kr (fun c j z => by omega), r3.k Kr (fun c j z => by omega), r4.k Kr (fun c j z => by omega), ⟨show (dI d).1 + 1 ≤ 3 by omega, rd_s _ _ _ _, fun i hi => ?_⟩, ?_, ?_, ?_, ?_⟩, (rq_all k0).tr (Kr.mono (fun c j z => by unfold rAll; omega)), ⟨s1.k Kc (fun c j z => by omega), s2.k Kc (fun c j z => by omega), s3.k Kc (fun c j z => by omega), s4.k Kc (fun c j z => by omega), ⟨show (dI d).1 + 1 ≤ 3 by omega, rd_s _ _ _ _, fun i hi => ?_⟩, ?_, ?_, ?_, ?_⟩, Kc.mono (fun c j z => by unfold cAll; omega), rfl⟩
  · have hi' : i < (dI d).1 + 1 := hi
    show RIo (dU d) (upX (dI d).2 (dI d).1 ((dB d).1, dS d, (dB d).2) i) (rd (wr M1 0 38 (nI ((dI d).1 + 1))) (494 + i))
    by_cases e : i = (dI d).1
    · rw [e, eX']
      have g : ∀ j, j < 953 → rd (wr M1 0 38 (nI ((dI d).1 + 1))) (494 + (dI d).1) j = tgI M0 j := fun j hj => by rw [rd_c (by omega)]; exact a3 j hj
      refine ⟨hk16, ?_, RR.cg r1.1.1 r1.2.1 (fun j hj => ?_), fun a ha => RR.cg r1.1.1 (r4.2.2 a ha) (fun j hj => ?_)⟩
      · rw [g 0 (by omega), tg0]; exact r4.2.1
      · show rd (wr M1 0 38 _) (494 + (dI d).1) (1 + j) = rd M0 20 j
        rw [g _ (by omega), tg1 hj]
      · have ha' : a < (dB d).1 := ha
        show rd (wr M1 0 38 _) (494 + (dI d).1) (57 + 56 * a + j) = rd M0 (478 + a) j
        rw [g _ (by omega), tg2 hj]
    · rw [eX i e, Kr.row (c := 494 + i) (fun j z => by omega)]
      exact r5.2.2 i (show i < (dI d).1 by omega)
  · rw [Kr.g (by omega)]; exact r6
  · rw [Kr.g (by omega)]; exact r7
  · rw [Kr.g (by omega)]; exact r8
  · rw [Kr.g (by omega)]; exact r9
  · have hi' : i < (dI d).1 + 1 := hi
    show CIo (dU d) (upX (dI d).2 (dI d).1 ((dB d).1, dS d, (dB d).2) i) i _
    by_cases e : i = (dI d).1
    · rw [e, eX']
      refine ⟨hk16, by rw [rd_c (by omega)]; exact b3, b4.k K14 (fun c j z => by omega), fun a ha => (b5 a ha).k K14 (fun c j z => by omega)⟩
    · rw [eX i e]
      exact (s5.2.2 i (show i < (dI d).1 by omega)).k Kc (fun c j z => by omega)
  · rw [Kc.g (by omega)]; exact s6
  · rw [Kc.g (by omega)]; exact s7
  · rw [Kc.g (by omega)]; exact s8
  · rw [Kc.g (by omega)]; exact s9
theorem q_restore {d : ID} {Mr Mc : Mem} (hr : RI d Mr) (hc : CI d Mc) : P_12_restore_0 Mr ∧ P_11_restore_0 Mc ∧ QD Mr Mc (F_12_restore_0 Mr) (F_11_restore_0 Mc) := by
  obtain ⟨h0, z0, k0⟩ := hr.z
  rw [P_12_restore_0, F_12_restore_0, P_11_restore_0, F_11_restore_0]
  generalize wr Mr 0 0 0 = M0 at *
  have e38 : rd M0 0 38 = nI (dI d).1 := h0.2.2.2.2.1.2.1
  have ec : rd Mc 1558 14 = nI (dI d).1 := hc.2.2.2.2.1.2.1
  have h3 := h0.2.2.2.2.1.1
  have ee : (nI (dI d).1 = 0) ↔ (dI d).1 = 0 := nI_eq (b := 0) (by omega) (by omega)
  have el : nI (dI d).1 ≤ 3 := (nI_leI (b := 3) (by omega) (by omega)).mpr h3
  rw [e38, ec]
  by_cases c : (dI d).1 = 0
  · have c1 := ee.mpr c
    have c2 : nI (dI d).1 ≤ 0 := (z_le (by omega)).mpr c
    rw [if_pos c1, if_pos c2]
    exact ⟨⟨fun y => absurd c1 y, fun _ => trivial⟩, fun y => absurd c2 y, QD.ok h0 k0 Kp.rf hc Kp.rf⟩
  have c1 : ¬ nI (dI d).1 = 0 := fun y => c (ee.mp y)
  have c2 : ¬ nI (dI d).1 ≤ 0 := fun y => c ((z_le (by omega)).mp y)
  have es : nI (dI d).1 - 1 = nI ((dI d).1 - 1) := by rw [show (1 : Int32) = nI 1 from rfl, pk_sub (by omega)]
  have v : vp_in (nI ((dI d).1 - 1)) 3 := (vp_iff (by omega)).mpr (by omega)
  obtain ⟨r1, r2, r3, r4, r5, r6, r7, r8, r9⟩ := h0
  obtain ⟨s1, s2, s3, s4, s5, s6, s7, s8, s9⟩ := hc
  obtain ⟨a1, M1, a2, a3, a4⟩ := r_imgIn (r := (dI d).1 - 1) (M := wr M0 0 38 (nI ((dI d).1 - 1))) (by omega)
  have K14 : Kp (fun c j => c = 1558 ∧ j = 14) Mc (wr Mc 1558 14 (nI ((dI d).1 - 1))) := Kp.rf.w ⟨rfl, rfl⟩
  obtain ⟨o1, o2, o3, o4⟩ := r5.2.2 ((dI d).1 - 1) (by omega)
  obtain ⟨t1, t2, t3, t4⟩ := (s5.2.2 ((dI d).1 - 1) (by omega)).k K14 (fun c j z => by omega)
  obtain ⟨b1, M2, b2, b3, b4, b5, b6⟩ := tc_B (q := (dI d).1 - 1) (by omega) s1.1.1 t1 t2 t3 t4
  rw [if_neg c1, if_neg c2, if_pos el, es, nI_clamp (n := (dI d).1 - 1) (by omega), a2, b2, F_12_restore_38]
  have Kr : Kp (fun c j => (c = 0 ∧ (j = 36 ∨ j = 37 ∨ j = 38 ∨ j = 39)) ∨ c = 20 ∨ (478 ≤ c ∧ c < 494)) M0 (wr M1 0 37 0) := ((Kp.w (p := fun c j => (c = 0 ∧ (j = 36 ∨ j = 37 ∨ j = 38 ∨ j = 39)) ∨ c = 20 ∨ (478 ≤ c ∧ c < 494)) Kp.rf (Or.inl ⟨rfl, by omega⟩)).tr (a4.mono (fun c j z => by unfold rIn at z; omega))).w (Or.inl ⟨rfl, by omega⟩)
  have Kc : Kp (fun c j => (c = 1614 ∧ j = 2) ∨ (1622 ≤ c ∧ c ≤ 1672) ∨ (c = 1558 ∧ (j = 5 ∨ j = 14))) Mc (wr M2 1558 5 0) := ((K14.mono (fun c j z => by omega)).tr (b6.mono (fun c j z => by omega))).w (Or.inr (Or.inr ⟨rfl, by omega⟩))
  have K5 : Kp (fun c j => c = 1558 ∧ j = 5) M2 (wr M2 1558 5 0) := Kp.rf.w ⟨rfl, rfl⟩
  have w1 : rd (wr M1 0 37 0) 0 38 = nI ((dI d).1 - 1) := by rw [rd_i (by decide), a4.g (by unfold rIn; omega), rd_s]
  have w2 : rd (wr M2 1558 5 0) 1558 14 = nI ((dI d).1 - 1) := by rw [rd_i (by decide), b6.g (by omega), rd_s]
  have g : ∀ j, j < 953 → tgI M1 j = rd M0 (494 + ((dI d).1 - 1)) j := fun j hj => by rw [a3 j hj, rd_c (by omega)]
  refine ⟨⟨fun _ => ⟨v, a1⟩, fun y => absurd y c1⟩, fun _ _ => ⟨v, b1⟩, reD d, ⟨⟨r1.1.k Kr (fun c j z => by omega), ?_, r1.2.2.k Kr (fun c j z => by omega)⟩, r2.k Kr (fun c j z => by omega), r3.k Kr (fun c j z => by omega), ⟨o1, ?_, fun i hi => ?_⟩, ⟨show (dI d).1 - 1 ≤ 3 by omega, w1, fun i hi => ?_⟩, ?_, rd_s _ _ _ _, ?_, ?_⟩, (rq_all k0).tr (Kr.mono (fun c j z => by unfold rAll; omega)), ⟨⟨s1.1.k Kc (fun c j z => by omega), b4.k K5 (fun c j z => by omega), s1.2.2.k Kc (fun c j z => by omega)⟩, s2.k Kc (fun c j z => by omega), s3.k Kc (fun c j z => by omega), ⟨o1, by rw [rd_c (by decide)]; exact b3, fun i hi => (b5 i hi).k K5 (fun c j z => by omega)⟩, ⟨show (dI d).1 - 1 ≤ 3 by omega, w2, fun i hi => ?_⟩, ?_, rd_s _ _ _ _, ?_, ?_⟩, Kc.mono (fun c j z => by unfold cAll; omega), by rw [w1, w2]⟩
  · refine RR.cg r1.1.1 o3 (fun j hj => ?_)
    rw [rd_c (by decide)]
    have := g (1 + j) (by omega)
    rw [tg1 hj] at this
    exact this
  · have := g 0 (by omega)
    rw [tg0] at this
    rw [rd_i (by decide), this]; exact o2
  · have hi' : i < ((dI d).2 ((dI d).1 - 1)).1 := hi
    refine RR.cg r1.1.1 (o4 i hi') (fun j hj => ?_)
    rw [rd_c (by omega)]
    have := g (57 + 56 * i + j) (by omega)
    rw [tg2 hj] at this
    exact this
  · have hi' : i < (dI d).1 - 1 := hi
    rw [Kr.row (c := 494 + i) (fun j z => by omega)]
    exact r5.2.2 i (by omega)
  · rw [Kr.g (by omega)]; exact r6
  · rw [Kr.g (by omega)]; exact r8
  · rw [Kr.g (by omega)]; exact r9
  · have hi' : i < (dI d).1 - 1 := hi
    exact (s5.2.2 i (by omega)).k Kc (fun c j z => by omega)
  · rw [Kc.g (by omega)]; exact s6
  · rw [Kc.g (by omega)]; exact s8
  · rw [Kc.g (by omega)]; exact s9
