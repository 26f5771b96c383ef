/-! MATHEMATICS 68: one step is done in the class -/
def cDo (c _j : Nat) : Prop := c = 1586 ∨ (1622 ≤ c ∧ c ≤ 1624)
theorem CV.up {u : MU} {s s' : SU} {L : List Int32} {M M' : Mem} (h : CV u s L M) (hk : Kp cDo M M') (hr : CR 1622 u s' M') : CV u s' L M' := ⟨h.1.k hk (fun c j z => by unfold cDo at z; omega), hr, h.2.2.k hk (fun c j z => by unfold cDo at z; omega)⟩
theorem c_sets {u : MU} {s : SU} {L : List Int32} {d : Nat} {b : Bool} {M : Mem} (hv : CV u s L M) (hd : d < uM u) : ∃ M', F_7_setsBar_0 (nI d) (if b = true then 1 else 0) M = ((if sB s d = b then 0 else 1), M') ∧ CV u (if sB s d = b then s else bwS s d b) L M' ∧ Kp cDo M M' := by
  have hM := hv.1.1.2.1
  obtain ⟨w0, w1, w2, w3, w4, w5, w6⟩ := hv.2.1
  have eb : bt (rd M 1622 2) d = sB s d := by rw [w3 d, decide_eq_true hd, Bool.true_and]
  have ez : ((rd M 1622 2 >>> (nI d &&& 31)) &&& 1 = 0) ↔ sB s d = false := by rw [b_z (by omega), eb]
  have e2 : F_7_setsBar_0 (nI d) (if b = true then 1 else 0) M = F_7_setsBar_16 (nI d) (if b = true then 1 else 0) (if sB s d = true then 1 else 0) M := by
    rw [F_7_setsBar_0]
    by_cases c : sB s d = true
    · rw [if_neg (fun z => by rw [ez.mp z] at c; exact absurd c (by decide)), if_pos c]
    · rw [Bool.not_eq_true] at c
      rw [if_pos (ez.mpr c), c]; rfl
  have e3 : ((if sB s d = true then (1 : Int32) else 0) = (if b = true then 1 else 0)) ↔ sB s d = b := by
    cases sB s d <;> cases b <;> simp [i01, i10]
  rw [e2, F_7_setsBar_16]
  simp only [e3]
  by_cases c : sB s d = b
  · simp only [c, if_true]
    exact ⟨M, rfl, hv, Kp.rf⟩
  · simp only [c, if_false]
    have K : Kp cDo M (wr M 1622 2 (rd M 1622 2 ^^^ ((1 : Int32) <<< (nI d &&& 31)))) := Kp.rf.w (Or.inr ⟨by omega, by omega⟩)
    refine ⟨_, rfl, hv.up K ⟨w0, ?_, ?_, fun e => ?_, fun e he => ?_, fun e h1 h2 => ?_, fun t ht => ?_⟩, K⟩
    · rw [rd_i (by omega)]; exact w1
    · rw [rd_i (by omega)]; exact w2
    · rw [rd_s, bi_of, b_xor, w3 e, b_bi (by omega)]
      show _ = (decide (e < uM u) && upBo (sB s) d b e)
      unfold upBo
      by_cases ee : e = d
      · subst ee
        rw [if_pos rfl, decide_eq_true hd, decide_eq_true rfl]
        cases h1 : sB s e <;> cases h2 : b <;> simp_all
      · rw [if_neg ee, decide_eq_false ee, Bool.xor_false]
    · rw [rd_c (by omega)]; exact w4 e he
    · rw [rd_c (by omega)]; exact w5 e h1 h2
    · rw [rd_c (by omega)]; exact w6 t ht
theorem c_goes {u : MU} {s : SU} {L : List Int32} {t d : Nat} {M : Mem} (hv : CV u s L M) (ht : t < uT u) (hd : d < uM u) : P_10_goes_0 (nI t) (nI d) M ∧ ∃ M', F_10_goes_0 (nI t) (nI d) M = (if (dLf u L (0, t, d) s).1 = true then 1 else 0, M') ∧ CV u (dLf u L (0, t, d) s).2 L M' ∧ Kp cDo M M' := by
  have hN := hv.1.1.1
  have hM := hv.1.1.2.1
  have hT := hv.1.1.2.2.1
  obtain ⟨w0, w1, w2, w3, w4, w5, w6⟩ := hv.2.1
  have hF := hv.1.1.2.2.2.2.1 d hd
  have f1 : rd M 1624 t = nI (sP s t) := w6 t ht
  have f2 : rd M 1567 d = nI (uF u d) := (hv.1.2.2.2.2.2.1 d hd).1
  have hPt := w0.2 t ht
  have hH := w0.1
  have eF : (nI (sP s t) = nI (uF u d)) ↔ sP s t = uF u d := nI_eq (by omega) (by omega)
  have v1 : vp_in (nI t) 6 := (vp_iff (by omega)).mpr (by omega)
  have v2 : vp_in (nI d) 24 := (vp_iff (by omega)).mpr (by omega)
  have eD : dLf u L (0, t, d) s = (if sP s t = uF u d ∧ opn u s L d (sH s) = true then (true, gwS u s t d) else (false, s)) := by unfold dLf; rw [if_pos rfl]
  rw [P_10_goes_0, F_10_goes_0, nI_clamp (n := t) (by omega), nI_clamp (n := d) (by omega), f1, f2, eD]
  by_cases c1 : sP s t = uF u d
  · obtain ⟨b1, M1, b2, b3⟩ := c_open hv hd (show sH s < 4000 by omega)
    have V1 := hv.o b3
    rw [if_pos (eF.mpr c1), w1, b2]
    by_cases c2 : opn u s L d (sH s) = true
    · obtain ⟨x0, y1, y2, y3, y4, y5, y6⟩ := V1.2.1
      have g1 : rd M1 1568 d = nI (uG u d) := (V1.1.2.2.2.2.2.1 d hd).2.1
      have g2 : rd M1 1561 2 = nI (uT u) := V1.1.2.2.2.1
      obtain ⟨t1, t2⟩ := c_toursIn V1.1 V1.2.1 (r := uG u d) (by omega)
      have g3 : ∀ v, rd (wr M1 1622 1 v) 1568 d = nI (uG u d) := fun v => by rw [rd_c (by omega)]; exact g1
      have g4 : ∀ v w, rd (wr (wr M1 1622 1 v) 1624 t w) 1623 d = sU s d := fun v w => by rw [rd_c (by omega), rd_c (by omega)]; exact y4 d hd
      have c3 : sP s t = uF u d ∧ opn u s L d (sH s) = true := ⟨c1, c2⟩
      rw [if_pos c2, if_pos c3, P_10_goes_25, F_10_goes_25, if_neg one_ne, nI_clamp (n := t) (by omega), nI_clamp (n := d) (by omega), g1, g2, t2, y2, g3, g4]
      have K : Kp cDo M1 (wr (wr (wr M1 1622 1 (sM s + nI (trs u s (uG u d)))) 1624 t (nI (uG u d))) 1623 d (sU s d + 1)) := ((Kp.rf.w (Or.inr ⟨by omega, by omega⟩)).w (Or.inr ⟨by omega, by omega⟩)).w (Or.inr ⟨by omega, by omega⟩)
      have KK : Kp cDo M (wr (wr (wr M1 1622 1 (sM s + nI (trs u s (uG u d)))) 1624 t (nI (uG u d))) 1623 d (sU s d + 1)) := (b3.mono (fun c j z => by unfold cO at z; unfold cDo; omega)).tr K
      refine ⟨⟨v1, v2, fun y => absurd (eF.mpr c1) y, fun _ => ⟨b1, fun _ => ⟨v2, t1, v2, v1⟩, fun y => absurd y one_ne⟩⟩, _, rfl, hv.up KK ⟨gwS_w hv.1.1 w0 hd, ?_, ?_, fun e => ?_, fun e he => ?_, fun e h1 h2 => ?_, fun k hk => ?_⟩, KK⟩
      · rw [rd_c (by omega), rd_c (by omega), rd_i (by omega)]; exact y1
      · show _ = sM s + nI (trs u s (uG u d))
        rw [rd_c (by omega), rd_c (by omega), rd_s]
      · rw [rd_c (by omega), rd_c (by omega), rd_i (by omega)]; exact y3 e
      · show rd _ 1623 e = upI (sU s) d (sU s d + 1) e
        unfold upI
        by_cases ee : e = d
        · rw [ee, rd_s, if_pos rfl]
        · rw [rd_i ee, rd_c (by omega), rd_c (by omega), if_neg ee]; exact y4 e he
      · show rd _ 1623 e = 0
        rw [rd_i (by omega), rd_c (by omega), rd_c (by omega)]; exact y5 e h1 h2
      · show rd _ 1624 k = nI (up (sP s) t (uG u d) k)
        rw [rd_c (by omega)]
        by_cases e : k = t
        · rw [e, rd_s, up_s]
        · rw [rd_i e, up_o e, rd_c (by omega)]; exact y6 k hk
    · have c2' : ¬ (sP s t = uF u d ∧ opn u s L d (sH s) = true) := fun y => c2 y.2
      rw [if_neg c2, if_neg c2', P_10_goes_25, F_10_goes_25, if_pos rfl]
      exact ⟨⟨v1, v2, fun y => absurd (eF.mpr c1) y, fun _ => ⟨b1, fun y => absurd rfl y, fun _ => trivial⟩⟩, M1, rfl, V1, b3.mono (fun c j z => by unfold cO at z; unfold cDo; omega)⟩
  · have c2' : ¬ (sP s t = uF u d ∧ opn u s L d (sH s) = true) := fun y => c1 y.1
    rw [if_neg (fun y => c1 (eF.mp y)), if_neg c2']
    exact ⟨⟨v1, v2, fun _ => trivial, fun y => absurd (eF.mp y) c1⟩, M, rfl, hv, Kp.rf⟩
theorem c_waits {u : MU} {s : SU} {L : List Int32} {M : Mem} (hv : CV u s L M) : ∃ M', F_7_waits_0 M = (if sH s < 960 then 1 else 0, M') ∧ CV u (if sH s < 960 then hwS s else s) L M' ∧ Kp cDo M M' := by
  obtain ⟨w0, w1, w2, w3, w4, w5, w6⟩ := hv.2.1
  have hH := w0.1
  have e9 : (nI (sH s) < 960) ↔ sH s < 960 := nI_ltI (b := 960) (by omega) (by omega)
  rw [F_7_waits_0, w1]
  by_cases c1 : sH s < 960
  · have K : Kp cDo M (wr M 1622 0 (nI (sH s) + 1)) := Kp.rf.w (Or.inr ⟨by omega, by omega⟩)
    rw [if_pos (e9.mpr c1), if_pos c1, if_pos c1]
    refine ⟨_, rfl, hv.up K ⟨⟨show sH s + 1 ≤ 960 by omega, w0.2⟩, ?_, ?_, fun e => ?_, fun e he => ?_, fun e h1 h2 => ?_, fun k hk => ?_⟩, K⟩
    · show _ = nI (sH s + 1)
      rw [rd_s, nI_1]
    · rw [rd_i (by omega)]; exact w2
    · rw [rd_i (by omega)]; exact w3 e
    · rw [rd_c (by omega)]; exact w4 e he
    · rw [rd_c (by omega)]; exact w5 e h1 h2
    · rw [rd_c (by omega)]; exact w6 k hk
  · rw [if_neg (fun y => c1 (e9.mp y)), if_neg c1, if_neg c1]
    exact ⟨M, rfl, hv, Kp.rf⟩
theorem nb10 {c : Prop} [Decidable c] : narrow .boolean (.int (if c then (1 : Int32) else 0)) = .int (if c then 1 else 0) := by
  by_cases h : c
  · rw [if_pos h]; exact nar_b (Or.inr rfl)
  · rw [if_neg h]; exact nar_b (Or.inl rfl)
theorem nb01 {c : Prop} [Decidable c] : narrow .boolean (.int (if c then (0 : Int32) else 1)) = .int (if c then 0 else 1) := by
  by_cases h : c
  · rw [if_pos h]; exact nar_b (Or.inl rfl)
  · rw [if_neg h]; exact nar_b (Or.inr rfl)
theorem c_isDone {u : MU} {s : SU} {L : List Int32} {i : Nat} {x : Nat × Nat × Nat} {M : Mem} (hv : CV u s L M) (hx : OKx u x) (hi : i < 150) (h0 : rd M 1588 i = nI (x.1 + 1)) (h1 : x.1 = 0 → rd M 1589 i = nI x.2.1 ∧ rd M 1590 i = nI x.2.2) (h2 : x.1 = 1 ∨ x.1 = 2 → rd M 1589 i = nI x.2.2) : P_10_isDone_0 (nI i) M ∧ ∃ M', F_10_isDone_0 (nI i) M = (if (dLf u L x s).1 = true then 1 else 0, M') ∧ CV u (dLf u L x s).2 L M' ∧ Kp cDo M M' := by
  obtain ⟨k, t, d⟩ := x
  obtain ⟨x1', x2, x3⟩ : k ≤ 3 ∧ (k = 0 → t < uT u) ∧ (k < 3 → d < uM u) := hx
  have h0' : rd M 1588 i = nI (k + 1) := h0
  have h1' : k = 0 → rd M 1589 i = nI t ∧ rd M 1590 i = nI d := h1
  have h2' : k = 1 ∨ k = 2 → rd M 1589 i = nI d := h2
  clear h0 h1 h2
  have v := (vp_iff (i := i) (n := 150) (by omega)).mpr hi
  have a1 : (nI (k + 1) = 1) ↔ k = 0 := by have : (nI (k + 1) = 1) ↔ k + 1 = 1 := nI_eq (b := 1) (by omega) (by omega); rw [this]; omega
  have a2 : (nI (k + 1) = 2) ↔ k = 1 := by have : (nI (k + 1) = 2) ↔ k + 1 = 2 := nI_eq (b := 2) (by omega) (by omega); rw [this]; omega
  have a3 : (nI (k + 1) = 3) ↔ k = 2 := by have : (nI (k + 1) = 3) ↔ k + 1 = 3 := nI_eq (b := 3) (by omega) (by omega); rw [this]; omega
  rw [P_10_isDone_0, F_10_isDone_0, nI_clamp (n := i) (by omega), h0']
  by_cases k0 : k = 0
  · obtain ⟨b1, M', b2, b3, b4⟩ := c_goes hv (x2 k0) (x3 (by omega))
    subst k0
    have z1 : nI (0 + 1) = 1 := rfl
    rw [(h1' rfl).1, (h1' rfl).2, if_pos z1, b2, F_10_isDone_55]
    exact ⟨⟨v, fun _ => ⟨v, b1, nb10⟩, fun y => absurd (a2.mp y) (by omega), fun y => absurd (a3.mp y) (by omega), fun y => absurd z1 y.1⟩, M', rfl, b3, b4⟩
  have n1 : ¬ nI (k + 1) = 1 := fun y => k0 (a1.mp y)
  rw [if_neg n1]
  by_cases k1 : k = 1
  · obtain ⟨M', b2, b3, b4⟩ := c_sets (b := true) hv (x3 (by omega))
    have z2 : nI (k + 1) = 2 := a2.mpr k1
    have eD : dLf u L (k, t, d) s = (if sB s d = true then (false, s) else (true, bwS s d true)) := by unfold dLf; rw [if_neg k0, if_pos k1]
    have b2' : F_7_setsBar_0 (nI d) 1 M = ((if sB s d = true then 0 else 1), M') := b2
    rw [h2' (Or.inl k1), if_pos z2, b2', F_10_isDone_63, eD]
    refine ⟨⟨v, fun y => absurd y n1, fun _ => nb01, fun y => absurd (a3.mp y) (by omega), fun y => absurd z2 y.2.1⟩, M', ?_, ?_, b4⟩
    · by_cases c : sB s d = true
      · rw [if_pos c, if_pos c]; rfl
      · rw [if_neg c, if_neg c]; rfl
    · by_cases c : sB s d = true
      · rw [if_pos c] at b3 ⊢; exact b3
      · rw [if_neg c] at b3 ⊢; exact b3
  have n2 : ¬ nI (k + 1) = 2 := fun y => k1 (a2.mp y)
  rw [if_neg n2]
  by_cases k2 : k = 2
  · obtain ⟨M', b2, b3, b4⟩ := c_sets (b := false) hv (x3 (by omega))
    have z3 : nI (k + 1) = 3 := a3.mpr k2
    have eD : dLf u L (k, t, d) s = (if sB s d = true then (true, bwS s d false) else (false, s)) := by unfold dLf; rw [if_neg k0, if_neg k1, if_pos k2]
    have b2' : F_7_setsBar_0 (nI d) 0 M = ((if sB s d = false then 0 else 1), M') := b2
    rw [h2' (Or.inr k2), if_pos z3, b2', F_10_isDone_71, eD]
    refine ⟨⟨v, fun y => absurd y n1, fun y => absurd y n2, fun _ => nb01, fun y => absurd z3 y.2.2⟩, M', ?_, ?_, b4⟩
    · by_cases c : sB s d = true
      · rw [if_pos c, if_neg (by rw [c]; decide)]; rfl
      · have c' : sB s d = false := by rw [Bool.not_eq_true] at c; exact c
        rw [if_neg c, if_pos c']; rfl
    · by_cases c : sB s d = true
      · rw [if_neg (by rw [c]; decide)] at b3
        rw [if_pos c]; exact b3
      · have c' : sB s d = false := by rw [Bool.not_eq_true] at c; exact c
        rw [if_pos c'] at b3
        rw [if_neg c]; exact b3
  have n3 : ¬ nI (k + 1) = 3 := fun y => k2 (a3.mp y)
  rw [if_neg n3]
  obtain ⟨M', b2, b3, b4⟩ := c_waits hv
  have eD : dLf u L (k, t, d) s = (if sH s < 960 then (true, hwS s) else (false, s)) := by unfold dLf; rw [if_neg k0, if_neg k1, if_neg k2]
  rw [b2, F_10_isDone_76, eD]
  refine ⟨⟨v, fun y => absurd y n1, fun y => absurd y n2, fun y => absurd y n3, fun _ => nb10⟩, M', ?_, ?_, b4⟩
  · by_cases c : sH s < 960
    · rw [if_pos c, if_pos c]; rfl
    · rw [if_neg c, if_neg c]; rfl
  · by_cases c : sH s < 960
    · rw [if_pos c] at b3 ⊢; exact b3
    · rw [if_neg c] at b3 ⊢; exact b3
