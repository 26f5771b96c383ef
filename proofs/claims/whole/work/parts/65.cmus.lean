/-! MATHEMATICS 35: the museum's clauses in the class -/
def CD (d : DU) (M : Mem) : Prop := CP 1572 d.1 M ∧ DW d ∧ ∀ t, t < uT d.1 → rd M 1582 t = nI (d.2 t)
def cD (c j : Nat) : Prop := (c = 1560 ∧ 2 ≤ j ∧ j ≤ 7) ∨ (1572 ≤ c ∧ c ≤ 1582)
theorem CD.g {d : DU} {M M' : Mem} (h : CD d M) (hk : ∀ c j, 1572 ≤ c → c ≤ 1582 → ¬ ((c = 1580 ∨ c = 1581) ∧ j = uM d.1) → rd M' c j = rd M c j) : CD d M' := by
  obtain ⟨⟨h0, h1, h2, h3, h4, h5, h6, h7⟩, h8, h9⟩ := h
  refine ⟨⟨h0, ?_, ?_, ?_, ?_, ?_, ?_, ?_⟩, h8, ?_⟩
  · rw [hk 1572 0 (by omega) (by omega) (by omega)]; exact h1
  · rw [hk 1572 1 (by omega) (by omega) (by omega)]; exact h2
  · rw [hk 1572 2 (by omega) (by omega) (by omega)]; exact h3
  · rw [hk 1572 3 (by omega) (by omega) (by omega)]; exact h4
  · intro e he
    rw [hk (1572 + 6) e (by omega) (by omega) (by omega), hk (1572 + 7) e (by omega) (by omega) (by omega), hk (1572 + 8) e (by omega) (by omega) (by omega), hk (1572 + 9) e (by omega) (by omega) (by omega)]
    exact h5 e he
  · intro r hr
    rw [hk (1572 + 1) r (by omega) (by omega) (by omega), hk (1572 + 2) r (by omega) (by omega) (by omega), hk (1572 + 3) r (by omega) (by omega) (by omega), hk (1572 + 4) r (by omega) (by omega) (by omega)]
    exact h6 r hr
  · intro v hv
    rw [hk (1572 + 5) v (by omega) (by omega) (by omega)]
    exact h7 v hv
  · intro t ht
    rw [hk 1582 t (by omega) (by omega) (by omega)]; exact h9 t ht
theorem CD.t {d : DU} {M M' : Mem} (h : CD d M) (hk : Kp cT M M') : CD d M' := h.g (fun c j h1 h2 _ => hk.g (by unfold cT; omega))
theorem Kp.tD {M M' : Mem} (h : Kp cT M M') : Kp cD M M' := h.mono (fun c j z => by unfold cT at z; unfold cD; omega)
/-- what a clause answers and leaves -/
def CC (tb : Nat → Nat) (n : Nat) (o : TRs (DU × Nat)) (z : Int32 × Mem) : Prop := match o with
  | .inl e => z.1 = 0 ∧ CErr e z.2
  | .inr x => z.1 = 1 ∧ CT tb n x.2 z.2 ∧ CD x.1 z.2
theorem CT.d {tb : Nat → Nat} {n p : Nat} {M M' : Mem} (h : CT tb n p M) (hk : Kp (fun c _ => 1572 ≤ c ∧ c ≤ 1582) M M') : CT tb n p M' := ⟨h.1.k hk (fun c j z => by omega), by rw [hk.g (by omega)]; exact h.2.1, h.2.2⟩
theorem dK {M M' : Mem} (h : Kp (fun c _ => 1572 ≤ c ∧ c ≤ 1582) M M') : Kp cD M M' := h.mono (fun c j z => Or.inr z)
theorem nn_c {hi v : Nat} (h2 : hi < 2 ^ 31) (hv : v ≤ 100000) : (nI v ≤ nI hi) ↔ v < hi + 1 := by
  rw [nI_leI (by omega) h2]
  omega
theorem c_readRoom {tb : Nat → Nat} {n p : Nat} {d : DU} {M : Mem} (h : CT tb n p M) (hd : CD d M) (hN : uN d.1 < 10) : P_4_readRoom_0 M ∧ CC tb n (clR tb n d p) (F_4_readRoom_0 M) ∧ Kp cD M (F_4_readRoom_0 M).2 := by
  obtain ⟨a1, a2, a3, a4⟩ := c_needsNumber (xh := 7) (hi := 8) h (fun v hv => nn_c (hi := 7) (by omega) hv)
  rw [P_4_readRoom_0, F_4_readRoom_0]
  unfold clR
  have d1 := hd.t a2
  generalize F_5_needsNumber_0 7 M = z at *
  obtain ⟨x, M1⟩ := z
  cases o : tkN tb n p 0 8 with
  | inl e =>
    rw [o] at a3
    have a3' : x = 0 ∧ CErr e M1 := a3
    rw [P_4_readRoom_6, F_4_readRoom_6, if_pos a3'.1]
    exact ⟨⟨a1, fun z => absurd a3'.1 z, fun _ => trivial⟩, ⟨rfl, a3'.2⟩, a2.tD⟩
  | inr q =>
    obtain ⟨v, q⟩ := q
    rw [o] at a3
    have a3' : x = 1 ∧ CT tb n q M1 := a3
    obtain ⟨a5, a6⟩ := a4 v q o
    have a5' : rd M1 1560 5 = nI v := a5
    have hv := tkN_b o
    obtain ⟨⟨h0, h1, h2, h3, h4, h5, h6, h7⟩, h8, h9⟩ := d1
    have hx : ¬ x = 0 := by rw [a3'.1]; decide
    have v1 : vp_in (nI (uN d.1)) 10 := (vp_iff (by omega)).mpr hN
    have v2 : vp_in (nI v) 8 := (vp_iff (by omega)).mpr hv.2.1
    have h1' : rd M1 1572 0 = nI (uN d.1) := h1
    rw [P_4_readRoom_6, F_4_readRoom_6, if_neg hx]
    simp only [rd_wr, Nat.reduceEqDiff, false_and, if_false, h1', a5', nI_clamp (n := uN d.1) (by omega), nI_clamp (n := v) (by omega), v1, v2, a1, hx, if_true, if_false, true_imp_iff, false_imp_iff, not_true_eq_false, not_false_eq_true, true_and, and_true, implies_true, reduceIte]
    have hK : Kp (fun c _ => 1572 ≤ c ∧ c ≤ 1582) M1 (wr (wr (wr (wr (wr (wr M1 1573 (uN d.1) (nI v)) 1574 (uN d.1) 16) 1575 (uN d.1) 0) 1576 (uN d.1) 0) 1577 v (rd M1 1577 v ||| 1 <<< (nI (uN d.1) &&& 31))) 1572 0 (nI (uN d.1) + 1)) := (((((Kp.rf.w (by omega)).w (by omega)).w (by omega)).w (by omega)).w (by omega)).w (by omega)
    refine ⟨⟨rfl, a3'.2.d hK, ⟨(aR_w h8 hN hv.2.1).1, ?_, ?_, ?_, ?_, ?_, ?_, ?_⟩, aR_w h8 hN hv.2.1, ?_⟩, a2.tD.tr (dK hK)⟩
    · rw [rd_s, nI_1]; rfl
    · simp only [rd_wr, Nat.reduceEqDiff, false_and, and_false, if_false]; exact h2
    · simp only [rd_wr, Nat.reduceEqDiff, false_and, and_false, if_false]; exact h3
    · simp only [rd_wr, Nat.reduceEqDiff, false_and, and_false, if_false]; exact h4
    · intro e he
      simp only [rd_wr, Nat.reduceAdd, Nat.reduceEqDiff, false_and, and_false, if_false]; exact h5 e he
    · intro r hr
      have hr' : r < uN d.1 + 1 := hr
      simp only [rd_wr, Nat.reduceAdd, Nat.reduceEqDiff, false_and, true_and, if_false]
      show (if r = uN d.1 then nI v else rd M1 1573 r) = nI (up (uE d.1) (uN d.1) v r) ∧ (if r = uN d.1 then 16 else rd M1 1574 r) = nI (up (uL d.1) (uN d.1) 16 r) ∧ (∀ e, bt (if r = uN d.1 then 0 else rd M1 1575 r) e = (decide (e < uM d.1) && decide (uF d.1 e = r))) ∧ (∀ e, bt (if r = uN d.1 then 0 else rd M1 1576 r) e = (decide (e < uM d.1) && decide (uG d.1 e = r)))
      by_cases ce : r = uN d.1
      · subst ce
        rw [if_pos rfl, if_pos rfl, if_pos rfl, if_pos rfl, up_s, up_s]
        refine ⟨rfl, rfl, fun e => ?_, fun e => ?_⟩
        · rw [b_0]
          by_cases ee : e < uM d.1
          · have := (h0.2.2.2.2.1 e ee).1
            simp only [ee, decide_true, Bool.true_and]
            symm
            rw [decide_eq_false_iff_not]
            omega
          · simp only [ee, decide_false, Bool.false_and]
        · rw [b_0]
          by_cases ee : e < uM d.1
          · have := (h0.2.2.2.2.1 e ee).2.1
            simp only [ee, decide_true, Bool.true_and]
            symm
            rw [decide_eq_false_iff_not]
            omega
          · simp only [ee, decide_false, Bool.false_and]
      · rw [if_neg ce, if_neg ce, if_neg ce, if_neg ce, up_o ce, up_o ce]
        exact h6 r (by omega)
    · intro w hw r
      have g : rd (wr (wr (wr (wr (wr (wr M1 1573 (uN d.1) (nI v)) 1574 (uN d.1) 16) 1575 (uN d.1) 0) 1576 (uN d.1) 0) 1577 v (rd M1 1577 v ||| 1 <<< (nI (uN d.1) &&& 31))) 1572 0 (nI (uN d.1) + 1)) (1572 + 5) w = if w = v then rd M1 1577 v ||| 1 <<< (nI (uN d.1) &&& 31) else rd M1 1577 w := by
        simp only [rd_wr, Nat.reduceAdd, Nat.reduceEqDiff, false_and, true_and, if_false]
      rw [g]
      show bt _ r = (decide (r < uN d.1 + 1) && decide (up (uE d.1) (uN d.1) v r = w))
      have h7w : bt (rd M1 1577 w) r = (decide (r < uN d.1) && decide (uE d.1 r = w)) := h7 w hw r
      by_cases cw : w = v
      · subst cw
        rw [if_pos rfl, bi_of, b_or, b_bi (by omega), h7w]
        by_cases ce : r = uN d.1
        · subst ce
          rw [up_s]
          simp
        · rw [up_o ce]
          have : (r < uN d.1 + 1) ↔ r < uN d.1 := by omega
          simp only [ce, this, decide_false, Bool.or_false]
      · rw [if_neg cw, h7w]
        by_cases ce : r = uN d.1
        · subst ce
          rw [up_s]
          have : ¬ v = w := fun z => cw z.symm
          simp [this]
        · rw [up_o ce]
          have : (r < uN d.1 + 1) ↔ r < uN d.1 := by omega
          simp only [this]
    · intro t ht
      simp only [rd_wr, Nat.reduceEqDiff, false_and, if_false]; exact h9 t ht
theorem c_room {tb : Nat → Nat} {n p : Nat} {d : DU} {M : Mem} (h : CT tb n p M) (hd : CD d M) : P_5_needsNumber_0 (rd M 1572 0 - 1) M ∧ Kp cT M (F_5_needsNumber_0 (rd M 1572 0 - 1) M).2 ∧ CA tb n (fsT (tkN tb n p 0 (uN d.1))) (F_5_needsNumber_0 (rd M 1572 0 - 1) M) ∧ (∀ v q, tkN tb n p 0 (uN d.1) = .inr (v, q) → rd (F_5_needsNumber_0 (rd M 1572 0 - 1) M).2 1560 5 = nI v ∧ rd (F_5_needsNumber_0 (rd M 1572 0 - 1) M).2 1560 4 = nI (skT tb n p)) := by
  rw [hd.1.2.1]
  exact c_needsNumber (hi := uN d.1) h (fun v hv => hin_r' hd.2.1.1.1 hv)
theorem c_readExit {tb : Nat → Nat} {n p : Nat} {d : DU} {M : Mem} (h : CT tb n p M) (hd : CD d M) : P_4_readExit_0 M ∧ CC tb n (clX tb n d p) (F_4_readExit_0 M) ∧ Kp cD M (F_4_readExit_0 M).2 := by
  obtain ⟨a1, a2, a3, a4⟩ := c_room h hd
  rw [P_4_readExit_0, F_4_readExit_0]
  unfold clX
  have d1 := hd.t a2
  generalize F_5_needsNumber_0 (rd M 1572 0 - 1) M = z at *
  obtain ⟨x, M1⟩ := z
  cases o : tkN tb n p 0 (uN d.1) with
  | inl e =>
    rw [o] at a3
    have a3' : x = 0 ∧ CErr e M1 := a3
    rw [F_4_readExit_10, if_pos a3'.1]
    exact ⟨a1, ⟨rfl, a3'.2⟩, a2.tD⟩
  | inr q =>
    obtain ⟨v, q⟩ := q
    rw [o] at a3
    have a3' : x = 1 ∧ CT tb n q M1 := a3
    obtain ⟨a5, a6⟩ := a4 v q o
    have a5' : rd M1 1560 5 = nI v := a5
    have hv := tkN_b o
    obtain ⟨⟨h0, h1, h2, h3, h4, h5, h6, h7⟩, h8, h9⟩ := d1
    have hx : ¬ x = 0 := by rw [a3'.1]; decide
    rw [F_4_readExit_10, if_neg hx]
    try dsimp only
    rw [a5']
    have hK : Kp (fun c _ => 1572 ≤ c ∧ c ≤ 1582) M1 (wr M1 1572 3 (rd M1 1572 3 ||| 1 <<< (nI v &&& 31))) := Kp.rf.w (by omega)
    refine ⟨a1, ⟨rfl, a3'.2.d hK, ⟨(aX_w h8 hv.2.1).1, ?_, ?_, ?_, ?_, ?_, ?_, ?_⟩, aX_w h8 hv.2.1, ?_⟩, a2.tD.tr (dK hK)⟩
    · rw [rd_i (by decide)]; exact h1
    · rw [rd_i (by decide)]; exact h2
    · rw [rd_i (by decide)]; exact h3
    · rw [rd_s, h4]; rfl
    · intro e he
      rw [rd_c (by omega), rd_c (by omega), rd_c (by omega), rd_c (by omega)]; exact h5 e he
    · intro r hr
      rw [rd_c (by omega), rd_c (by omega), rd_c (by omega), rd_c (by omega)]; exact h6 r hr
    · intro w hw
      rw [rd_c (by omega)]; exact h7 w hw
    · intro t ht
      rw [rd_c (by omega)]; exact h9 t ht
theorem c_readTour {tb : Nat → Nat} {n p : Nat} {d : DU} {M : Mem} (h : CT tb n p M) (hd : CD d M) (hN : uT d.1 < 6) : P_4_readTour_0 M ∧ CC tb n (clT tb n d p) (F_4_readTour_0 M) ∧ Kp cD M (F_4_readTour_0 M).2 := by
  obtain ⟨a1, a2, a3, a4⟩ := c_room h hd
  rw [P_4_readTour_0, F_4_readTour_0]
  unfold clT
  have d1 := hd.t a2
  generalize F_5_needsNumber_0 (rd M 1572 0 - 1) M = z at *
  obtain ⟨x, M1⟩ := z
  cases o : tkN tb n p 0 (uN d.1) with
  | inl e =>
    rw [o] at a3
    have a3' : x = 0 ∧ CErr e M1 := a3
    rw [P_4_readTour_10, F_4_readTour_10, if_pos a3'.1]
    exact ⟨⟨a1, fun z => absurd a3'.1 z, fun _ => trivial⟩, ⟨rfl, a3'.2⟩, a2.tD⟩
  | inr q =>
    obtain ⟨v, q⟩ := q
    rw [o] at a3
    have a3' : x = 1 ∧ CT tb n q M1 := a3
    obtain ⟨a5, a6⟩ := a4 v q o
    have a5' : rd M1 1560 5 = nI v := a5
    have hv := tkN_b o
    obtain ⟨⟨h0, h1, h2, h3, h4, h5, h6, h7⟩, h8, h9⟩ := d1
    have hx : ¬ x = 0 := by rw [a3'.1]; decide
    have v1 : vp_in (nI (uT d.1)) 6 := (vp_iff (by omega)).mpr hN
    have h3' : rd M1 1572 2 = nI (uT d.1) := h3
    rw [P_4_readTour_10, F_4_readTour_10, if_neg hx]
    try dsimp only
    rw [a5', rd_c (by omega), h3', nI_clamp (n := uT d.1) (by omega)]
    have hK : Kp (fun c _ => 1572 ≤ c ∧ c ≤ 1582) M1 (wr (wr M1 1582 (uT d.1) (nI v)) 1572 2 (nI (uT d.1) + 1)) := (Kp.rf.w (by omega)).w (by omega)
    refine ⟨⟨a1, fun _ => v1, fun _ => trivial⟩, ⟨rfl, a3'.2.d hK, ⟨(aT_w h8 hN hv.2.1).1, ?_, ?_, ?_, ?_, ?_, ?_, ?_⟩, aT_w h8 hN hv.2.1, ?_⟩, a2.tD.tr (dK hK)⟩
    · rw [rd_i (by decide), rd_c (by omega)]; exact h1
    · rw [rd_i (by decide), rd_c (by omega)]; exact h2
    · rw [rd_s, nI_1]; rfl
    · rw [rd_i (by decide), rd_c (by omega)]; exact h4
    · intro e he
      simp only [rd_wr, Nat.reduceAdd, Nat.reduceEqDiff, false_and, if_false]; exact h5 e he
    · intro r hr
      simp only [rd_wr, Nat.reduceAdd, Nat.reduceEqDiff, false_and, if_false]; exact h6 r hr
    · intro w hw
      simp only [rd_wr, Nat.reduceAdd, Nat.reduceEqDiff, false_and, if_false]; exact h7 w hw
    · intro t ht
      have ht' : t < uT d.1 + 1 := ht
      rw [rd_c (by omega)]
      show rd (wr M1 1582 (uT d.1) (nI v)) 1582 t = nI (up d.2 (uT d.1) v t)
      by_cases ce : t = uT d.1
      · rw [ce, rd_s, up_s]
      · rw [rd_i ce, up_o ce]; exact h9 t (by omega)
theorem c_readWarder {tb : Nat → Nat} {n p : Nat} {d : DU} {M : Mem} (h : CT tb n p M) (hd : CD d M) : P_4_readWarder_0 M ∧ CC tb n (clW tb n d p) (F_4_readWarder_0 M) ∧ Kp cD M (F_4_readWarder_0 M).2 := by
  obtain ⟨a1, a2, a3, a4⟩ := c_room h hd
  rw [P_4_readWarder_0, F_4_readWarder_0]
  have d1 := hd.t a2
  generalize F_5_needsNumber_0 (rd M 1572 0 - 1) M = z at *
  obtain ⟨x, M1⟩ := z
  cases o : tkN tb n p 0 (uN d.1) with
  | inl e =>
    rw [o] at a3
    have a3' : x = 0 ∧ CErr e M1 := a3
    rw [P_4_readWarder_10, F_4_readWarder_10, if_pos a3'.1]
    unfold clW
    rw [o]
    exact ⟨⟨a1, fun z => absurd a3'.1 z, fun _ => trivial⟩, ⟨rfl, a3'.2⟩, a2.tD⟩
  | inr q =>
    obtain ⟨r, q⟩ := q
    rw [o] at a3
    have a3' : x = 1 ∧ CT tb n q M1 := a3
    obtain ⟨a5, a6⟩ := a4 r q o
    have a5' : rd M1 1560 5 = nI r := a5
    have hr := tkN_b o
    have hN10 := hd.2.1.1.1
    have hx : ¬ x = 0 := by rw [a3'.1]; decide
    obtain ⟨b1, b2, b3, b4⟩ := c_needsNumber (xh := 16) (hi := 17) a3'.2 (fun v hv => nn_c (hi := 16) (by omega) hv)
    have d2 := CD.t d1 b2
    have ew : clW tb n d p = bnd (tkN tb n q 0 17) (fun v => .inr (aW d r v.1, v.2)) := by unfold clW; rw [o]; rfl
    rw [P_4_readWarder_10, F_4_readWarder_10, if_neg hx, ew]
    try dsimp only
    rw [a5']
    generalize F_5_needsNumber_0 16 M1 = z at *
    obtain ⟨y, M2⟩ := z
    have v1 : vp_in (nI r) 10 := (vp_iff (by omega)).mpr (by omega)
    suffices hs : P_4_readWarder_26 (nI r) y M2 ∧ CC tb n (bnd (tkN tb n q 0 17) (fun v => .inr (aW d r v.1, v.2))) (F_4_readWarder_26 (nI r) y M2) ∧ Kp cD M2 (F_4_readWarder_26 (nI r) y M2).2 from ⟨⟨a1, fun _ => ⟨b1, hs.1⟩, fun z => absurd z hx⟩, hs.2.1, (a2.tD.tr (Kp.tD b2)).tr hs.2.2⟩
    cases o2 : tkN tb n q 0 17 with
    | inl e =>
      rw [o2] at b3
      have b3' : y = 0 ∧ CErr e M2 := b3
      rw [P_4_readWarder_26, F_4_readWarder_26, if_pos b3'.1]
      exact ⟨⟨fun z => absurd b3'.1 z, fun _ => trivial⟩, ⟨rfl, b3'.2⟩, Kp.rf⟩
    | inr w =>
      obtain ⟨v, w⟩ := w
      rw [o2] at b3
      have b3' : y = 1 ∧ CT tb n w M2 := b3
      have b5 : rd M2 1560 5 = nI v := (b4 v w o2).1
      have hv := tkN_b o2
      have hy : ¬ y = 0 := by rw [b3'.1]; decide
      obtain ⟨⟨h0, h1, h2, h3, h4, h5, h6, h7⟩, h8, h9⟩ := d2
      rw [P_4_readWarder_26, F_4_readWarder_26, if_neg hy, b5, nI_clamp (n := r) (by omega)]
      have hK : Kp (fun c _ => 1572 ≤ c ∧ c ≤ 1582) M2 (wr M2 1574 r (nI v)) := Kp.rf.w (by omega)
      refine ⟨⟨fun _ => v1, fun _ => trivial⟩, ⟨rfl, b3'.2.d hK, ⟨(aW_w h8 (by omega)).1, ?_, ?_, ?_, ?_, ?_, ?_, ?_⟩, aW_w h8 (by omega), ?_⟩, dK hK⟩
      · rw [rd_c (by omega)]; exact h1
      · rw [rd_c (by omega)]; exact h2
      · rw [rd_c (by omega)]; exact h3
      · rw [rd_c (by omega)]; exact h4
      · intro e he
        rw [rd_c (by omega), rd_c (by omega), rd_c (by omega), rd_c (by omega)]; exact h5 e he
      · intro e he
        have he' : e < uN d.1 := he
        rw [rd_c (by omega), rd_c (a := 1572 + 3) (by omega), rd_c (a := 1572 + 4) (by omega)]
        refine ⟨(h6 e he').1, ?_, (h6 e he').2.2⟩
        show rd (wr M2 1574 r (nI v)) 1574 e = nI (up (uL d.1) r v e)
        by_cases ce : e = r
        · rw [ce, rd_s, up_s]
        · rw [rd_i ce, up_o ce]; exact (h6 e he').2.1
      · intro w hw
        rw [rd_c (by omega)]; exact h7 w hw
      · intro t ht
        rw [rd_c (by omega)]; exact h9 t ht
