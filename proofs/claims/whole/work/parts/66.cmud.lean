/-! MATHEMATICS 36: the class's door, clause and museum -/
theorem tkN_lo {tb : Nat → Nat} {n p o hi : Nat} : tkN tb n p o hi = bnd (tkN tb n p 0 hi) (fun x => if o ≤ x.1 then .inr x else .inl (2, skT tb n p)) := by
  unfold tkN
  simp only [Nat.zero_le, true_and]
  by_cases c1 : skT tb n p < n ∧ dgP (tb (skT tb n p)) = true
  · rw [if_pos c1, if_pos c1]
    by_cases c2 : vlT tb n (skT tb n p) < hi
    · rw [if_pos c2]
      simp only [bnd, c2, and_true]
    · rw [if_neg c2, if_neg (fun z => c2 z.2)]
      rfl
  · rw [if_neg c1, if_neg c1]
    rfl
theorem c_doorEnd {tb : Nat → Nat} {n p a b o s : Nat} {d : DU} {M : Mem} (h : CT tb n p M) (hd : CD d M) (hm : uM d.1 < 24) (ha : a < uN d.1) (hb : b < uN d.1) (hab : b ≠ a) (hs : s < 24) (h5 : rd M 1560 5 = nI s) (ho : o < 24) (h8 : rd M 1580 (uM d.1) = nI o) {q : Nat} (h4 : rd M 1560 4 = nI q) : P_4_readDoor_90 (nI a) (nI b) M ∧ CC tb n (if o ≤ s then .inr (aD d a b o s, p) else .inl (2, q)) (F_4_readDoor_90 (nI a) (nI b) M) ∧ Kp cD M (F_4_readDoor_90 (nI a) (nI b) M).2 := by
  obtain ⟨⟨j0, j1, j2, j3, j4, j5, j6, j7⟩, j8, j9⟩ := hd
  have hN := j0.1
  have j2' : rd M 1572 1 = nI (uM d.1) := j2
  have v1 : vp_in (nI (uM d.1)) 24 := (vp_iff (by omega)).mpr hm
  have v2 : vp_in (nI a) 10 := (vp_iff (by omega)).mpr (by omega)
  have v3 : vp_in (nI b) 10 := (vp_iff (by omega)).mpr (by omega)
  have e1 : (nI o ≤ nI s) ↔ o ≤ s := nI_leI (by omega) (by omega)
  rw [P_4_readDoor_90, F_4_readDoor_90]
  simp only [rd_wr, Nat.reduceEqDiff, false_and, and_false, true_and, and_self, if_false, if_true, j2', h5, h8, nI_clamp (n := uM d.1) (by omega), nI_clamp (n := a) (by omega), nI_clamp (n := b) (by omega), e1, v1, v2, v3]
  by_cases cc : o ≤ s
  · rw [if_pos cc, if_pos cc]
    have hK : Kp (fun c _ => 1572 ≤ c ∧ c ≤ 1582) M (wr (wr (wr (wr (wr (wr M 1581 (uM d.1) (nI s)) 1578 (uM d.1) (nI a)) 1579 (uM d.1) (nI b)) 1575 a (rd M 1575 a ||| 1 <<< (nI (uM d.1) &&& 31))) 1576 b (rd M 1576 b ||| 1 <<< (nI (uM d.1) &&& 31))) 1572 1 (nI (uM d.1) + 1)) := (((((Kp.rf.w (by omega)).w (by omega)).w (by omega)).w (by omega)).w (by omega)).w (by omega)
    have hw := aD_w j8 hm ha hb hab cc hs
    refine ⟨⟨fun _ => trivial, fun z => absurd cc z⟩, ⟨rfl, h.d hK, ⟨hw.1, ?_, ?_, ?_, ?_, ?_, ?_, ?_⟩, hw, ?_⟩, dK hK⟩
    · simp only [rd_wr, Nat.reduceEqDiff, false_and, and_false, if_false]; exact j1
    · rw [rd_s, nI_1]; rfl
    · simp only [rd_wr, Nat.reduceEqDiff, false_and, and_false, if_false]; exact j3
    · simp only [rd_wr, Nat.reduceEqDiff, false_and, and_false, if_false]; exact j4
    · intro e he
      have he' : e < uM d.1 + 1 := he
      simp only [rd_wr, Nat.reduceAdd, Nat.reduceEqDiff, false_and, true_and, if_false]
      show (if e = uM d.1 then nI a else rd M 1578 e) = nI (up (uF d.1) (uM d.1) a e) ∧ (if e = uM d.1 then nI b else rd M 1579 e) = nI (up (uG d.1) (uM d.1) b e) ∧ rd M 1580 e = nI (up (uO d.1) (uM d.1) o e) ∧ (if e = uM d.1 then nI s else rd M 1581 e) = nI (up (uS d.1) (uM d.1) s e)
      by_cases ce : e = uM d.1
      · rw [if_pos ce, if_pos ce, if_pos ce, ce, up_s, up_s, up_s, up_s]
        exact ⟨rfl, rfl, h8, rfl⟩
      · rw [if_neg ce, if_neg ce, if_neg ce, up_o ce, up_o ce, up_o ce, up_o ce]
        exact j5 e (by omega)
    · intro r hr
      have hr' : r < uN d.1 := hr
      obtain ⟨q1, q2, q3, q4⟩ := j6 r hr'
      simp only [rd_wr, Nat.reduceAdd, Nat.reduceEqDiff, false_and, true_and, if_false]
      refine ⟨q1, q2, fun e => ?_, fun e => ?_⟩
      · show bt (if r = a then rd M 1575 a ||| 1 <<< (nI (uM d.1) &&& 31) else rd M 1575 r) e = (decide (e < uM d.1 + 1) && decide (up (uF d.1) (uM d.1) a e = r))
        have q3e : bt (rd M 1575 r) e = (decide (e < uM d.1) && decide (uF d.1 e = r)) := q3 e
        by_cases cr : r = a
        · subst cr
          rw [if_pos rfl, bi_of, b_or, b_bi (by omega), q3e]
          by_cases ce : e = uM d.1
          · subst ce
            rw [up_s]
            simp
          · rw [up_o ce]
            have : (e < uM d.1 + 1) ↔ e < uM d.1 := by omega
            simp only [ce, this, decide_false, Bool.or_false]
        · rw [if_neg cr, q3e]
          by_cases ce : e = uM d.1
          · subst ce
            rw [up_s]
            have : ¬ a = r := fun z => cr z.symm
            simp [this]
          · rw [up_o ce]
            have : (e < uM d.1 + 1) ↔ e < uM d.1 := by omega
            simp only [this]
      · show bt (if r = b then rd M 1576 b ||| 1 <<< (nI (uM d.1) &&& 31) else rd M 1576 r) e = (decide (e < uM d.1 + 1) && decide (up (uG d.1) (uM d.1) b e = r))
        have q4e : bt (rd M 1576 r) e = (decide (e < uM d.1) && decide (uG d.1 e = r)) := q4 e
        by_cases cr : r = b
        · subst cr
          rw [if_pos rfl, bi_of, b_or, b_bi (by omega), q4e]
          by_cases ce : e = uM d.1
          · subst ce
            rw [up_s]
            simp
          · rw [up_o ce]
            have : (e < uM d.1 + 1) ↔ e < uM d.1 := by omega
            simp only [ce, this, decide_false, Bool.or_false]
        · rw [if_neg cr, q4e]
          by_cases ce : e = uM d.1
          · subst ce
            rw [up_s]
            have : ¬ b = r := fun z => cr z.symm
            simp [this]
          · rw [up_o ce]
            have : (e < uM d.1 + 1) ↔ e < uM d.1 := by omega
            simp only [this]
    · intro w hw
      simp only [rd_wr, Nat.reduceAdd, Nat.reduceEqDiff, false_and, if_false]; exact j7 w hw
    · intro t ht
      simp only [rd_wr, Nat.reduceEqDiff, false_and, if_false]; exact j9 t ht
  · rw [if_neg cc, if_neg cc]
    have hK : Kp cD M (wr M 1581 (uM d.1) (nI s)) := Kp.rf.w (Or.inr ⟨by omega, by omega⟩)
    have h4' : rd (wr M 1581 (uM d.1) (nI s)) 1560 4 = nI q := by rw [rd_c (by omega)]; exact h4
    obtain ⟨M2, w1, w2, w3⟩ := c_fail (M := wr M 1581 (uM d.1) (nI s)) (k := 2) (q := q)
    have w1' : F_5_fail_0 2 (nI q) (wr M 1581 (uM d.1) (nI s)) = (0, M2) := w1
    simp only [P_4_readDoor_124, F_4_readDoor_124, P_4_readDoor_133, F_4_readDoor_133, h4', w1']
    exact ⟨⟨fun z => absurd z cc, fun _ => nar_b (Or.inl rfl)⟩, ⟨rfl, w2⟩, hK.tr w3.tD⟩
theorem c_readDoor {tb : Nat → Nat} {n p : Nat} {d : DU} {M : Mem} (h : CT tb n p M) (hd : CD d M) (hm : uM d.1 < 24) : P_4_readDoor_0 M ∧ CC tb n (clD tb n d p) (F_4_readDoor_0 M) ∧ Kp cD M (F_4_readDoor_0 M).2 := by
  obtain ⟨a1, a2, a3, a4⟩ := c_room h hd
  have hN10 := hd.2.1.1.1
  rw [P_4_readDoor_0, F_4_readDoor_0]
  have d1 := hd.t a2
  generalize F_5_needsNumber_0 (rd M 1572 0 - 1) M = z at *
  obtain ⟨x, M1⟩ := z
  suffices hs : P_4_readDoor_10 x M1 ∧ CC tb n (clD tb n d p) (F_4_readDoor_10 x M1) ∧ Kp cD M1 (F_4_readDoor_10 x M1).2 from ⟨⟨a1, hs.1⟩, hs.2.1, (Kp.tD a2).tr hs.2.2⟩
  cases o1 : tkN tb n p 0 (uN d.1) with
  | inl e =>
    rw [o1] at a3
    have a3' : x = 0 ∧ CErr e M1 := a3
    rw [P_4_readDoor_10, F_4_readDoor_10, if_pos a3'.1]
    unfold clD
    rw [o1]
    exact ⟨⟨fun z => absurd a3'.1 z, fun _ => trivial⟩, ⟨rfl, a3'.2⟩, Kp.rf⟩
  | inr q1 =>
    obtain ⟨a, p1⟩ := q1
    rw [o1] at a3
    have a3' : x = 1 ∧ CT tb n p1 M1 := a3
    have a5 : rd M1 1560 5 = nI a := (a4 a p1 o1).1
    have ha := tkN_b o1
    have hx : ¬ x = 0 := by rw [a3'.1]; decide
    have ec : clD tb n d p = bnd (tkN tb n p1 0 (uN d.1)) (fun b => if b.1 = a then .inl (2, skT tb n p1) else bnd (tkN tb n b.2 0 24) (fun o => bnd (tkN tb n o.2 o.1 24) (fun s => .inr (aD d a b.1 o.1 s.1, s.2)))) := by unfold clD; rw [o1]; rfl
    obtain ⟨b1, b2, b3, b4⟩ := c_room a3'.2 d1
    rw [P_4_readDoor_10, F_4_readDoor_10, if_neg hx, ec, a5]
    have d2 := CD.t d1 b2
    generalize F_5_needsNumber_0 (rd M1 1572 0 - 1) M1 = z at *
    obtain ⟨y, M2⟩ := z
    suffices hs : P_4_readDoor_30 (nI a) y M2 ∧ CC tb n (bnd (tkN tb n p1 0 (uN d.1)) (fun b => if b.1 = a then .inl (2, skT tb n p1) else bnd (tkN tb n b.2 0 24) (fun o => bnd (tkN tb n o.2 o.1 24) (fun s => .inr (aD d a b.1 o.1 s.1, s.2))))) (F_4_readDoor_30 (nI a) y M2) ∧ Kp cD M2 (F_4_readDoor_30 (nI a) y M2).2 from ⟨⟨fun _ => ⟨b1, hs.1⟩, fun z => absurd z hx⟩, hs.2.1, (Kp.tD b2).tr hs.2.2⟩
    cases o2 : tkN tb n p1 0 (uN d.1) with
    | inl e =>
      rw [o2] at b3
      have b3' : y = 0 ∧ CErr e M2 := b3
      rw [P_4_readDoor_30, F_4_readDoor_30, if_pos b3'.1]
      exact ⟨⟨fun z => absurd b3'.1 z, fun _ => trivial⟩, ⟨rfl, b3'.2⟩, Kp.rf⟩
    | inr q2 =>
      obtain ⟨b, p2⟩ := q2
      rw [o2] at b3
      have b3' : y = 1 ∧ CT tb n p2 M2 := b3
      obtain ⟨b5, b6⟩ := b4 b p2 o2
      have b5' : rd M2 1560 5 = nI b := b5
      have b6' : rd M2 1560 4 = nI (skT tb n p1) := b6
      have hb := tkN_b o2
      have hy : ¬ y = 0 := by rw [b3'.1]; decide
      have eab : (nI a = nI b) ↔ b = a := by rw [nI_eq (by omega) (by omega)]; exact ⟨fun z => z.symm, fun z => z.symm⟩
      rw [P_4_readDoor_30, F_4_readDoor_30, if_neg hy, b5', b6']
      simp only [eab]
      show _ ∧ CC tb n (if b = a then .inl (2, skT tb n p1) else bnd (tkN tb n p2 0 24) (fun o => bnd (tkN tb n o.2 o.1 24) (fun s => .inr (aD d a b o.1 s.1, s.2)))) _ ∧ _
      by_cases cab : b = a
      · obtain ⟨M3, w1, w2, w3⟩ := c_fail (M := M2) (k := 2) (q := skT tb n p1)
        have w1' : F_5_fail_0 2 (nI (skT tb n p1)) M2 = (0, M3) := w1
        rw [if_pos cab, if_pos cab, w1', P_4_readDoor_54, F_4_readDoor_54]
        exact ⟨⟨fun _ => ⟨fun z => absurd cab z, fun _ => nar_b (Or.inl rfl)⟩, fun z => absurd z hy⟩, ⟨rfl, w2⟩, w3.tD⟩
      · rw [if_neg cab, if_neg cab]
        obtain ⟨c1, c2, c3, c4⟩ := c_needsNumber (xh := 23) (hi := 24) b3'.2 (fun v hv => nn_c (hi := 23) (by omega) hv)
        have d3 := CD.t d2 c2
        generalize F_5_needsNumber_0 23 M2 = z at *
        obtain ⟨w, M3⟩ := z
        suffices hs : P_4_readDoor_61 (nI a) (nI b) w M3 ∧ CC tb n (bnd (tkN tb n p2 0 24) (fun o => bnd (tkN tb n o.2 o.1 24) (fun s => .inr (aD d a b o.1 s.1, s.2)))) (F_4_readDoor_61 (nI a) (nI b) w M3) ∧ Kp cD M3 (F_4_readDoor_61 (nI a) (nI b) w M3).2 from ⟨⟨fun _ => ⟨fun _ => ⟨c1, hs.1⟩, fun z => absurd z cab⟩, fun z => absurd z hy⟩, hs.2.1, (Kp.tD c2).tr hs.2.2⟩
        cases o3 : tkN tb n p2 0 24 with
        | inl e =>
          rw [o3] at c3
          have c3' : w = 0 ∧ CErr e M3 := c3
          rw [P_4_readDoor_61, F_4_readDoor_61, if_pos c3'.1]
          exact ⟨⟨fun z => absurd c3'.1 z, fun _ => trivial⟩, ⟨rfl, c3'.2⟩, Kp.rf⟩
        | inr q3 =>
          obtain ⟨ov, p3⟩ := q3
          rw [o3] at c3
          have c3' : w = 1 ∧ CT tb n p3 M3 := c3
          have c5 : rd M3 1560 5 = nI ov := (c4 ov p3 o3).1
          have ho := tkN_b o3
          have hw : ¬ w = 0 := by rw [c3'.1]; decide
          have m3 : rd M3 1572 1 = nI (uM d.1) := d3.1.2.2.1
          have vm : vp_in (nI (uM d.1)) 24 := (vp_iff (by omega)).mpr hm
          rw [P_4_readDoor_61, F_4_readDoor_61, if_neg hw, m3, c5, nI_clamp (n := uM d.1) (by omega)]
          have hK4 : Kp (fun c _ => 1572 ≤ c ∧ c ≤ 1582) M3 (wr M3 1580 (uM d.1) (nI ov)) := Kp.rf.w (by omega)
          have t4 : CT tb n p3 (wr M3 1580 (uM d.1) (nI ov)) := c3'.2.d hK4
          have d4 : CD d (wr M3 1580 (uM d.1) (nI ov)) := CD.g d3 (fun c j z1 z2 z3 => by
            rw [rd_wr, if_neg (fun z => z3 ⟨Or.inl z.1, z.2⟩)])
          have r4' : rd (wr M3 1580 (uM d.1) (nI ov)) 1580 (uM d.1) = nI ov := rd_s _ _ _ _
          generalize wr M3 1580 (uM d.1) (nI ov) = M4 at *
          obtain ⟨f1, f2, f3, f4⟩ := c_needsNumber (xh := 23) (hi := 24) t4 (fun v hv => nn_c (hi := 23) (by omega) hv)
          have d5 := CD.t d4 f2
          have r5 : rd (F_5_needsNumber_0 23 M4).2 1580 (uM d.1) = nI ov := by rw [f2.g (by unfold cT; omega)]; exact r4'
          generalize F_5_needsNumber_0 23 M4 = z at *
          obtain ⟨v, M5⟩ := z
          show _ ∧ CC tb n (bnd (tkN tb n p3 ov 24) (fun s => .inr (aD d a b ov s.1, s.2))) _ ∧ _
          suffices hs : P_4_readDoor_85 (nI a) (nI b) v M5 ∧ CC tb n (bnd (tkN tb n p3 ov 24) (fun s => .inr (aD d a b ov s.1, s.2))) (F_4_readDoor_85 (nI a) (nI b) v M5) ∧ Kp cD M5 (F_4_readDoor_85 (nI a) (nI b) v M5).2 from ⟨⟨fun _ => ⟨vm, f1, hs.1⟩, fun z => absurd z hw⟩, hs.2.1, ((dK hK4).tr (Kp.tD f2)).tr hs.2.2⟩
          rw [tkN_lo]
          cases o4 : tkN tb n p3 0 24 with
          | inl e =>
            rw [o4] at f3
            have f3' : v = 0 ∧ CErr e M5 := f3
            rw [P_4_readDoor_85, F_4_readDoor_85, if_pos f3'.1]
            exact ⟨⟨fun z => absurd f3'.1 z, fun _ => trivial⟩, ⟨rfl, f3'.2⟩, Kp.rf⟩
          | inr q4 =>
            obtain ⟨s, p4⟩ := q4
            rw [o4] at f3
            have f3' : v = 1 ∧ CT tb n p4 M5 := f3
            obtain ⟨f5, f6⟩ := f4 s p4 o4
            have hsv := tkN_b o4
            have hv : ¬ v = 0 := by rw [f3'.1]; decide
            rw [P_4_readDoor_85, F_4_readDoor_85, if_neg hv]
            obtain ⟨g1, g2, g3⟩ := c_doorEnd (a := a) (b := b) (o := ov) (s := s) (q := skT tb n p3) f3'.2 d5 hm (by omega) (by omega) cab (by omega) f5 (by omega) r5 f6
            refine ⟨⟨fun _ => g1, fun z => absurd z hv⟩, ?_, g3⟩
            show CC tb n (bnd (if ov ≤ s then .inr (s, p4) else .inl (2, skT tb n p3)) (fun s => .inr (aD d a b ov s.1, s.2))) _
            by_cases cs : ov ≤ s
            · rw [if_pos cs] at g2 ⊢
              exact g2
            · rw [if_neg cs] at g2 ⊢
              exact g2
