/-! MATHEMATICS 33: the reference's door, clause and museum -/
theorem r_doorN {tb : Nat → Nat} {n m : Nat} {e : Nat × Nat} {M : Mem} (h : RE e M) (ht : TxE tb n M) (hm : m < 24) : P_12_clause_226 1 m M ∧ ∃ M', F_12_clause_226 1 m M = M' ∧ (RE e M' ∧ TxE tb n M') ∧ Kp rC M M' := by
  have Kw : ∀ (M0 : Mem) j v, Kp rD M0 (wr M0 (30 + m) j v) := fun M0 j v => Kp.rf.w (Or.inr (Or.inr (Or.inr (Or.inr ⟨by omega, by omega⟩))))
  have v2 : vp_in (2 : Int32) 4 := (vp_iff (i := 2) (by omega)).mpr (by omega)
  have v3 : vp_in (3 : Int32) 4 := (vp_iff (i := 3) (by omega)).mpr (by omega)
  obtain ⟨n1, n2⟩ := r_numberN (x := 0) (y := 23) h.ne
  have h1 := h.d (Kw M (2 : Int32).toNatClampNeg 0)
  have t1 := ht.d (Kw M (2 : Int32).toNatClampNeg 0)
  obtain ⟨n3, n4⟩ := r_numberN (x := rd (wr M (30 + m) (2 : Int32).toNatClampNeg 0) (30 + m) ((2 : Int32).toNatClampNeg)) (y := 23) h1.ne
  obtain ⟨z1, M', z2, z3, z4⟩ := r_tailN (k := 1) (h1.d (Kw _ (3 : Int32).toNatClampNeg 0)) (t1.d (Kw _ (3 : Int32).toNatClampNeg 0)) (by omega)
  rw [P_12_clause_226, F_12_clause_226, n2, P_12_clause_235, F_12_clause_235, n4, P_12_clause_247, F_12_clause_247]
  exact ⟨⟨hm, n1, hm, hm, v2, n3, hm, v3, z1⟩, M', z2, z3, ((Kw _ _ _).dC.tr (Kw _ _ _).dC).tr z4⟩
theorem r_door5 {tb : Nat → Nat} {n m : Nat} {e : Nat × Nat} {v : Int32} {M : Mem} (h : RE e M) (ht : TxE tb n M) (hm : m < 24) : P_12_clause_235 1 m v 2 m M ∧ ∃ M', F_12_clause_235 1 m v 2 m M = M' ∧ (RE e M' ∧ TxE tb n M') ∧ Kp rC M M' := by
  have Kw : ∀ (M0 : Mem) j v, Kp rD M0 (wr M0 (30 + m) j v) := fun M0 j v => Kp.rf.w (Or.inr (Or.inr (Or.inr (Or.inr ⟨by omega, by omega⟩))))
  have v2 : vp_in (2 : Int32) 4 := (vp_iff (i := 2) (by omega)).mpr (by omega)
  have v3 : vp_in (3 : Int32) 4 := (vp_iff (i := 3) (by omega)).mpr (by omega)
  have h1 := h.d (Kw M (2 : Int32).toNatClampNeg v)
  have t1 := ht.d (Kw M (2 : Int32).toNatClampNeg v)
  obtain ⟨n3, n4⟩ := r_numberN (x := rd (wr M (30 + m) (2 : Int32).toNatClampNeg v) (30 + m) ((2 : Int32).toNatClampNeg)) (y := 23) h1.ne
  obtain ⟨z1, M', z2, z3, z4⟩ := r_tailN (k := 1) (h1.d (Kw _ (3 : Int32).toNatClampNeg 0)) (t1.d (Kw _ (3 : Int32).toNatClampNeg 0)) (by omega)
  rw [P_12_clause_235, F_12_clause_235, n4, P_12_clause_247, F_12_clause_247]
  exact ⟨⟨hm, hm, v2, n3, hm, v3, z1⟩, M', z2, z3, ((Kw _ _ _).dC.tr (Kw _ _ _).dC).tr z4⟩
/-- a door's row half made -/
def RDh (d : DU) (M0 M : Mem) : Prop := ∀ c j, rD c j → c ≠ 30 + uM d.1 → rd M c j = rd M0 c j
theorem RD.h {d : DU} {M0 M : Mem} (h : RD d M0) (hh : RDh d M0 M) : RD d M := by
  obtain ⟨h0, h1, h2, h3, h4, h5, h6, h7, h8⟩ := h
  have hM := h0.1.2.1
  refine ⟨h0, ?_, ?_, ?_, ?_, fun e he => ?_, fun r hr => ?_, fun r hr hr2 => ?_, fun t ht => ?_⟩
  · rw [hh 3 0 (Or.inl rfl) (by omega)]; exact h1
  · rw [hh 3 1 (Or.inl rfl) (by omega)]; exact h2
  · rw [hh 3 2 (Or.inl rfl) (by omega)]; exact h3
  · rw [hh 3 3 (Or.inl rfl) (by omega)]; exact h4
  · have g : ∀ j, rd M (30 + e) j = rd M0 (30 + e) j := fun j => hh _ j (by unfold rD; omega) (by omega)
    rw [g, g, g, g]; exact h5 e he
  · rw [hh 5 r (by unfold rD; omega) (by omega), hh 7 r (by unfold rD; omega) (by omega)]; exact h6 r hr
  · rw [hh 7 r (by unfold rD; omega) (by omega)]; exact h7 r hr hr2
  · rw [hh 9 t (by unfold rD; omega) (by omega)]; exact h8 t ht
theorem RDh.w {d : DU} {M0 M : Mem} (h : RDh d M0 M) (j : Nat) (v : Int32) : RDh d M0 (wr M (30 + uM d.1) j v) := fun c i hc hne => by rw [rd_c hne]; exact h c i hc hne
theorem RDh.t {p : Nat → Nat → Prop} {d : DU} {M0 M M' : Mem} (h : RDh d M0 M) (hk : Kp p M M') (hp : ∀ c j, p c j → ¬ rD c j) : RDh d M0 M' := fun c i hc hne => by
  rw [hk.g (fun z => hp c i z hc)]; exact h c i hc hne
theorem r_c1 {tb : Nat → Nat} {n p c : Nat} {d : DU} {M : Mem} (h : RT tb n p M) (hd : RD d M) (h7 : rd M 0 7 = nI c) (hm : uM d.1 < 24) : P_12_clause_99 1 M ∧ ∃ M', F_12_clause_99 1 M = M' ∧ RC tb n (c + 1) (bnd (clD tb n d p) (sgA tb n)) M' ∧ Kp rC M M' := by
  have K0 : Kp rC M (wr M 0 7 (nI c + 1)) := Kp.rf.w (Or.inl ⟨rfl, by omega, by omega⟩)
  have K0' : Kp (fun a j => a = 0 ∧ j = 7) M (wr M 0 7 (nI c + 1)) := Kp.rf.w ⟨rfl, rfl⟩
  have h0 : RT tb n p (wr M 0 7 (nI c + 1)) := h.k K0' (fun a j z => by omega)
  have d0 : RD d (wr M 0 7 (nI c + 1)) := hd.k K0' (fun a j z => by unfold rD; omega)
  have s0 : rd (wr M 0 7 (nI c + 1)) 0 7 = nI (c + 1) := by rw [rd_s, nI_1]
  have sM := d0.2.2.1
  have hN10 := d0.1.1.1
  rw [P_12_clause_99, F_12_clause_99, h7, if_neg (by decide), if_pos rfl, cl1, sM, nI_clamp (n := uM d.1) (by omega)]
  generalize wr M 0 7 (nI c + 1) = M0 at *
  obtain ⟨g1, M1, g2, g3, g4⟩ := r_room h0 d0
  have vm : vp_in (nI (uM d.1)) 24 := (vp_iff (by omega)).mpr hm
  have va : vp_in (0 : Int32) 4 := (vp_iff (i := 0) (by omega)).mpr (by omega)
  have vb : vp_in (1 : Int32) 4 := (vp_iff (i := 1) (by omega)).mpr (by omega)
  have vc : vp_in (2 : Int32) 4 := (vp_iff (i := 2) (by omega)).mpr (by omega)
  have vd : vp_in (3 : Int32) 4 := (vp_iff (i := 3) (by omega)).mpr (by omega)
  have hr : ∀ a j, rT a j → ¬ rD a j := fun a j z => by unfold rT at z; unfold rD; omega
  have hr4 : ∀ a j, r4 a j → ¬ rD a j := fun a j z => by unfold r4 at z; unfold rD; omega
  suffices hs : P_12_clause_179 1 (uM d.1) (nI (vlO (tkN tb n p 0 (uN d.1)))) 0 (uM d.1) M1 ∧ ∃ M', F_12_clause_179 1 (uM d.1) (nI (vlO (tkN tb n p 0 (uN d.1)))) 0 (uM d.1) M1 = M' ∧ RC tb n (c + 1) (bnd (clD tb n d p) (sgA tb n)) M' ∧ Kp rC M1 M' by
    obtain ⟨z1, M', z2, z3, z4⟩ := hs
    rw [g2]
    exact ⟨⟨fun z => absurd z (by decide), fun _ => ⟨vm, g1, z1⟩, fun z => absurd z (by decide), fun z => absurd z (by decide), fun z => absurd rfl z.2.1⟩, M', z2, z3, K0.tr (g4.tC.tr z4)⟩
  have Kw : ∀ (M0 : Mem) j v, Kp rD M0 (wr M0 (30 + uM d.1) j v) := fun M0 j v => Kp.rf.w (Or.inr (Or.inr (Or.inr (Or.inr ⟨by omega, by omega⟩))))
  rw [P_12_clause_179, F_12_clause_179, cl0]
  cases o1 : tkN tb n p 0 (uN d.1) with
  | inl e =>
    rw [o1] at g3
    have g3' : RE e M1 ∧ TxE tb n M1 := g3
    have e2 := g3'.1.d (Kw M1 0 (nI (vlO (.inl e : TRs (Nat × Nat)))))
    rw [if_neg e2.ne]
    refine ⟨⟨hm, hm, va, fun z => absurd z e2.ne, fun _ => trivial⟩, _, rfl, ?_, (Kw _ _ _).dC⟩
    unfold clD
    rw [o1]
    exact ⟨e2, g3'.2.d (Kw _ _ _)⟩
  | inr q1 =>
    obtain ⟨a, p1⟩ := q1
    rw [o1] at g3
    have g3' : RT tb n p1 M1 := g3
    have ha := tkN_b o1
    have H1 : RDh d M0 M1 := RDh.t (fun _ _ _ _ => rfl) g4 hr
    have s1 : rd M1 0 7 = nI (c + 1) := by rw [g4.g (by unfold rT; omega)]; exact s0
    have T2 := g3'.d (Kw M1 0 (nI a))
    have H2 := H1.w 0 (nI a)
    have s2 : rd (wr M1 (30 + uM d.1) 0 (nI a)) 0 7 = nI (c + 1) := by rw [rd_c (by omega)]; exact s1
    have r2 : rd (wr M1 (30 + uM d.1) 0 (nI a)) (30 + uM d.1) 0 = nI a := rd_s _ _ _ _
    have K2 := (Kw M1 0 (nI a)).dC
    show ((uM d.1 < 24) ∧ _) ∧ ∃ M', (if rd (wr M1 (30 + uM d.1) 0 (nI a)) 0 5 = 0 then _ else _) = M' ∧ _
    rw [if_pos T2.2.2.2]
    have e0 : wr M1 (30 + uM d.1) 0 (nI (vlO (.inr (a, p1)))) = wr M1 (30 + uM d.1) 0 (nI a) := rfl
    rw [e0]
    generalize wr M1 (30 + uM d.1) 0 (nI a) = M2 at *
    obtain ⟨b1, M3, b2, b3, b4⟩ := r_bl T2
    have H3 := H2.t b4 hr4
    have s3 : rd M3 0 7 = nI (c + 1) := by rw [b4.g (by unfold r4; omega)]; exact s2
    have r3 : rd M3 (30 + uM d.1) 0 = nI a := by rw [b4.g (by unfold r4; omega)]; exact r2
    have K3 : Kp rC M1 M3 := K2.tr (b4.mono (fun a j z => by unfold r4 at z; unfold rC; omega))
    suffices hs : P_12_clause_192 1 (uM d.1) M3 ∧ ∃ M', F_12_clause_192 1 (uM d.1) M3 = M' ∧ RC tb n (c + 1) (bnd (clD tb n d p) (sgA tb n)) M' ∧ Kp rC M1 M' by
      rw [b2]
      exact ⟨⟨hm, hm, va, fun _ => ⟨b1, hs.1⟩, fun z => absurd T2.2.2.2 z⟩, hs.2⟩
    obtain ⟨c1, M4, c2, c3, c4⟩ := r_room b3 (d0.h H3)
    have hp1 := sk_b (tb := tb) ha.2.2.1
    rw [tkN_sk ha.2.2.1] at c2 c3
    have H4 := H3.t c4 hr
    have s4 : rd M4 0 7 = nI (c + 1) := by rw [c4.g (by unfold rT; omega)]; exact s3
    have r4' : rd M4 (30 + uM d.1) 0 = nI a := by rw [c4.g (by unfold rT; omega)]; exact r3
    have K4 : Kp rC M1 M4 := K3.tr c4.tC
    have ec : clD tb n d p = bnd (tkN tb n p1 0 (uN d.1)) (fun b => if b.1 = a then .inl (2, skT tb n p1) else bnd (tkN tb n b.2 0 24) (fun o => bnd (tkN tb n o.2 o.1 24) (fun s => .inr (aD d a b.1 o.1 s.1, s.2)))) := by unfold clD; rw [o1]; rfl
    rw [P_12_clause_192, F_12_clause_192, c2, b3.2.1, ec]
    suffices hs : P_12_clause_203 1 (uM d.1) (nI (skT tb n p1)) (nI (vlO (tkN tb n p1 0 (uN d.1)))) 1 (uM d.1) M4 ∧ ∃ M', F_12_clause_203 1 (uM d.1) (nI (skT tb n p1)) (nI (vlO (tkN tb n p1 0 (uN d.1)))) 1 (uM d.1) M4 = M' ∧ RC tb n (c + 1) (bnd (bnd (tkN tb n p1 0 (uN d.1)) (fun b => if b.1 = a then .inl (2, skT tb n p1) else bnd (tkN tb n b.2 0 24) (fun o => bnd (tkN tb n o.2 o.1 24) (fun s => .inr (aD d a b.1 o.1 s.1, s.2))))) (sgA tb n)) M' ∧ Kp rC M1 M' from ⟨⟨hm, c1, hs.1⟩, hs.2⟩
    rw [P_12_clause_203, F_12_clause_203, cl1, cl0]
    cases o2 : tkN tb n p1 0 (uN d.1) with
    | inl e =>
      rw [o2] at c3
      have c3' : RE e M4 ∧ TxE tb n M4 := c3
      have e2 := c3'.1.d (Kw M4 1 (nI (vlO (.inl e : TRs (Nat × Nat)))))
      obtain ⟨z1, M', z2, z3, z4⟩ := r_doorN e2 (c3'.2.d (Kw M4 1 (nI (vlO (.inl e : TRs (Nat × Nat)))))) hm
      rw [if_neg e2.ne]
      exact ⟨⟨hm, hm, vb, fun _ => z1, fun z => absurd z e2.ne⟩, M', z2, z3, K4.tr ((Kw _ _ _).dC.tr z4)⟩
    | inr q2 =>
      obtain ⟨b, p2⟩ := q2
      rw [o2] at c3
      have c3' : RT tb n p2 M4 := c3
      have hb := tkN_b o2
      have T5 := c3'.d (Kw M4 1 (nI b))
      have H5 := H4.w 1 (nI b)
      have s5 : rd (wr M4 (30 + uM d.1) 1 (nI b)) 0 7 = nI (c + 1) := by rw [rd_c (by omega)]; exact s4
      have r5 : rd (wr M4 (30 + uM d.1) 1 (nI b)) (30 + uM d.1) 0 = nI a := by rw [rd_i (by decide)]; exact r4'
      have r5b : rd (wr M4 (30 + uM d.1) 1 (nI b)) (30 + uM d.1) 1 = nI b := rd_s _ _ _ _
      have K5 : Kp rC M1 (wr M4 (30 + uM d.1) 1 (nI b)) := K4.tr (Kw M4 1 (nI b)).dC
      have e0 : wr M4 (30 + uM d.1) 1 (nI (vlO (.inr (b, p2)))) = wr M4 (30 + uM d.1) 1 (nI b) := rfl
      rw [e0]
      have t5 : Tx tb n (wr M4 (30 + uM d.1) 1 (nI b)) := T5.1
      generalize wr M4 (30 + uM d.1) 1 (nI b) = M5 at *
      have eab : (nI b = nI a) ↔ b = a := nI_eq (by omega) (by omega)
      rw [if_pos T5.2.2.2, r5, r5b]
      simp only [eab]
      have n600 := h.1.1
      show (_ ∧ ∃ M', _ ∧ RC tb n (c + 1) (bnd (if b = a then .inl (2, skT tb n p1) else bnd (tkN tb n p2 0 24) (fun o => bnd (tkN tb n o.2 o.1 24) (fun s => .inr (aD d a b o.1 s.1, s.2)))) (sgA tb n)) M' ∧ _)
      by_cases cab : b = a
      · obtain ⟨M6, w1, w2, w3⟩ := r_wrong T5.2.2.2 (k := 2) (q := skT tb n p1) (by omega) (by omega) (by omega)
        have w1' : F_12_wrong_0 2 (nI (skT tb n p1)) M5 = M6 := w1
        obtain ⟨z1, M', z2, z3, z4⟩ := r_doorN w2 ⟨t5.k w3 (fun a j z => by unfold rT at z; omega), p2, hb.2.2.1, by rw [← w1', r_wrong4]; exact T5.2.1⟩ hm
        rw [if_pos cab, if_pos cab, w1']
        exact ⟨⟨hm, hm, vb, fun z => absurd T5.2.2.2 z, fun _ => ⟨fun z => absurd cab z, fun _ => z1⟩⟩, M', z2, z3, K5.tr (w3.tC.tr z4)⟩
      · rw [if_neg cab, if_neg cab]
        suffices hs : P_12_clause_226 1 (uM d.1) M5 ∧ ∃ M', F_12_clause_226 1 (uM d.1) M5 = M' ∧ RC tb n (c + 1) (bnd (bnd (tkN tb n p2 0 24) (fun o => bnd (tkN tb n o.2 o.1 24) (fun s => .inr (aD d a b o.1 s.1, s.2)))) (sgA tb n)) M' ∧ Kp rC M1 M' from ⟨⟨hm, hm, vb, fun z => absurd T5.2.2.2 z, fun _ => ⟨fun _ => hs.1, fun z => absurd z cab⟩⟩, hs.2⟩
        obtain ⟨f1, M6, f2, f3, f4⟩ := r_number (xl := 0) (xh := 23) (lo := 0) (hi := 24) T5 (fun v hv => hin_c (lo := 0) (hi := 23) (by omega) (by omega) hv)
        have H6 := H5.t f4 hr
        have s6 : rd M6 0 7 = nI (c + 1) := by rw [f4.g (by unfold rT; omega)]; exact s5
        have r6 : rd M6 (30 + uM d.1) 0 = nI a := by rw [f4.g (by unfold rT; omega)]; exact r5
        have r6b : rd M6 (30 + uM d.1) 1 = nI b := by rw [f4.g (by unfold rT; omega)]; exact r5b
        have K6 : Kp rC M1 M6 := K5.tr f4.tC
        rw [P_12_clause_226, F_12_clause_226, f2]
        cases o3 : tkN tb n p2 0 24 with
        | inl e =>
          rw [o3] at f3
          have f3' : RE e M6 ∧ TxE tb n M6 := f3
          obtain ⟨z1, M', z2, z3, z4⟩ := r_door5 (v := nI (vlO (.inl e : TRs (Nat × Nat)))) f3'.1 f3'.2 hm
          exact ⟨⟨hm, f1, z1⟩, M', z2, z3, K6.tr z4⟩
        | inr q3 =>
          obtain ⟨ov, p3⟩ := q3
          rw [o3] at f3
          have f3' : RT tb n p3 M6 := f3
          have ho := tkN_b o3
          have T7 := f3'.d (Kw M6 2 (nI ov))
          have H7 := H6.w 2 (nI ov)
          have s7 : rd (wr M6 (30 + uM d.1) 2 (nI ov)) 0 7 = nI (c + 1) := by rw [rd_c (by omega)]; exact s6
          have r7 : rd (wr M6 (30 + uM d.1) 2 (nI ov)) (30 + uM d.1) 0 = nI a := by rw [rd_i (by decide)]; exact r6
          have r7b : rd (wr M6 (30 + uM d.1) 2 (nI ov)) (30 + uM d.1) 1 = nI b := by rw [rd_i (by decide)]; exact r6b
          have r7c : rd (wr M6 (30 + uM d.1) 2 (nI ov)) (30 + uM d.1) 2 = nI ov := rd_s _ _ _ _
          have K7 : Kp rC M1 (wr M6 (30 + uM d.1) 2 (nI ov)) := K6.tr (Kw M6 2 (nI ov)).dC
          have e0 : wr M6 (30 + uM d.1) 2 (nI (vlO (.inr (ov, p3)))) = wr M6 (30 + uM d.1) 2 (nI ov) := rfl
          show ((uM d.1 < 24) ∧ P_12_number_0 0 23 M5 ∧ P_12_clause_235 1 (uM d.1) (nI ov) 2 (uM d.1) M6) ∧ ∃ M', F_12_clause_235 1 (uM d.1) (nI ov) 2 (uM d.1) M6 = M' ∧ RC tb n (c + 1) (bnd (bnd (tkN tb n p3 ov 24) (fun s => .inr (aD d a b ov s.1, s.2))) (sgA tb n)) M' ∧ Kp rC M1 M'
          rw [P_12_clause_235, F_12_clause_235, cl2]
          generalize wr M6 (30 + uM d.1) 2 (nI ov) = M7 at *
          rw [r7c]
          obtain ⟨k1, M8, k2, k3, k4⟩ := r_number (xl := nI ov) (xh := 23) (lo := ov) (hi := 24) T7 (fun v hv => hin_c (lo := ov) (hi := 23) (by omega) (by omega) hv)
          have H8 := H7.t k4 hr
          have s8 : rd M8 0 7 = nI (c + 1) := by rw [k4.g (by unfold rT; omega)]; exact s7
          have r8 : rd M8 (30 + uM d.1) 0 = nI a := by rw [k4.g (by unfold rT; omega)]; exact r7
          have r8b : rd M8 (30 + uM d.1) 1 = nI b := by rw [k4.g (by unfold rT; omega)]; exact r7b
          have r8c : rd M8 (30 + uM d.1) 2 = nI ov := by rw [k4.g (by unfold rT; omega)]; exact r7c
          have K8 : Kp rC M1 M8 := K7.tr k4.tC
          rw [k2, P_12_clause_247, F_12_clause_247, cl3]
          cases o4 : tkN tb n p3 ov 24 with
          | inl e =>
            rw [o4] at k3
            have k3' : RE e M8 ∧ TxE tb n M8 := k3
            obtain ⟨z1, M', z2, z3, z4⟩ := r_tailN (k := 1) (k3'.1.d (Kw M8 3 (nI (vlO (.inl e : TRs (Nat × Nat)))))) (k3'.2.d (Kw M8 3 (nI (vlO (.inl e : TRs (Nat × Nat)))))) (by omega)
            exact ⟨⟨hm, f1, hm, hm, vc, k1, hm, vd, z1⟩, M', z2, z3, K8.tr ((Kw _ _ _).dC.tr z4)⟩
          | inr q4 =>
            obtain ⟨s, p4⟩ := q4
            rw [o4] at k3
            have k3' : RT tb n p4 M8 := k3
            have hsv := tkN_b o4
            have T9 := k3'.d (Kw M8 3 (nI s))
            have H9 := H8.w 3 (nI s)
            have s9 : rd (wr M8 (30 + uM d.1) 3 (nI s)) 0 7 = nI (c + 1) := by rw [rd_c (by omega)]; exact s8
            have r9 : rd (wr M8 (30 + uM d.1) 3 (nI s)) (30 + uM d.1) 0 = nI a := by rw [rd_i (by decide)]; exact r8
            have r9b : rd (wr M8 (30 + uM d.1) 3 (nI s)) (30 + uM d.1) 1 = nI b := by rw [rd_i (by decide)]; exact r8b
            have r9c : rd (wr M8 (30 + uM d.1) 3 (nI s)) (30 + uM d.1) 2 = nI ov := by rw [rd_i (by decide)]; exact r8c
            have r9d : rd (wr M8 (30 + uM d.1) 3 (nI s)) (30 + uM d.1) 3 = nI s := rd_s _ _ _ _
            have K9 : Kp rC M1 (wr M8 (30 + uM d.1) 3 (nI s)) := K8.tr (Kw M8 3 (nI s)).dC
            have d9 := d0.h H9
            suffices hs : P_12_clause_326 1 (wr M8 (30 + uM d.1) 3 (nI s)) ∧ ∃ M', F_12_clause_326 1 (wr M8 (30 + uM d.1) 3 (nI s)) = M' ∧ RC tb n (c + 1) (sgA tb n (aD d a b ov s, p4)) M' ∧ Kp rC M1 M' from ⟨⟨hm, f1, hm, hm, vc, k1, hm, vd, hs.1⟩, hs.2⟩
            generalize wr M8 (30 + uM d.1) 3 (nI s) = M9 at *
            have dd : RD (aD d a b ov s) (if 1 < 3 then wr M9 3 1 (rd M9 3 1 + 1) else M9) := by
              rw [if_pos (by decide)]
              obtain ⟨i0, i1, i2, i3, i4, i5, i6, i7, i8⟩ := d9
              refine ⟨aD_w i0 hm (by omega) (by omega) cab (by omega) (by omega), ?_, ?_, ?_, ?_, ?_, ?_, ?_, ?_⟩
              · rw [rd_i (by decide)]; exact i1
              · rw [rd_s, i2, nI_1]; rfl
              · rw [rd_i (by decide)]; exact i3
              · rw [rd_i (by decide)]; exact i4
              · intro e he
                have he' : e < uM d.1 + 1 := he
                have g : ∀ j, rd (wr M9 3 1 (rd M9 3 1 + 1)) (30 + e) j = rd M9 (30 + e) j := fun j => by rw [rd_c (by omega)]
                rw [g, g, g, g]
                show rd M9 (30 + e) 0 = nI (up (uF d.1) (uM d.1) a e) ∧ rd M9 (30 + e) 1 = nI (up (uG d.1) (uM d.1) b e) ∧ rd M9 (30 + e) 2 = nI (up (uO d.1) (uM d.1) ov e) ∧ rd M9 (30 + e) 3 = nI (up (uS d.1) (uM d.1) s e)
                by_cases ce : e = uM d.1
                · rw [ce, up_s, up_s, up_s, up_s]; exact ⟨r9, r9b, r9c, r9d⟩
                · rw [up_o ce, up_o ce, up_o ce, up_o ce]; exact i5 e (by omega)
              · intro r hr
                have hr' : r < uN d.1 := hr
                rw [rd_c (by decide), rd_c (by decide)]; exact i6 r hr'
              · intro r hr hr2
                have hr' : uN d.1 ≤ r := hr
                rw [rd_c (by decide)]; exact i7 r hr' hr2
              · intro t ht
                rw [rd_c (by decide)]; exact i8 t ht
            obtain ⟨z1, M', z2, z3, z4⟩ := r_tail (k := 1) (c := c + 1) T9 (by omega) s9 dd
            exact ⟨z1, M', z2, z3, K9.tr z4⟩
