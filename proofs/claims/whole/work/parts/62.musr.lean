/-! MATHEMATICS 32: the museum in the reference -/
theorem wr3 {M : Mem} {v : Int32} : Kp rD M (wr M 3 0 v) := Kp.rf.w (Or.inl rfl)
theorem r_c0 {tb : Nat → Nat} {n p c : Nat} {d : DU} {M : Mem} (h : RT tb n p M) (hd : RD d M) (h7 : rd M 0 7 = nI c) (hN : uN d.1 < 10) : P_12_clause_99 0 M ∧ ∃ M', F_12_clause_99 0 M = M' ∧ RC tb n (c + 1) (bnd (clR tb n d p) (sgA tb n)) M' ∧ Kp rC M M' := by
  have K0 : Kp rC M (wr M 0 7 (nI c + 1)) := Kp.rf.w (Or.inl ⟨rfl, by omega, by omega⟩)
  have K0' : Kp (fun a j => a = 0 ∧ j = 7) M (wr M 0 7 (nI c + 1)) := Kp.rf.w ⟨rfl, rfl⟩
  have h0 : RT tb n p (wr M 0 7 (nI c + 1)) := h.k K0' (fun a j z => by omega)
  have d0 : RD d (wr M 0 7 (nI c + 1)) := hd.k K0' (fun a j z => by unfold rD; omega)
  have s0 : rd (wr M 0 7 (nI c + 1)) 0 7 = nI (c + 1) := by rw [rd_s, nI_1]
  have sN := d0.2.1
  rw [P_12_clause_99, F_12_clause_99, h7, if_pos rfl, cl0]
  generalize wr M 0 7 (nI c + 1) = M0 at *
  obtain ⟨g1, M1, g2, g3, g4⟩ := r_number (xl := 0) (xh := 7) (lo := 0) (hi := 8) h0 (fun v hv => hin_c (lo := 0) (hi := 7) (by omega) (by omega) hv)
  have v1 : vp_in (nI (uN d.1)) 10 := (vp_iff (by omega)).mpr hN
  suffices hs : P_12_clause_157 0 (nI (vlO (tkN tb n p 0 8))) (nI (uN d.1)) M1 ∧ ∃ M', F_12_clause_157 0 (nI (vlO (tkN tb n p 0 8))) (nI (uN d.1)) M1 = M' ∧ RC tb n (c + 1) (bnd (clR tb n d p) (sgA tb n)) M' ∧ Kp rC M1 M' by
    obtain ⟨z1, M', z2, z3, z4⟩ := hs
    rw [sN, g2]
    exact ⟨⟨fun _ => ⟨g1, z1⟩, fun z => absurd z (by decide), fun z => absurd z (by decide), fun z => absurd z (by decide), fun z => absurd rfl z.1⟩, M', z2, z3, K0.tr (g4.tC.tr z4)⟩
  rw [P_12_clause_157, F_12_clause_157, nI_clamp (n := uN d.1) (by omega)]
  have Kw : ∀ v, Kp rD M1 (wr M1 5 (uN d.1) v) := fun v => Kp.rf.w (Or.inr (Or.inl rfl))
  cases o : tkN tb n p 0 8 with
  | inl e =>
    rw [o] at g3
    have g3' : RE e M1 ∧ TxE tb n M1 := g3
    obtain ⟨t1, M', t2, t3, t4⟩ := r_tailN (k := 0) (g3'.1.d (Kw _)) (g3'.2.d (Kw _)) (by omega)
    refine ⟨⟨v1, t1⟩, M', t2, ?_, (Kw _).dC.tr t4⟩
    unfold clR
    rw [o]
    exact t3
  | inr q =>
    obtain ⟨v, q⟩ := q
    rw [o] at g3
    have g3' : RT tb n q M1 := g3
    have hv := tkN_b o
    have d1 := d0.t g4
    have s1 : rd M1 0 7 = nI (c + 1) := by rw [g4.g (by unfold rT; omega)]; exact s0
    have dd : RD (aR d v) (if 0 < 3 then wr (wr M1 5 (uN d.1) (nI v)) 3 0 (rd (wr M1 5 (uN d.1) (nI v)) 3 0 + 1) else (wr M1 5 (uN d.1) (nI v))) := by
      rw [if_pos (by decide), rd_c (by decide)]
      obtain ⟨i0, i1, i2, i3, i4, i5, i6, i7, i8⟩ := d1
      refine ⟨aR_w i0 hN (by omega), ?_, ?_, ?_, ?_, ?_, ?_, ?_, ?_⟩
      · rw [rd_s, i1, nI_1]; rfl
      · rw [rd_i (by decide), rd_c (by decide)]; exact i2
      · rw [rd_i (by decide), rd_c (by decide)]; exact i3
      · rw [rd_i (by decide), rd_c (by decide)]; exact i4
      · intro e he
        have he' : e < uM d.1 := he
        have g : ∀ j, rd (wr (wr M1 5 (uN d.1) (nI v)) 3 0 (rd M1 3 0 + 1)) (30 + e) j = rd M1 (30 + e) j := fun j => by rw [rd_c (by omega), rd_c (by omega)]
        rw [g, g, g, g]; exact i5 e he'
      · intro r hr
        have hr' : r < uN d.1 + 1 := hr
        rw [rd_c (by decide), rd_c (a := 7) (by decide), rd_c (a := 7) (by decide)]
        show rd (wr M1 5 (uN d.1) (nI v)) 5 r = nI (up (uE d.1) (uN d.1) v r) ∧ rd M1 7 r = nI (up (uL d.1) (uN d.1) 16 r)
        by_cases ce : r = uN d.1
        · rw [ce, rd_s, up_s, up_s]; exact ⟨rfl, i7 _ (Nat.le_refl _) hN⟩
        · rw [rd_i ce, up_o ce, up_o ce]; exact i6 r (by omega)
      · intro r hr hr2
        have hr' : uN d.1 + 1 ≤ r := hr
        rw [rd_c (by decide), rd_c (by decide)]; exact i7 r (by omega) hr2
      · intro t ht
        rw [rd_c (by decide), rd_c (by decide)]; exact i8 t ht
    obtain ⟨t1, M', t2, t3, t4⟩ := r_tail (k := 0) (c := c + 1) (g3'.d (Kw _)) (by omega) (by rw [rd_c (by decide)]; exact s1) dd
    refine ⟨⟨v1, t1⟩, M', t2, ?_, (Kw _).dC.tr t4⟩
    unfold clR
    rw [o]
    exact t3
/-- a room's number -/
theorem r_room {tb : Nat → Nat} {n p : Nat} {d : DU} {M : Mem} (h : RT tb n p M) (hd : RD d M) : P_12_roomHere_0 M ∧ ∃ M', F_12_roomHere_0 M = (nI (vlO (tkN tb n p 0 (uN d.1))), M') ∧ RA tb n (fsT (tkN tb n p 0 (uN d.1))) M' ∧ Kp rT M M' := by
  obtain ⟨g1, M1, g2, g3, g4⟩ := r_number (xl := 0) (xh := nI (uN d.1) - 1) (lo := 0) (hi := uN d.1) h (fun v hv => hin_r hd.1.1.1 hv)
  rw [P_12_roomHere_0, F_12_roomHere_0, F_12_roomHere_13, cl0, hd.2.1]
  exact ⟨g1, M1, g2, g3, g4⟩
theorem r_c2 {tb : Nat → Nat} {n p c : Nat} {d : DU} {M : Mem} (h : RT tb n p M) (hd : RD d M) (h7 : rd M 0 7 = nI c) (hN : uT d.1 < 6) : P_12_clause_99 2 M ∧ ∃ M', F_12_clause_99 2 M = M' ∧ RC tb n (c + 1) (bnd (clT tb n d p) (sgA tb n)) M' ∧ Kp rC M M' := by
  have K0 : Kp rC M (wr M 0 7 (nI c + 1)) := Kp.rf.w (Or.inl ⟨rfl, by omega, by omega⟩)
  have K0' : Kp (fun a j => a = 0 ∧ j = 7) M (wr M 0 7 (nI c + 1)) := Kp.rf.w ⟨rfl, rfl⟩
  have h0 : RT tb n p (wr M 0 7 (nI c + 1)) := h.k K0' (fun a j z => by omega)
  have d0 : RD d (wr M 0 7 (nI c + 1)) := hd.k K0' (fun a j z => by unfold rD; omega)
  have s0 : rd (wr M 0 7 (nI c + 1)) 0 7 = nI (c + 1) := by rw [rd_s, nI_1]
  have sN := d0.2.2.2.1
  rw [P_12_clause_99, F_12_clause_99, h7, if_neg (by decide), if_neg (by decide), if_pos rfl, cl2]
  generalize wr M 0 7 (nI c + 1) = M0 at *
  obtain ⟨g1, M1, g2, g3, g4⟩ := r_room h0 d0
  have v1 : vp_in (nI (uT d.1)) 6 := (vp_iff (by omega)).mpr hN
  suffices hs : P_12_clause_265 2 (nI (vlO (tkN tb n p 0 (uN d.1)))) (nI (uT d.1)) M1 ∧ ∃ M', F_12_clause_265 2 (nI (vlO (tkN tb n p 0 (uN d.1)))) (nI (uT d.1)) M1 = M' ∧ RC tb n (c + 1) (bnd (clT tb n d p) (sgA tb n)) M' ∧ Kp rC M1 M' by
    obtain ⟨z1, M', z2, z3, z4⟩ := hs
    rw [sN, g2]
    exact ⟨⟨fun z => absurd z (by decide), fun z => absurd z (by decide), fun _ => ⟨g1, z1⟩, fun z => absurd z (by decide), fun z => absurd rfl z.2.2.1⟩, M', z2, z3, K0.tr (g4.tC.tr z4)⟩
  rw [P_12_clause_265, F_12_clause_265, nI_clamp (n := uT d.1) (by omega)]
  have Kw : ∀ v, Kp rD M1 (wr M1 9 (uT d.1) v) := fun v => Kp.rf.w (Or.inr (Or.inr (Or.inr (Or.inl rfl))))
  cases o : tkN tb n p 0 (uN d.1) with
  | inl e =>
    rw [o] at g3
    have g3' : RE e M1 ∧ TxE tb n M1 := g3
    obtain ⟨t1, M', t2, t3, t4⟩ := r_tailN (k := 2) (g3'.1.d (Kw _)) (g3'.2.d (Kw _)) (by omega)
    refine ⟨⟨v1, t1⟩, M', t2, ?_, (Kw _).dC.tr t4⟩
    unfold clT
    rw [o]
    exact t3
  | inr q =>
    obtain ⟨v, q⟩ := q
    rw [o] at g3
    have g3' : RT tb n q M1 := g3
    have hv := tkN_b o
    have d1 := d0.t g4
    have s1 : rd M1 0 7 = nI (c + 1) := by rw [g4.g (by unfold rT; omega)]; exact s0
    have dd : RD (aT d v) (if 2 < 3 then wr (wr M1 9 (uT d.1) (nI v)) 3 2 (rd (wr M1 9 (uT d.1) (nI v)) 3 2 + 1) else (wr M1 9 (uT d.1) (nI v))) := by
      rw [if_pos (by decide), rd_c (by decide)]
      obtain ⟨i0, i1, i2, i3, i4, i5, i6, i7, i8⟩ := d1
      refine ⟨aT_w i0 hN (by omega), ?_, ?_, ?_, ?_, ?_, ?_, ?_, ?_⟩
      · rw [rd_i (by decide), rd_c (by decide)]; exact i1
      · rw [rd_i (by decide), rd_c (by decide)]; exact i2
      · rw [rd_s, i3, nI_1]; rfl
      · rw [rd_i (by decide), rd_c (by decide)]; exact i4
      · intro e he
        have he' : e < uM d.1 := he
        have g : ∀ j, rd (wr (wr M1 9 (uT d.1) (nI v)) 3 2 (rd M1 3 2 + 1)) (30 + e) j = rd M1 (30 + e) j := fun j => by rw [rd_c (by omega), rd_c (by omega)]
        rw [g, g, g, g]; exact i5 e he'
      · intro r hr
        have hr' : r < uN d.1 := hr
        rw [rd_c (by decide), rd_c (by decide), rd_c (by decide), rd_c (by decide)]; exact i6 r hr'
      · intro r hr hr2
        have hr' : uN d.1 ≤ r := hr
        rw [rd_c (by decide), rd_c (by decide)]; exact i7 r hr' hr2
      · intro t ht
        have ht' : t < uT d.1 + 1 := ht
        rw [rd_c (by decide)]
        show rd (wr M1 9 (uT d.1) (nI v)) 9 t = nI (up d.2 (uT d.1) v t)
        by_cases ce : t = uT d.1
        · rw [ce, rd_s, up_s]
        · rw [rd_i ce, up_o ce]; exact i8 t (by omega)
    obtain ⟨t1, M', t2, t3, t4⟩ := r_tail (k := 2) (c := c + 1) (g3'.d (Kw _)) (by omega) (by rw [rd_c (by decide)]; exact s1) dd
    refine ⟨⟨v1, t1⟩, M', t2, ?_, (Kw _).dC.tr t4⟩
    unfold clT
    rw [o]
    exact t3
theorem r_c3 {tb : Nat → Nat} {n p c : Nat} {d : DU} {M : Mem} (h : RT tb n p M) (hd : RD d M) (h7 : rd M 0 7 = nI c) : P_12_clause_99 3 M ∧ ∃ M', F_12_clause_99 3 M = M' ∧ RC tb n (c + 1) (bnd (clX tb n d p) (sgA tb n)) M' ∧ Kp rC M M' := by
  have K0 : Kp rC M (wr M 0 7 (nI c + 1)) := Kp.rf.w (Or.inl ⟨rfl, by omega, by omega⟩)
  have K0' : Kp (fun a j => a = 0 ∧ j = 7) M (wr M 0 7 (nI c + 1)) := Kp.rf.w ⟨rfl, rfl⟩
  have h0 : RT tb n p (wr M 0 7 (nI c + 1)) := h.k K0' (fun a j z => by omega)
  have d0 : RD d (wr M 0 7 (nI c + 1)) := hd.k K0' (fun a j z => by unfold rD; omega)
  have s0 : rd (wr M 0 7 (nI c + 1)) 0 7 = nI (c + 1) := by rw [rd_s, nI_1]
  rw [P_12_clause_99, F_12_clause_99, h7, if_neg (by decide), if_neg (by decide), if_neg (by decide), if_pos rfl]
  generalize wr M 0 7 (nI c + 1) = M0 at *
  obtain ⟨g1, M1, g2, g3, g4⟩ := r_room h0 d0
  suffices hs : P_12_clause_273 3 (nI (vlO (tkN tb n p 0 (uN d.1)))) M1 ∧ ∃ M', F_12_clause_273 3 (nI (vlO (tkN tb n p 0 (uN d.1)))) M1 = M' ∧ RC tb n (c + 1) (bnd (clX tb n d p) (sgA tb n)) M' ∧ Kp rC M1 M' by
    obtain ⟨z1, M', z2, z3, z4⟩ := hs
    rw [g2]
    exact ⟨⟨fun z => absurd z (by decide), fun z => absurd z (by decide), fun z => absurd z (by decide), fun _ => ⟨g1, z1⟩, fun z => absurd rfl z.2.2.2⟩, M', z2, z3, K0.tr (g4.tC.tr z4)⟩
  rw [P_12_clause_273, F_12_clause_273, cl3]
  cases o : tkN tb n p 0 (uN d.1) with
  | inl e =>
    rw [o] at g3
    have g3' : RE e M1 ∧ TxE tb n M1 := g3
    obtain ⟨t1, M', t2, t3, t4⟩ := r_tailN (k := 3) g3'.1 g3'.2 (by omega)
    rw [if_neg g3'.1.ne]
    refine ⟨⟨fun _ => t1, fun z => absurd z g3'.1.ne⟩, M', t2, ?_, t4⟩
    unfold clX
    rw [o]
    exact t3
  | inr q =>
    obtain ⟨v, q⟩ := q
    rw [o] at g3
    have g3' : RT tb n q M1 := g3
    have hv := tkN_b o
    have d1 := d0.t g4
    have s1 : rd M1 0 7 = nI (c + 1) := by rw [g4.g (by unfold rT; omega)]; exact s0
    have Kw : Kp rD M1 (wr M1 3 3 (rd M1 3 3 ||| ((1 : Int32) <<< (nI v &&& 31)))) := Kp.rf.w (Or.inl rfl)
    have dd : RD (aX d v) (if 3 < 3 then wr (wr M1 3 3 (rd M1 3 3 ||| ((1 : Int32) <<< (nI v &&& 31)))) 3 3 (rd (wr M1 3 3 (rd M1 3 3 ||| ((1 : Int32) <<< (nI v &&& 31)))) 3 3 + 1) else (wr M1 3 3 (rd M1 3 3 ||| ((1 : Int32) <<< (nI v &&& 31))))) := by
      rw [if_neg (by decide)]
      obtain ⟨i0, i1, i2, i3, i4, i5, i6, i7, i8⟩ := d1
      refine ⟨aX_w i0 (by omega), ?_, ?_, ?_, ?_, ?_, ?_, ?_, ?_⟩
      · rw [rd_i (by decide)]; exact i1
      · rw [rd_i (by decide)]; exact i2
      · rw [rd_i (by decide)]; exact i3
      · rw [rd_s, i4]; rfl
      · intro e he
        have he' : e < uM d.1 := he
        have g : ∀ j, rd (wr M1 3 3 (rd M1 3 3 ||| ((1 : Int32) <<< (nI v &&& 31)))) (30 + e) j = rd M1 (30 + e) j := fun j => by rw [rd_c (by omega)]
        rw [g, g, g, g]; exact i5 e he'
      · intro r hr
        have hr' : r < uN d.1 := hr
        rw [rd_c (by decide), rd_c (by decide)]; exact i6 r hr'
      · intro r hr hr2
        have hr' : uN d.1 ≤ r := hr
        rw [rd_c (by decide)]; exact i7 r hr' hr2
      · intro t ht
        rw [rd_c (by decide)]; exact i8 t ht
    obtain ⟨t1, M', t2, t3, t4⟩ := r_tail (k := 3) (c := c + 1) (g3'.d Kw) (by omega) (by rw [rd_c (by decide)]; exact s1) dd
    rw [if_pos g3'.2.2.2]
    refine ⟨⟨fun z => absurd g3'.2.2.2 z, fun _ => t1⟩, M', t2, ?_, Kw.dC.tr t4⟩
    unfold clX
    rw [o]
    exact t3
theorem r_c4 {tb : Nat → Nat} {n p c : Nat} {d : DU} {M : Mem} (h : RT tb n p M) (hd : RD d M) (h7 : rd M 0 7 = nI c) : P_12_clause_99 4 M ∧ ∃ M', F_12_clause_99 4 M = M' ∧ RC tb n (c + 1) (bnd (clW tb n d p) (sgA tb n)) M' ∧ Kp rC M M' := by
  have K0 : Kp rC M (wr M 0 7 (nI c + 1)) := Kp.rf.w (Or.inl ⟨rfl, by omega, by omega⟩)
  have K0' : Kp (fun a j => a = 0 ∧ j = 7) M (wr M 0 7 (nI c + 1)) := Kp.rf.w ⟨rfl, rfl⟩
  have h0 : RT tb n p (wr M 0 7 (nI c + 1)) := h.k K0' (fun a j z => by omega)
  have d0 : RD d (wr M 0 7 (nI c + 1)) := hd.k K0' (fun a j z => by unfold rD; omega)
  have s0 : rd (wr M 0 7 (nI c + 1)) 0 7 = nI (c + 1) := by rw [rd_s, nI_1]
  rw [P_12_clause_99, F_12_clause_99, h7, if_neg (by decide), if_neg (by decide), if_neg (by decide), if_neg (by decide)]
  generalize wr M 0 7 (nI c + 1) = M0 at *
  obtain ⟨g1, M1, g2, g3, g4⟩ := r_room h0 d0
  suffices hs : P_12_clause_300 4 (nI (vlO (tkN tb n p 0 (uN d.1)))) M1 ∧ ∃ M', F_12_clause_300 4 (nI (vlO (tkN tb n p 0 (uN d.1)))) M1 = M' ∧ RC tb n (c + 1) (bnd (clW tb n d p) (sgA tb n)) M' ∧ Kp rC M1 M' by
    obtain ⟨z1, M', z2, z3, z4⟩ := hs
    rw [g2]
    exact ⟨⟨fun z => absurd z (by decide), fun z => absurd z (by decide), fun z => absurd z (by decide), fun z => absurd z (by decide), fun _ => ⟨g1, z1⟩⟩, M', z2, z3, K0.tr (g4.tC.tr z4)⟩
  have fN : ∀ (e : Nat × Nat) (x : Int32) (y : Int32) (M2 : Mem), RE e M2 → TxE tb n M2 → P_12_clause_308 4 x y M2 ∧ ∃ M', F_12_clause_308 4 x y M2 = M' ∧ (RE e M' ∧ TxE tb n M') ∧ Kp rC M2 M' := by
    intro e x y M2 a1 a2
    obtain ⟨t1, M', t2, t3, t4⟩ := r_tailN (k := 4) a1 a2 (by omega)
    rw [P_12_clause_308, F_12_clause_308, if_neg a1.ne]
    exact ⟨⟨fun _ => t1, fun z => absurd z a1.ne⟩, M', t2, t3, t4⟩
  rw [P_12_clause_300, F_12_clause_300]
  cases o : tkN tb n p 0 (uN d.1) with
  | inl e =>
    rw [o] at g3
    have g3' : RE e M1 ∧ TxE tb n M1 := g3
    obtain ⟨n1, n2⟩ := r_numberN (x := 0) (y := 16) g3'.1.ne
    obtain ⟨t1, M', t2, t3, t4⟩ := fN e (nI (vlO (.inl e : TRs (Nat × Nat)))) 0 M1 g3'.1 g3'.2
    rw [n2]
    refine ⟨⟨n1, t1⟩, M', t2, ?_, t4⟩
    unfold clW
    rw [o]
    exact t3
  | inr q =>
    obtain ⟨r, q⟩ := q
    rw [o] at g3
    have g3' : RT tb n q M1 := g3
    have hr := tkN_b o
    have hN := d0.1.1.1
    have d1 := d0.t g4
    have s1 : rd M1 0 7 = nI (c + 1) := by rw [g4.g (by unfold rT; omega)]; exact s0
    obtain ⟨a1, M2, a2, a3, a4⟩ := r_number (xl := 0) (xh := 16) (lo := 0) (hi := 17) g3' (fun v hv => hin_c (lo := 0) (hi := 16) (by omega) (by omega) hv)
    rw [a2]
    have ew : clW tb n d p = bnd (tkN tb n q 0 17) (fun v => .inr (aW d r v.1, v.2)) := by unfold clW; rw [o]; rfl
    rw [ew]
    cases o2 : tkN tb n q 0 17 with
    | inl e =>
      rw [o2] at a3
      have a3' : RE e M2 ∧ TxE tb n M2 := a3
      obtain ⟨t1, M', t2, t3, t4⟩ := fN e (nI r) (nI (vlO (.inl e : TRs (Nat × Nat)))) M2 a3'.1 a3'.2
      exact ⟨⟨a1, t1⟩, M', t2, t3, a4.tC.tr t4⟩
    | inr w =>
      obtain ⟨v, w⟩ := w
      rw [o2] at a3
      have a3' : RT tb n w M2 := a3
      have hv := tkN_b o2
      have d2 := d1.t a4
      have s2 : rd M2 0 7 = nI (c + 1) := by rw [a4.g (by unfold rT; omega)]; exact s1
      have Kw : Kp rD M2 (wr M2 7 r (nI v)) := Kp.rf.w (Or.inr (Or.inr (Or.inl rfl)))
      have dd : RD (aW d r v) (if 4 < 3 then wr (wr M2 7 r (nI v)) 3 4 (rd (wr M2 7 r (nI v)) 3 4 + 1) else (wr M2 7 r (nI v))) := by
        rw [if_neg (by decide)]
        obtain ⟨i0, i1, i2, i3, i4, i5, i6, i7, i8⟩ := d2
        refine ⟨aW_w i0 (by omega), ?_, ?_, ?_, ?_, ?_, ?_, ?_, ?_⟩
        · rw [rd_c (by decide)]; exact i1
        · rw [rd_c (by decide)]; exact i2
        · rw [rd_c (by decide)]; exact i3
        · rw [rd_c (by decide)]; exact i4
        · intro e he
          have he' : e < uM d.1 := he
          have g : ∀ j, rd (wr M2 7 r (nI v)) (30 + e) j = rd M2 (30 + e) j := fun j => by rw [rd_c (by omega)]
          rw [g, g, g, g]; exact i5 e he'
        · intro e he
          have he' : e < uN d.1 := he
          rw [rd_c (by decide)]
          refine ⟨(i6 e he').1, ?_⟩
          show rd (wr M2 7 r (nI v)) 7 e = nI (up (uL d.1) r v e)
          by_cases ce : e = r
          · rw [ce, rd_s, up_s]
          · rw [rd_i ce, up_o ce]; exact (i6 e he').2
        · intro e he he2
          have he' : uN d.1 ≤ e := he
          rw [rd_i (by omega)]; exact i7 e he' he2
        · intro t ht
          rw [rd_c (by decide)]; exact i8 t ht
      obtain ⟨t1, M', t2, t3, t4⟩ := r_tail (k := 4) (c := c + 1) (a3'.d Kw) (by omega) (by rw [rd_c (by decide)]; exact s2) dd
      have v1 : vp_in (nI r) 10 := (vp_iff (by omega)).mpr (by omega)
      refine ⟨⟨a1, ?_⟩, M', ?_, t3, a4.tC.tr (Kw.dC.tr t4)⟩
      · rw [P_12_clause_308]
        refine ⟨fun z => absurd a3'.2.2.2 z, fun _ => ⟨v1, ?_⟩⟩
        have : (nI (vlO (.inr (r, q)))).toNatClampNeg = r := nI_clamp (by show r < _; omega)
        rw [this]
        exact t1
      · rw [F_12_clause_308, if_pos a3'.2.2.2]
        have : (nI (vlO (.inr (r, q)))).toNatClampNeg = r := nI_clamp (by show r < _; omega)
        rw [this]
        exact t2
