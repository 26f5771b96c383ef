/-! MATHEMATICS 71: what holds between the calls -/
abbrev ID : Type := MU × SU × List Int32 × WU × (Nat × (Nat → SU)) × (Nat × (Nat → Nat × SU × (Nat → SU))) × (Nat × (Nat → Nat)) × Int32 × Int32 × Int32 × Int32
def dU (d : ID) : MU := d.1
def dS (d : ID) : SU := d.2.1
def dL (d : ID) : List Int32 := d.2.2.1
def dW (d : ID) : WU := d.2.2.2.1
def dB (d : ID) : Nat × (Nat → SU) := d.2.2.2.2.1
def dI (d : ID) : Nat × (Nat → Nat × SU × (Nat → SU)) := d.2.2.2.2.2.1
def dT (d : ID) : Nat × (Nat → Nat) := d.2.2.2.2.2.2.1
def dP (d : ID) : Int32 := d.2.2.2.2.2.2.2.1
def dR (d : ID) : Int32 := d.2.2.2.2.2.2.2.2.1
def dN (d : ID) : Int32 := d.2.2.2.2.2.2.2.2.2.1
def dE (d : ID) : Int32 := d.2.2.2.2.2.2.2.2.2.2
def RIt (T : Nat × (Nat → Nat)) (M : Mem) : Prop := T.1 ≤ 600 ∧ rd M 0 1 = nI T.1 ∧ ∀ i, i < T.1 → rd M 1 i = nI (T.2 i) ∧ T.2 i < 256
def RIb (u : MU) (B : Nat × (Nat → SU)) (M : Mem) : Prop := B.1 ≤ 16 ∧ rd M 0 36 = nI B.1 ∧ ∀ i, i < B.1 → RR u (B.2 i) (rd M (478 + i))
def RIo (u : MU) (x : Nat × SU × (Nat → SU)) (f : Nat → Int32) : Prop := x.1 ≤ 16 ∧ f 0 = nI x.1 ∧ RR u x.2.1 (fun j => f (1 + j)) ∧ ∀ a, a < x.1 → RR u (x.2.2 a) (fun j => f (57 + 56 * a + j))
def RIm (u : MU) (I : Nat × (Nat → Nat × SU × (Nat → SU))) (M : Mem) : Prop := I.1 ≤ 3 ∧ rd M 0 38 = nI I.1 ∧ ∀ i, i < I.1 → RIo u (I.2 i) (rd M (494 + i))
def RI (d : ID) (M : Mem) : Prop := RV (dU d) (dS d) (dL d) M ∧ RK (dW d) M ∧ RIt (dT d) M ∧ RIb (dU d) (dB d) M ∧ RIm (dU d) (dI d) M ∧ rd M 0 3 = dP d ∧ rd M 0 37 = dR d ∧ rd M 2 0 = dN d ∧ rd M 2 1 = dE d
def CIt (T : Nat × (Nat → Nat)) (M : Mem) : Prop := T.1 ≤ 600 ∧ rd M 1558 1 = nI T.1 ∧ ∀ i, i < T.1 → rd M 1559 i &&& 255 = nI (T.2 i) ∧ (rd M 1559 i = 32 ↔ T.2 i = 32) ∧ T.2 i < 256
def CIb (u : MU) (B : Nat × (Nat → SU)) (M : Mem) : Prop := B.1 ≤ 16 ∧ rd M 1614 2 = nI B.1 ∧ ∀ i, i < B.1 → CR (1622 + 3 * (i + 1)) u (B.2 i) M
def CIo (u : MU) (x : Nat × SU × (Nat → SU)) (i : Nat) (M : Mem) : Prop := x.1 ≤ 16 ∧ rd M (1615 + i) 2 = nI x.1 ∧ CR (1622 + 51 * (i + 1)) u x.2.1 M ∧ ∀ a, a < x.1 → CR (1622 + 51 * (i + 1) + 3 * (a + 1)) u (x.2.2 a) M
def CIm (u : MU) (I : Nat × (Nat → Nat × SU × (Nat → SU))) (M : Mem) : Prop := I.1 ≤ 3 ∧ rd M 1558 14 = nI I.1 ∧ ∀ i, i < I.1 → CIo u (I.2 i) i M
def CI (d : ID) (M : Mem) : Prop := CV (dU d) (dS d) (dL d) M ∧ CK (dW d) M ∧ CIt (dT d) M ∧ CIb (dU d) (dB d) M ∧ CIm (dU d) (dI d) M ∧ rd M 1558 2 = dP d ∧ rd M 1558 5 = dR d ∧ rd M 1558 3 = dN d ∧ rd M 1558 4 = dE d
def rAll (c _j : Nat) : Prop := c < 1557
def cAll (c _j : Nat) : Prop := 1558 ≤ c
/-- the reference's cells that a question may change -/
def rQy (c j : Nat) : Prop := c < 1557 ∧ ¬ ((c = 0 ∧ (j = 1 ∨ j = 3 ∨ j = 21 ∨ j = 35 ∨ j = 36 ∨ j = 37 ∨ j = 38)) ∨ c = 1 ∨ c = 2 ∨ c = 4 ∨ c = 6 ∨ c = 8 ∨ c = 17 ∨ c = 20 ∨ (54 ≤ c ∧ c < 238) ∨ (478 ≤ c ∧ c < 497))
def cQy (c j : Nat) : Prop := 1558 ≤ c ∧ ¬ ((c = 1558 ∧ ((1 ≤ j ∧ j ≤ 5) ∨ j = 14)) ∨ c = 1559 ∨ (1561 ≤ c ∧ c ≤ 1570) ∨ c = 1583 ∨ c = 1584 ∨ (c = 1592 ∧ j = 7) ∨ c = 1593 ∨ (1614 ≤ c ∧ c ≤ 1617) ∨ (1622 ≤ c ∧ c ≤ 1825))
theorem RIt.k {p : Nat → Nat → Prop} {T : Nat × (Nat → Nat)} {M M' : Mem} (h : RIt T M) (hk : Kp p M M') (hp : ∀ c j, p c j → c ≠ 1 ∧ ¬ (c = 0 ∧ j = 1)) : RIt T M' := ⟨h.1, by rw [hk.g (fun z => (hp _ _ z).2 ⟨rfl, rfl⟩)]; exact h.2.1, fun i hi => by rw [hk.g (fun z => (hp _ _ z).1 rfl)]; exact h.2.2 i hi⟩
theorem RIb.k {p : Nat → Nat → Prop} {u : MU} {B : Nat × (Nat → SU)} {M M' : Mem} (h : RIb u B M) (hk : Kp p M M') (hp : ∀ c j, p c j → ¬ (478 ≤ c ∧ c < 494) ∧ ¬ (c = 0 ∧ j = 36)) : RIb u B M' := by
  have h1 := h.1
  refine ⟨h1, by rw [hk.g (fun z => (hp _ _ z).2 ⟨rfl, rfl⟩)]; exact h.2.1, fun i hi => ?_⟩
  rw [hk.row (c := 478 + i) (fun j z => (hp _ _ z).1 ⟨by omega, by omega⟩)]
  exact h.2.2 i hi
theorem RIm.k {p : Nat → Nat → Prop} {u : MU} {I : Nat × (Nat → Nat × SU × (Nat → SU))} {M M' : Mem} (h : RIm u I M) (hk : Kp p M M') (hp : ∀ c j, p c j → ¬ (494 ≤ c ∧ c < 497) ∧ ¬ (c = 0 ∧ j = 38)) : RIm u I M' := by
  have h1 := h.1
  refine ⟨h1, by rw [hk.g (fun z => (hp _ _ z).2 ⟨rfl, rfl⟩)]; exact h.2.1, fun i hi => ?_⟩
  rw [hk.row (c := 494 + i) (fun j z => (hp _ _ z).1 ⟨by omega, by omega⟩)]
  exact h.2.2 i hi
theorem RI.q {d : ID} {M M' : Mem} (h : RI d M) (hk : Kp rQy M M') : RI d M' := by
  obtain ⟨h1, h2, h3, h4, h5, h6, h7, h8, h9⟩ := h
  refine ⟨h1.k hk (fun c j z => ?_), h2.k hk (fun c j z => ?_), h3.k hk (fun c j z => ?_), h4.k hk (fun c j z => ?_), h5.k hk (fun c j z => ?_), ?_, ?_, ?_, ?_⟩
  · unfold rQy at z; omega
  · unfold rQy at z; omega
  · unfold rQy at z; omega
  · unfold rQy at z; omega
  · unfold rQy at z; omega
  · rw [hk.g (by unfold rQy; omega)]; exact h6
  · rw [hk.g (by unfold rQy; omega)]; exact h7
  · rw [hk.g (by unfold rQy; omega)]; exact h8
  · rw [hk.g (by unfold rQy; omega)]; exact h9
theorem CIt.k {p : Nat → Nat → Prop} {T : Nat × (Nat → Nat)} {M M' : Mem} (h : CIt T M) (hk : Kp p M M') (hp : ∀ c j, p c j → c ≠ 1559 ∧ ¬ (c = 1558 ∧ j = 1)) : CIt T M' := ⟨h.1, by rw [hk.g (fun z => (hp _ _ z).2 ⟨rfl, rfl⟩)]; exact h.2.1, fun i hi => by rw [hk.g (fun z => (hp _ _ z).1 rfl)]; exact h.2.2 i hi⟩
theorem CIb.k {p : Nat → Nat → Prop} {u : MU} {B : Nat × (Nat → SU)} {M M' : Mem} (h : CIb u B M) (hk : Kp p M M') (hp : ∀ c j, p c j → ¬ (1625 ≤ c ∧ c ≤ 1672) ∧ ¬ (c = 1614 ∧ j = 2)) : CIb u B M' := by
  have h1 := h.1
  refine ⟨h1, by rw [hk.g (fun z => (hp _ _ z).2 ⟨rfl, rfl⟩)]; exact h.2.1, fun i hi => (h.2.2 i hi).k hk (fun c j z => ?_)⟩
  have := (hp _ _ z).1
  omega
theorem CIo.k {p : Nat → Nat → Prop} {u : MU} {x : Nat × SU × (Nat → SU)} {i : Nat} {M M' : Mem} (h : CIo u x i M) (hk : Kp p M M') (hp : ∀ c j, p c j → ¬ (1622 + 51 * (i + 1) ≤ c ∧ c ≤ 1672 + 51 * (i + 1)) ∧ ¬ (c = 1615 + i ∧ j = 2)) : CIo u x i M' := by
  have h1 := h.1
  refine ⟨h1, by rw [hk.g (fun z => (hp _ _ z).2 ⟨rfl, rfl⟩)]; exact h.2.1, h.2.2.1.k hk (fun c j z => ?_), fun a ha => (h.2.2.2 a ha).k hk (fun c j z => ?_)⟩
  · have := (hp _ _ z).1
    omega
  · have := (hp _ _ z).1
    omega
theorem CIm.k {p : Nat → Nat → Prop} {u : MU} {I : Nat × (Nat → Nat × SU × (Nat → SU))} {M M' : Mem} (h : CIm u I M) (hk : Kp p M M') (hp : ∀ c j, p c j → ¬ (1673 ≤ c ∧ c ≤ 1825) ∧ ¬ (c = 1558 ∧ j = 14) ∧ ¬ (1615 ≤ c ∧ c ≤ 1617 ∧ j = 2)) : CIm u I M' := by
  have h1 := h.1
  refine ⟨h1, by rw [hk.g (fun z => (hp _ _ z).2.1 ⟨rfl, rfl⟩)]; exact h.2.1, fun i hi => (h.2.2 i hi).k hk (fun c j z => ?_)⟩
  have := hp _ _ z
  omega
theorem CI.q {d : ID} {M M' : Mem} (h : CI d M) (hk : Kp cQy M M') : CI d M' := by
  obtain ⟨h1, h2, h3, h4, h5, h6, h7, h8, h9⟩ := h
  refine ⟨h1.k hk (fun c j z => ?_), h2.k hk (fun c j z => ?_), h3.k hk (fun c j z => ?_), h4.k hk (fun c j z => ?_), h5.k hk (fun c j z => ?_), ?_, ?_, ?_, ?_⟩
  · unfold cQy at z; omega
  · unfold cQy at z; omega
  · unfold cQy at z; omega
  · unfold cQy at z; omega
  · unfold cQy at z; omega
  · rw [hk.g (by unfold cQy; omega)]; exact h6
  · rw [hk.g (by unfold cQy; omega)]; exact h7
  · rw [hk.g (by unfold cQy; omega)]; exact h8
  · rw [hk.g (by unfold cQy; omega)]; exact h9
/-! the answer of a call on both sides -/
def OcI (a b c v : Int32) (o : Oc) (M' : Mem) : Prop := (c = 0 ∧ o = .inl (some (.int v), M')) ∨ (c = a ∧ ¬ a = 0 ∧ o = .inr ("java/util/NoSuchElementException", M')) ∨ (c = b ∧ ¬ b = 0 ∧ o = .inr ("java/lang/IllegalArgumentException", M'))
def QC (a b : Int32) (Mr Mc : Mem) (zr : Int32 × Mem) (zc : Oc) : Prop := ∃ d' Mc', RI d' zr.2 ∧ Kp rAll Mr zr.2 ∧ CI d' Mc' ∧ Kp cAll Mc Mc' ∧ OcI a b (rd zr.2 0 0) zr.1 zc Mc'
/-- the same without throws -/
def QD (Mr Mc : Mem) (zr : Int32 × Mem) (zc : Int32 × Mem) : Prop := ∃ d', RI d' zr.2 ∧ Kp rAll Mr zr.2 ∧ CI d' zc.2 ∧ Kp cAll Mc zc.2 ∧ zr.1 = zc.1
def n1D (d : ID) : ID := (dU d, dS d, dL d, dW d, dB d, dI d, dT d, dP d, dR d, dN d + 1, dE d)
def e1D (d : ID) : ID := (dU d, dS d, dL d, dW d, dB d, dI d, dT d, dP d, dR d, dN d, dE d + 1)
theorem RI.z {d : ID} {M : Mem} (h : RI d M) : RI d (wr M 0 0 0) ∧ rd (wr M 0 0 0) 0 0 = 0 ∧ Kp rQy M (wr M 0 0 0) := by
  have K : Kp rQy M (wr M 0 0 0) := Kp.rf.w (by unfold rQy; omega)
  exact ⟨h.q K, rd_s _ _ _ _, K⟩
theorem rq_all {M M' : Mem} (h : Kp rQy M M') : Kp rAll M M' := h.mono (fun c j z => z.1)
theorem cq_all {M M' : Mem} (h : Kp cQy M M') : Kp cAll M M' := h.mono (fun c j z => z.1)
theorem RI.n {d : ID} {M : Mem} {a : Int32} (h : RI d M) : RI (n1D d) (wr (wr M 0 0 a) 2 0 (rd M 2 0 + 1)) ∧ rd (wr (wr M 0 0 a) 2 0 (rd M 2 0 + 1)) 0 0 = a ∧ Kp rAll M (wr (wr M 0 0 a) 2 0 (rd M 2 0 + 1)) := by
  have K : Kp (fun c j => (c = 0 ∧ j = 0) ∨ (c = 2 ∧ j = 0)) M (wr (wr M 0 0 a) 2 0 (rd M 2 0 + 1)) := (Kp.rf.w (Or.inl ⟨rfl, rfl⟩)).w (Or.inr ⟨rfl, rfl⟩)
  obtain ⟨h1, h2, h3, h4, h5, h6, h7, h8, h9⟩ := h
  refine ⟨⟨h1.k K (fun c j z => by omega), h2.k K (fun c j z => by omega), h3.k K (fun c j z => by omega), h4.k K (fun c j z => by omega), h5.k K (fun c j z => by omega), ?_, ?_, ?_, ?_⟩, ?_, K.mono (fun c j z => by unfold rAll; omega)⟩
  · rw [K.g (by omega)]; exact h6
  · rw [K.g (by omega)]; exact h7
  · rw [rd_s, h8]; rfl
  · rw [K.g (by omega)]; exact h9
  · rw [rd_c (by decide), rd_s]
theorem RI.e {d : ID} {M : Mem} {a : Int32} (h : RI d M) : RI (e1D d) (wr (wr M 0 0 a) 2 1 (rd M 2 1 + 1)) ∧ rd (wr (wr M 0 0 a) 2 1 (rd M 2 1 + 1)) 0 0 = a ∧ Kp rAll M (wr (wr M 0 0 a) 2 1 (rd M 2 1 + 1)) := by
  have K : Kp (fun c j => (c = 0 ∧ j = 0) ∨ (c = 2 ∧ j = 1)) M (wr (wr M 0 0 a) 2 1 (rd M 2 1 + 1)) := (Kp.rf.w (Or.inl ⟨rfl, rfl⟩)).w (Or.inr ⟨rfl, rfl⟩)
  obtain ⟨h1, h2, h3, h4, h5, h6, h7, h8, h9⟩ := h
  refine ⟨⟨h1.k K (fun c j z => by omega), h2.k K (fun c j z => by omega), h3.k K (fun c j z => by omega), h4.k K (fun c j z => by omega), h5.k K (fun c j z => by omega), ?_, ?_, ?_, ?_⟩, ?_, K.mono (fun c j z => by unfold rAll; omega)⟩
  · rw [K.g (by omega)]; exact h6
  · rw [K.g (by omega)]; exact h7
  · rw [K.g (by omega)]; exact h8
  · rw [rd_s, h9]; rfl
  · rw [rd_c (by decide), rd_s]
theorem CI.n {d : ID} {M : Mem} (h : CI d M) : CI (n1D d) (wr M 1558 3 (rd M 1558 3 + 1)) ∧ Kp cAll M (wr M 1558 3 (rd M 1558 3 + 1)) := by
  have K : Kp (fun c j => c = 1558 ∧ j = 3) M (wr M 1558 3 (rd M 1558 3 + 1)) := Kp.rf.w ⟨rfl, rfl⟩
  obtain ⟨h1, h2, h3, h4, h5, h6, h7, h8, h9⟩ := h
  refine ⟨⟨h1.k K (fun c j z => by omega), h2.k K (fun c j z => by omega), h3.k K (fun c j z => by omega), h4.k K (fun c j z => by omega), h5.k K (fun c j z => by omega), ?_, ?_, ?_, ?_⟩, K.mono (fun c j z => by unfold cAll; omega)⟩
  · rw [K.g (by omega)]; exact h6
  · rw [K.g (by omega)]; exact h7
  · rw [rd_s, h8]; rfl
  · rw [K.g (by omega)]; exact h9
theorem CI.e {d : ID} {M : Mem} (h : CI d M) : CI (e1D d) (wr M 1558 4 (rd M 1558 4 + 1)) ∧ Kp cAll M (wr M 1558 4 (rd M 1558 4 + 1)) := by
  have K : Kp (fun c j => c = 1558 ∧ j = 4) M (wr M 1558 4 (rd M 1558 4 + 1)) := Kp.rf.w ⟨rfl, rfl⟩
  obtain ⟨h1, h2, h3, h4, h5, h6, h7, h8, h9⟩ := h
  refine ⟨⟨h1.k K (fun c j z => by omega), h2.k K (fun c j z => by omega), h3.k K (fun c j z => by omega), h4.k K (fun c j z => by omega), h5.k K (fun c j z => by omega), ?_, ?_, ?_, ?_⟩, K.mono (fun c j z => by unfold cAll; omega)⟩
  · rw [K.g (by omega)]; exact h6
  · rw [K.g (by omega)]; exact h7
  · rw [K.g (by omega)]; exact h8
  · rw [rd_s, h9]; rfl
theorem QC.n {d : ID} {Mr M0 Mc : Mem} {b : Int32} (hr : RI d M0) (hk : Kp rQy Mr M0) (hc : CI d Mc) : QC 1 b Mr Mc (0, wr (wr M0 0 0 1) 2 0 (rd M0 2 0 + 1)) (.inr ("java/util/NoSuchElementException", wr Mc 1558 3 (rd Mc 1558 3 + 1))) :=
  ⟨n1D d, _, hr.n.1, (rq_all hk).tr hr.n.2.2, hc.n.1, hc.n.2, Or.inr (Or.inl ⟨hr.n.2.1, one_ne, rfl⟩)⟩
theorem QC.e {d : ID} {Mr M0 Mc : Mem} {a b : Int32} (hb : ¬ b = 0) (hr : RI d M0) (hk : Kp rQy Mr M0) (hc : CI d Mc) : QC a b Mr Mc (0, wr (wr M0 0 0 b) 2 1 (rd M0 2 1 + 1)) (.inr ("java/lang/IllegalArgumentException", wr Mc 1558 4 (rd Mc 1558 4 + 1))) :=
  ⟨e1D d, _, hr.e.1, (rq_all hk).tr hr.e.2.2, hc.e.1, hc.e.2, Or.inr (Or.inr ⟨hr.e.2.1, hb, rfl⟩)⟩
theorem QC.ok {d : ID} {Mr M0 M1 Mc Mc1 : Mem} {a b v : Int32} (hr : RI d M0) (h0 : rd M0 0 0 = 0) (hk : Kp rQy Mr M0) (hk1 : Kp rQy M0 M1) (h00 : rd M1 0 0 = rd M0 0 0) (hc : CI d Mc) (hkc : Kp cQy Mc Mc1) : QC a b Mr Mc (v, M1) (.inl (some (.int v), Mc1)) :=
  ⟨d, _, hr.q hk1, (rq_all hk).tr (rq_all hk1), hc.q hkc, cq_all hkc, Or.inl ⟨h00.trans h0, rfl⟩⟩
theorem QD.ok {d : ID} {Mr M0 M1 Mc Mc1 : Mem} {v : Int32} (hr : RI d M0) (hk : Kp rQy Mr M0) (hk1 : Kp rQy M0 M1) (hc : CI d Mc) (hkc : Kp cQy Mc Mc1) : QD Mr Mc (v, M1) (v, Mc1) :=
  ⟨d, hr.q hk1, (rq_all hk).tr (rq_all hk1), hc.q hkc, cq_all hkc, rfl⟩
/-! guards -/
theorem bdN {M : Mem} (h : rd M 0 0 = 0) {a : Int32} (ha : ¬ a = 0) : P_12_bad_0 1 a 0 M ∧ F_12_bad_0 1 a 0 M = (1, wr (wr M 0 0 a) 2 0 (rd M 2 0 + 1)) := by
  rw [P_12_bad_0, F_12_bad_0, if_neg one_ne, if_pos h, cl0, rd_c (by decide), F_12_bad_26, rd_c (by decide), rd_s, if_neg ha]
  exact ⟨⟨fun z => absurd z one_ne, fun _ => ⟨fun z => absurd h z, fun _ => (vp_iff (i := 0) (by omega)).mpr (by omega)⟩⟩, rfl⟩
theorem bdE {M : Mem} (h : rd M 0 0 = 0) {a : Int32} (ha : ¬ a = 0) : P_12_bad_0 1 a 1 M ∧ F_12_bad_0 1 a 1 M = (1, wr (wr M 0 0 a) 2 1 (rd M 2 1 + 1)) := by
  rw [P_12_bad_0, F_12_bad_0, if_neg one_ne, if_pos h, cl1, rd_c (by decide), F_12_bad_26, rd_c (by decide), rd_s, if_neg ha]
  exact ⟨⟨fun z => absurd z one_ne, fun _ => ⟨fun z => absurd h z, fun _ => (vp_iff (i := 1) (by omega)).mpr (by omega)⟩⟩, rfl⟩
theorem in_ok {M : Mem} {x : Int32} {N : Nat} (hN : N ≤ 24) : narrow .boolean (.int (F_12_in_0 M x 0 (nI N - 1))) = .int (F_12_in_0 M x 0 (nI N - 1)) := by
  rw [r_in]; exact nb10
/-- a number of rooms, doors or tours -/
theorem rngN {x : Int32} {N : Nat} (hN : N ≤ 24) : (∃ r, r < N ∧ x = nI r ∧ (∀ M, F_12_in_0 M (nI r) 0 (nI N - 1) = 1) ∧ (0 ≤ nI r ∧ nI r < nI N)) ∨ ((∀ M, F_12_in_0 M x 0 (nI N - 1) = 0) ∧ ¬ (0 ≤ x ∧ x < nI N)) := by
  by_cases h0 : (0 : Int32) ≤ x
  · obtain ⟨n, hn, rfl⟩ := nI_nn h0
    by_cases h1 : n < N
    · refine Or.inl ⟨n, h1, rfl, fun M => ?_, h0, (nI_ltI hn (by omega)).mpr h1⟩
      rw [r_in, if_pos ⟨h0, (hin_m' hN (by omega)).mpr h1⟩]
    · refine Or.inr ⟨fun M => ?_, fun z => h1 ((nI_ltI hn (by omega)).mp z.2)⟩
      rw [r_in, if_neg]
      intro z
      apply h1
      have z2 := z.2
      by_cases c : N = 0
      · subst c
        exact absurd (Int32.le_trans h0 z2) (by decide)
      · rw [show (1 : Int32) = nI 1 from rfl, pk_sub (by omega), nI_leI hn (by omega)] at z2
        omega
  · exact Or.inr ⟨fun M => by rw [r_in, if_neg (fun z => h0 z.1)], fun z => h0 z.1⟩
/-- a choice -/
theorem rngB {x : Int32} {B : Nat} (hB : B ≤ 600) : (∃ v, v ≤ B ∧ x = nI v ∧ (∀ M, F_12_in_0 M (nI v) 0 (nI B) = 1) ∧ (0 ≤ nI v ∧ nI v ≤ nI B)) ∨ ((∀ M, F_12_in_0 M x 0 (nI B) = 0) ∧ ¬ (0 ≤ x ∧ x ≤ nI B)) := by
  by_cases h0 : (0 : Int32) ≤ x
  · obtain ⟨n, hn, rfl⟩ := nI_nn h0
    by_cases h1 : n ≤ B
    · have h2 : nI n ≤ nI B := (nI_leI hn (by omega)).mpr h1
      exact Or.inl ⟨n, h1, rfl, fun M => by rw [r_in, if_pos ⟨h0, h2⟩], h0, h2⟩
    · have h2 : ¬ nI n ≤ nI B := fun z => h1 ((nI_leI hn (by omega)).mp z)
      exact Or.inr ⟨fun M => by rw [r_in, if_neg (fun z => h2 z.2)], fun z => h2 z.2⟩
  · exact Or.inr ⟨fun M => by rw [r_in, if_neg (fun z => h0 z.1)], fun z => h0 z.1⟩
theorem roomR {d : ID} {M : Mem} (h : RI d M) (x : Int32) : P_12_isRoom_0 M x ∧ F_12_isRoom_0 M x = F_12_in_0 M x 0 (nI (uN (dU d)) - 1) := by
  have e : rd M 4 0 = nI (uN (dU d)) := h.1.1.2.1
  have hN := h.1.1.1.1
  rw [P_12_isRoom_0, F_12_isRoom_0, cl0, e]
  exact ⟨in_ok (by omega), rfl⟩
theorem doorR {d : ID} {M : Mem} (h : RI d M) (x : Int32) : P_12_isDoor_0 M x ∧ F_12_isDoor_0 M x = F_12_in_0 M x 0 (nI (uM (dU d)) - 1) := by
  have e : rd M 4 1 = nI (uM (dU d)) := h.1.1.2.2.1
  have hN := h.1.1.1.2.1
  rw [P_12_isDoor_0, F_12_isDoor_0, cl1, e]
  exact ⟨in_ok (by omega), rfl⟩
