/-! MATHEMATICS 65: the class reads a step -/
theorem bnd_bnd {α β γ : Type} {o : TRs α} {f : α → TRs β} {g : β → TRs γ} : bnd (bnd o f) g = bnd o (fun a => bnd (f a) g) := by
  cases o <;> rfl
def wS0 {α : Type} (tb : Nat → Nat) (n : Nat) (u : MU) (rec : Nat → TRs (α × Nat)) (o q : Nat) : TRs (StpW α × Nat) := match stK tb n q with
  | none => .inl (1, q)
  | some k =>
    if k = 0 then bnd (tkN tb n (weT tb n q) 0 (uT u)) (fun a => bnd (tkN tb n a.2 0 (uM u)) (fun b => .inr (.inl (0, a.1, b.1), b.2)))
    else if k = 3 then .inr (.inl (3, 0, 0), weT tb n q)
    else if k = 4 then (if o = 6 then .inl (3, q) else bnd (tkN tb n (weT tb n q) 0 31) (fun a => bnd (tkS 91 tb n a.2) (fun p => bnd (rec p) (fun b => .inr (.inr (a.1, b.1), b.2)))))
    else bnd (tkN tb n (weT tb n q) 0 (uM u)) (fun b => .inr (.inl (k, 0, b.1), b.2))
theorem ws1_0 {α : Type} {tb : Nat → Nat} {n o q : Nat} {u : MU} {rec : Nat → TRs (α × Nat)} : wS1 tb n u rec o q = bnd (wS0 tb n u rec o q) (fun x => bnd (tkS 59 tb n x.2) (fun p => .inr (x.1, p))) := by
  unfold wS1 wS0
  cases stK tb n q with
  | none => rfl
  | some k =>
    show (if k = 0 then _ else _) = bnd (if k = 0 then _ else _) _
    by_cases k0 : k = 0
    · rw [if_pos k0, if_pos k0]; simp only [bnd_bnd]; rfl
    rw [if_neg k0, if_neg k0]
    by_cases k3 : k = 3
    · rw [if_pos k3, if_pos k3]; rfl
    rw [if_neg k3, if_neg k3]
    by_cases k4 : k = 4
    · rw [if_pos k4, if_pos k4]
      by_cases o6 : o = 6
      · rw [if_pos o6, if_pos o6]; rfl
      · rw [if_neg o6, if_neg o6]; simp only [bnd_bnd]; rfl
    · rw [if_neg k4, if_neg k4]; simp only [bnd_bnd]; rfl
def cSs (i c j : Nat) : Prop := (c = 1560 ∧ 2 ≤ j ∧ j ≤ 7) ∨ (c = 1587 ∧ j = 4) ∨ ((c = 1588 ∨ c = 1589 ∨ c = 1590) ∧ i ≤ j)
def cPt (i c j : Nat) : Prop := (c = 1587 ∧ j = 4) ∨ ((c = 1588 ∨ c = 1589 ∨ c = 1590) ∧ j = i)
theorem Kp.cS {i : Nat} {M M' : Mem} (h : Kp cT M M') : Kp (cSs i) M M' := h.mono (fun c j z => by unfold cT at z; unfold cSs; omega)
theorem Kp.pS {i i' : Nat} {M M' : Mem} (h : Kp (cPt i') M M') (hi : i ≤ i') : Kp (cSs i) M M' := h.mono (fun c j z => by unfold cPt at z; unfold cSs; omega)
theorem Kp.cSS {i i' : Nat} {M M' : Mem} (h : Kp (cSs i') M M') (hi : i ≤ i') : Kp (cSs i) M M' := h.mono (fun c j z => by unfold cSs at z; unfold cSs; omega)
theorem CP.cS {i : Nat} {u : MU} {M M' : Mem} (h : CP 1561 u M) (hk : Kp (cSs i) M M') : CP 1561 u M' := h.k hk (fun c j z => by unfold cSs at z; omega)
theorem CT.q {tb : Nat → Nat} {n p : Nat} {f : Nat → Nat → Prop} {M M' : Mem} (h : CT tb n p M) (hk : Kp f M M') (hf : ∀ c j, f c j → c ≠ 1559 ∧ c ≠ 1560) : CT tb n p M' := ⟨h.1.k hk (fun c j z => ⟨(hf c j z).1, fun w => (hf c j z).2 w.1⟩), by rw [hk.g (fun z => (hf _ _ z).2 rfl)]; exact h.2.1, h.2.2⟩
theorem c_put10 {tb : Nat → Nat} {n p i : Nat} {a b c : Int32} {M : Mem} (h : CT tb n p M) (hl : rd M 1587 4 = nI i) (hi : i < 150) : P_10_put_0 a b c M ∧ ∃ M', F_10_put_0 a b c M = M' ∧ CT tb n p M' ∧ rd M' 1587 4 = nI (i + 1) ∧ rd M' 1588 i = a ∧ rd M' 1589 i = b ∧ rd M' 1590 i = c ∧ Kp (cPt i) M M' := by
  have e : ¬ (150 : Int32) ≤ nI i := by
    show ¬ nI 150 ≤ nI i
    rw [nI_leI (by omega) (by omega)]
    omega
  have v := (vp_iff (i := i) (n := 150) (by omega)).mpr hi
  have e1 : ∀ (M : Mem) (v : Int32), rd (wr M 1588 i v) 1587 4 = rd M 1587 4 := fun M v => rd_c (by decide)
  have e2 : ∀ (M : Mem) (v : Int32), rd (wr M 1589 i v) 1587 4 = rd M 1587 4 := fun M v => rd_c (by decide)
  have e3 : ∀ (M : Mem) (v : Int32), rd (wr M 1590 i v) 1587 4 = rd M 1587 4 := fun M v => rd_c (by decide)
  have hK : Kp (cPt i) M (wr (wr (wr (wr M 1588 i a) 1589 i b) 1590 i c) 1587 4 (nI (i + 1))) := (((Kp.rf.w (Or.inr ⟨Or.inl rfl, rfl⟩)).w (Or.inr ⟨Or.inr (Or.inl rfl), rfl⟩)).w (Or.inr ⟨Or.inr (Or.inr rfl), rfl⟩)).w (Or.inl ⟨rfl, rfl⟩)
  rw [P_10_put_0, F_10_put_0]
  simp only [hl, nI_clamp (n := i) (by omega), e1, e2, e3, nI_1, if_neg e]
  refine ⟨⟨fun z => absurd z e, fun _ => ⟨v, v, v⟩⟩, _, rfl, h.q hK (fun c j z => by unfold cPt at z; omega), rd_s _ _ _ _, ?_, ?_, ?_, hK⟩
  · rw [rd_c (by decide), rd_c (by decide), rd_c (by decide), rd_s]
  · rw [rd_c (by decide), rd_c (by decide), rd_s]
  · rw [rd_c (by decide), rd_s]
def CS1 (tb : Nat → Nat) (n k i : Nat) (r : TRs (StpW (PT k) × Nat)) (z : Int32 × Mem) : Prop := match r with
  | .inl e => z.1 = 0 ∧ CErr e z.2
  | .inr x => z.1 = 1 ∧ CT tb n x.2 z.2 ∧ rd z.2 1587 4 = nI (i + szL 2 (szP 2 k) [x.1]) ∧ CAL (szP 2 k) (CAP k) [x.1] i z.2
def CSl (tb : Nat → Nat) (n k i : Nat) (r : TRs (PT k × Nat)) (z : Int32 × Mem) : Prop := match r with
  | .inl e => z.1 = 0 ∧ CErr e z.2
  | .inr y => z.1 = 1 ∧ CT tb n y.2 z.2 ∧ rd z.2 1587 4 = nI (i + szP 2 k y.1) ∧ CAP k y.1 i z.2
theorem CS1.b {tb : Nat → Nat} {n k i : Nat} {r : TRs (StpW (PT k) × Nat)} {z : Int32 × Mem} (h : CS1 tb n k i r z) : narrow .boolean (.int z.1) = .int z.1 := by
  cases r with
  | inl e => exact nar_b (Or.inl h.1)
  | inr x => exact nar_b (Or.inr h.1)
def CSb (tb : Nat → Nat) (n : Nat) (u : MU) (F : Mem → Int32 × Mem) (P : Mem → Prop) (k o : Nat) : Prop := ∀ (i p : Nat) (M : Mem), CT tb n p M → CP 1561 u M → rd M 1587 4 = nI i → i ≤ p → P M ∧ CSl tb n k i (wSt tb n u k o p) (F M) ∧ Kp (cSs i) M (F M).2
theorem c_readGo {tb : Nat → Nat} {n p i k : Nat} {u : MU} {M : Mem} (h : CT tb n p M) (hu : CP 1561 u M) (hl : rd M 1587 4 = nI i) (hi : i < 150) : P_10_readGo_0 M ∧ CS1 tb n k i (bnd (tkN tb n p 0 (uT u)) (fun a => bnd (tkN tb n a.2 0 (uM u)) (fun b => .inr (.inl (0, a.1, b.1), b.2)))) (F_10_readGo_0 M) ∧ Kp (cSs i) M (F_10_readGo_0 M).2 := by
  have hT : uT u ≤ 24 := by have := hu.1.2.2.1; omega
  obtain ⟨a1, a2, a3, a4⟩ := c_needsNumber (xh := rd M 1561 2 - 1) (hi := uT u) h (fun v hv => by rw [hu.2.2.2.1]; exact hin_m' hT hv)
  rw [P_10_readGo_0, F_10_readGo_0]
  generalize F_5_needsNumber_0 (rd M 1561 2 - 1) M = z at *
  obtain ⟨x, M1⟩ := z
  have a2' : Kp cT M M1 := a2
  cases o : tkN tb n p 0 (uT u) with
  | inl e =>
    rw [o] at a3
    have a3' : x = 0 ∧ CErr e M1 := a3
    rw [P_10_readGo_10, F_10_readGo_10, if_pos a3'.1]
    exact ⟨⟨a1, fun z => absurd a3'.1 z, fun _ => trivial⟩, ⟨rfl, a3'.2⟩, a2'.cS⟩
  | inr q =>
    obtain ⟨r, q⟩ := q
    rw [o] at a3
    have a3' : x = 1 ∧ CT tb n q M1 := a3
    have a5 : rd M1 1560 5 = nI r := (a4 r q o).1
    have U1 : CP 1561 u M1 := hu.cS (i := i) a2'.cS
    have l1 : rd M1 1587 4 = nI i := by rw [a2'.g (by unfold cT; omega)]; exact hl
    obtain ⟨b1, b2, b3, b4⟩ := c_needsNumber (xh := rd M1 1561 1 - 1) (hi := uM u) a3'.2 (fun v hv => by rw [U1.2.2.1]; exact hin_m' hu.1.2.1 hv)
    rw [P_10_readGo_10, F_10_readGo_10, if_neg (x1 a3'.1)]
    try dsimp only
    rw [a5]
    generalize F_5_needsNumber_0 (rd M1 1561 1 - 1) M1 = z at *
    obtain ⟨y, M2⟩ := z
    have b2' : Kp cT M1 M2 := b2
    suffices hs : P_10_readGo_30 (nI r) y M2 ∧ CS1 tb n k i (bnd (tkN tb n q 0 (uM u)) (fun b => .inr (.inl (0, r, b.1), b.2))) (F_10_readGo_30 (nI r) y M2) ∧ Kp (cSs i) M2 (F_10_readGo_30 (nI r) y M2).2 from ⟨⟨a1, fun _ => ⟨b1, hs.1⟩, fun z => absurd z (x1 a3'.1)⟩, hs.2.1, (a2'.cS.tr b2'.cS).tr hs.2.2⟩
    cases o2 : tkN tb n q 0 (uM u) with
    | inl e =>
      rw [o2] at b3
      have b3' : y = 0 ∧ CErr e M2 := b3
      rw [P_10_readGo_30, F_10_readGo_30, if_pos b3'.1]
      exact ⟨⟨fun z => absurd b3'.1 z, fun _ => trivial⟩, ⟨rfl, b3'.2⟩, Kp.rf⟩
    | inr w =>
      obtain ⟨v, w⟩ := w
      rw [o2] at b3
      have b3' : y = 1 ∧ CT tb n w M2 := b3
      have b5 : rd M2 1560 5 = nI v := (b4 v w o2).1
      have l2 : rd M2 1587 4 = nI i := by rw [b2'.g (by unfold cT; omega)]; exact l1
      obtain ⟨c1, M3, c2, c3, c4, c5, c6, c7, c8⟩ := c_put10 (a := 1) (b := nI r) (c := nI v) b3'.2 l2 hi
      rw [P_10_readGo_30, F_10_readGo_30, if_neg (x1 b3'.1), b5, c2, F_10_readGo_45]
      exact ⟨⟨fun _ => c1, fun z => absurd z (x1 b3'.1)⟩, ⟨rfl, c3, c4, c5, fun _ => ⟨c6, c7⟩, fun z => absurd (show (0 : Nat) = 1 ∨ (0 : Nat) = 2 from z) (by decide), trivial⟩, c8.pS (Nat.le_refl _)⟩
theorem c_readDS {tb : Nat → Nat} {n p i k kk : Nat} {u : MU} {M : Mem} (h : CT tb n p M) (hu : CP 1561 u M) (hl : rd M 1587 4 = nI i) (hi : i < 150) (hk : kk = 1 ∨ kk = 2) : P_10_readDoorStep_0 (nI (kk + 1)) M ∧ CS1 tb n k i (bnd (tkN tb n p 0 (uM u)) (fun b => .inr (.inl (kk, 0, b.1), b.2))) (F_10_readDoorStep_0 (nI (kk + 1)) M) ∧ Kp (cSs i) M (F_10_readDoorStep_0 (nI (kk + 1)) M).2 := by
  obtain ⟨b1, b2, b3, b4⟩ := c_needsNumber (xh := rd M 1561 1 - 1) (hi := uM u) h (fun v hv => by rw [hu.2.2.1]; exact hin_m' hu.1.2.1 hv)
  rw [P_10_readDoorStep_0, F_10_readDoorStep_0]
  generalize F_5_needsNumber_0 (rd M 1561 1 - 1) M = z at *
  obtain ⟨y, M2⟩ := z
  have b2' : Kp cT M M2 := b2
  suffices hs : P_10_readDoorStep_10 (nI (kk + 1)) y M2 ∧ CS1 tb n k i (bnd (tkN tb n p 0 (uM u)) (fun b => .inr (.inl (kk, 0, b.1), b.2))) (F_10_readDoorStep_10 (nI (kk + 1)) y M2) ∧ Kp (cSs i) M2 (F_10_readDoorStep_10 (nI (kk + 1)) y M2).2 from ⟨⟨b1, hs.1⟩, hs.2.1, b2'.cS.tr hs.2.2⟩
  cases o2 : tkN tb n p 0 (uM u) with
  | inl e =>
    rw [o2] at b3
    have b3' : y = 0 ∧ CErr e M2 := b3
    rw [P_10_readDoorStep_10, F_10_readDoorStep_10, if_pos b3'.1]
    exact ⟨⟨fun z => absurd b3'.1 z, fun _ => trivial⟩, ⟨rfl, b3'.2⟩, Kp.rf⟩
  | inr w =>
    obtain ⟨v, w⟩ := w
    rw [o2] at b3
    have b3' : y = 1 ∧ CT tb n w M2 := b3
    have b5 : rd M2 1560 5 = nI v := (b4 v w o2).1
    have l2 : rd M2 1587 4 = nI i := by rw [b2'.g (by unfold cT; omega)]; exact hl
    obtain ⟨c1, M3, c2, c3, c4, c5, c6, c7, c8⟩ := c_put10 (a := nI (kk + 1)) (b := nI v) (c := 0) b3'.2 l2 hi
    rw [P_10_readDoorStep_10, F_10_readDoorStep_10, if_neg (x1 b3'.1), b5, c2, F_10_readDoorStep_25]
    exact ⟨⟨fun _ => c1, fun z => absurd z (x1 b3'.1)⟩, ⟨rfl, c3, c4, c5, fun z => absurd (show kk = 0 from z) (by omega), fun _ => c6, trivial⟩, c8.pS (Nat.le_refl _)⟩
theorem c_readAg {tb : Nat → Nat} {n p i k o : Nat} {u : MU} {rF : Int32 → Mem → Int32 × Mem} {rP : Int32 → Mem → Prop} {M : Mem} (hn : n ≤ 150) (h : CT tb n p M) (hu : CP 1561 u M) (hl : rd M 1587 4 = nI i) (hi : i + 2 ≤ p) (hko : o + k = 6) (hr : CSb tb n u (rF (nI (o + 1))) (rP (nI (o + 1))) k (o + 1)) : P_10_readAgain_0 rF rP (nI o) M ∧ CS1 tb n k i (bnd (tkN tb n p 0 31) (fun a => bnd (tkS 91 tb n a.2) (fun p => bnd (wSt tb n u k (o + 1) p) (fun b => .inr (.inr (a.1, b.1), b.2))))) (F_10_readAgain_0 rF (nI o) M) ∧ Kp (cSs i) M (F_10_readAgain_0 rF (nI o) M).2 := by
  have hpn := h.2.2
  obtain ⟨b1, b2, b3, b4⟩ := c_needsNumber (xh := 30) (hi := 31) h (fun v hv => nn_c (hi := 30) (by omega) hv)
  rw [P_10_readAgain_0, F_10_readAgain_0]
  generalize F_5_needsNumber_0 30 M = z at *
  obtain ⟨y, M2⟩ := z
  have b2' : Kp cT M M2 := b2
  suffices hs : P_10_readAgain_6 rF rP (nI o) y M2 ∧ CS1 tb n k i (bnd (tkN tb n p 0 31) (fun a => bnd (tkS 91 tb n a.2) (fun p => bnd (wSt tb n u k (o + 1) p) (fun b => .inr (.inr (a.1, b.1), b.2))))) (F_10_readAgain_6 rF (nI o) y M2) ∧ Kp (cSs i) M2 (F_10_readAgain_6 rF (nI o) y M2).2 from ⟨⟨b1, hs.1⟩, hs.2.1, b2'.cS.tr hs.2.2⟩
  cases o2 : tkN tb n p 0 31 with
  | inl e =>
    rw [o2] at b3
    have b3' : y = 0 ∧ CErr e M2 := b3
    rw [P_10_readAgain_6, F_10_readAgain_6, if_pos b3'.1]
    exact ⟨⟨fun _ => trivial, fun z => absurd b3'.1 z⟩, ⟨rfl, b3'.2⟩, Kp.rf⟩
  | inr w =>
    obtain ⟨a, pa⟩ := w
    rw [o2] at b3
    have b3' : y = 1 ∧ CT tb n pa M2 := b3
    have b5 : rd M2 1560 5 = nI a := (b4 a pa o2).1
    have q1 := tkN_b2 hpn o2
    have l2 : rd M2 1587 4 = nI i := by rw [b2'.g (by unfold cT; omega)]; exact hl
    have U2 : CP 1561 u M2 := hu.cS (i := i) b2'.cS
    have e150 : nI i < 150 := (nI_ltI (b := 150) (by omega) (by omega)).mpr (by omega)
    obtain ⟨c1, M3, c2, c3, c4, c5, c6, c7, c8⟩ := c_put10 (a := 5) (b := nI a) (c := 0) b3'.2 l2 (by omega)
    have U3 : CP 1561 u M3 := U2.cS (c8.pS (Nat.le_refl i))
    show _ ∧ CS1 tb n k i (bnd (tkS 91 tb n pa) (fun p => bnd (wSt tb n u k (o + 1) p) (fun b => .inr (.inr (a, b.1), b.2)))) _ ∧ _
    rw [P_10_readAgain_6, F_10_readAgain_6, if_neg (x1 b3'.1), l2, if_pos e150, b5, c2]
    obtain ⟨d1, d2, d3⟩ := c_needs (c := 91) c3 (by omega)
    have d1' : P_5_needs_0 91 M3 := d1
    have d2' : CA tb n (tkS 91 tb n pa) (F_5_needs_0 91 M3) := d2
    have d3' : Kp cT M3 (F_5_needs_0 91 M3).2 := d3
    rw [P_10_readAgain_37, F_10_readAgain_37]
    generalize F_5_needs_0 91 M3 = z at *
    obtain ⟨x, M4⟩ := z
    suffices hs : P_10_readAgain_43 rF rP (nI o) (nI i) x M4 ∧ CS1 tb n k i (bnd (tkS 91 tb n pa) (fun p => bnd (wSt tb n u k (o + 1) p) (fun b => .inr (.inr (a, b.1), b.2)))) (F_10_readAgain_43 rF (nI o) (nI i) x M4) ∧ Kp (cSs i) M4 (F_10_readAgain_43 rF (nI o) (nI i) x M4).2 from ⟨⟨fun z => absurd z (x1 b3'.1), fun _ => ⟨fun _ => ⟨c1, d1', hs.1⟩, fun z => absurd e150 z⟩⟩, hs.2.1, ((c8.pS (Nat.le_refl i)).tr (Kp.cS d3')).tr hs.2.2⟩
    have d3'' : Kp cT M3 M4 := d3'
    cases o3 : tkS 91 tb n pa with
    | inl e =>
      rw [o3] at d2'
      have d4 : x = 0 ∧ CErr e M4 := d2'
      rw [P_10_readAgain_43, F_10_readAgain_43, if_pos d4.1]
      exact ⟨⟨fun _ => trivial, fun z => absurd d4.1 z⟩, ⟨rfl, d4.2⟩, Kp.rf⟩
    | inr p1 =>
      rw [o3] at d2'
      have d4 : x = 1 ∧ CT tb n p1 M4 := d2'
      have q2 := tkS_b (tkN_b o2).2.2.1 o3
      have l4 : rd M4 1587 4 = nI (i + 1) := by rw [d3''.g (by unfold cT; omega)]; exact c4
      have U4 : CP 1561 u M4 := U3.cS (i := i) d3''.cS
      obtain ⟨f1, f2, f3⟩ := hr (i + 1) p1 M4 d4.2 U4 l4 (by omega)
      have gb := wst_b (u := u) (tb := tb) (n := n) k (o + 1) p1 (by omega) q2.2
      show _ ∧ CS1 tb n k i (bnd (wSt tb n u k (o + 1) p1) (fun b => .inr (.inr (a, b.1), b.2))) _ ∧ _
      rw [P_10_readAgain_43, F_10_readAgain_43, if_neg (x1 d4.1), nI_1]
      generalize rF (nI (o + 1)) M4 = z at *
      obtain ⟨y2, M5⟩ := z
      have f3' : Kp (cSs (i + 1)) M4 M5 := f3
      suffices hs : P_10_readAgain_55 rF rP (nI i) y2 M5 ∧ CS1 tb n k i (bnd (wSt tb n u k (o + 1) p1) (fun b => .inr (.inr (a, b.1), b.2))) (F_10_readAgain_55 rF (nI i) y2 M5) ∧ Kp (cSs i) M5 (F_10_readAgain_55 rF (nI i) y2 M5).2 from ⟨⟨fun z => absurd z (x1 d4.1), fun _ => ⟨f1, hs.1⟩⟩, hs.2.1, (f3'.cSS (by omega)).tr hs.2.2⟩
      cases o4 : wSt tb n u k (o + 1) p1 with
      | inl e =>
        rw [o4] at f2
        have f4 : y2 = 0 ∧ CErr e M5 := f2
        rw [P_10_readAgain_55, F_10_readAgain_55, if_pos f4.1]
        exact ⟨⟨fun z => absurd f4.1 z, fun _ => trivial⟩, ⟨rfl, f4.2⟩, Kp.rf⟩
      | inr b =>
        obtain ⟨b, pb⟩ := b
        rw [o4] at f2 gb
        obtain ⟨f4, f5, f6, f7⟩ : y2 = 1 ∧ CT tb n pb M5 ∧ rd M5 1587 4 = nI (i + 1 + szP 2 k b) ∧ CAP k b (i + 1) M5 := f2
        obtain ⟨g1, g2, g3⟩ : 2 * szP 1 k b + p1 ≤ pb ∧ pb ≤ n ∧ PWP u k b := gb
        have g4 := szP2 k b
        obtain ⟨h1, M6, h2, h3, h4, h5, h6, h7, h8⟩ := c_put10 (a := 6) (b := nI i) (c := 0) f5 f6 (by omega)
        have v := (vp_iff (i := i) (n := 150) (by omega)).mpr (by omega)
        have hK : Kp (fun c j => c = 1590 ∧ j = i) M6 (wr M6 1590 i (nI (i + 1 + szP 2 k b + 1))) := Kp.rf.w ⟨rfl, rfl⟩
        rw [P_10_readAgain_55, F_10_readAgain_55, if_neg (x1 f4), h2, P_10_readAgain_69, F_10_readAgain_69, h4, nI_clamp (n := i) (by omega)]
        have kA : ∀ c, c = 1588 ∨ c = 1589 → rd (wr M6 1590 i (nI (i + 1 + szP 2 k b + 1))) c i = rd M3 c i := fun c hc => by
          rw [rd_c (by omega), h8.g (by unfold cPt; omega), f3'.g (by unfold cSs; omega), d3''.g (by unfold cT; omega)]
        refine ⟨⟨fun _ => ⟨h1, v⟩, fun z => absurd z (x1 f4)⟩, ⟨rfl, h3.q hK (fun c j z => by omega), ?_, ?_, ?_, ?_, ?_, ?_, ?_, trivial⟩, (h8.pS (by omega)).tr (hK.mono (fun c j z => by unfold cSs; omega))⟩
        · show rd (wr M6 1590 i _) 1587 4 = nI (i + (2 + szP 2 k b + 0))
          rw [rd_c (by decide), h4]
          exact congrArg nI (by omega)
        · rw [kA 1588 (Or.inl rfl)]; exact c5
        · rw [kA 1589 (Or.inr rfl)]; exact c6
        · show rd (wr M6 1590 i _) 1590 i = nI (i + 2 + szP 2 k b)
          rw [rd_s]
          exact congrArg nI (by omega)
        · refine CAP.g k b (i + 1) f7 (fun x w1 w2 => ⟨?_, ?_, ?_⟩)
          · rw [rd_c (by decide), h8.g (by unfold cPt; omega)]
          · rw [rd_c (by decide), h8.g (by unfold cPt; omega)]
          · rw [rd_i (by omega), h8.g (by unfold cPt; omega)]
        · show rd (wr M6 1590 i _) 1588 (i + 1 + szP 2 k b) = 6
          rw [rd_c (by decide)]; exact h5
        · show rd (wr M6 1590 i _) 1589 (i + 1 + szP 2 k b) = nI i
          rw [rd_c (by decide)]; exact h6
