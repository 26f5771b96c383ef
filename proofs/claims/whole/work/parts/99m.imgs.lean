/-! MATHEMATICS 82: images, both sides (printed by gen/q8.py) -/
theorem p_mid {r : Nat} {x2 : Int32} {I : Nat → Mem → Prop} {w : Nat} (hr : r < 3) (hw : w < 16) (h2 : ∀ k, k < 56 → ∀ M, I (57 + 56 * w + k) M → P_12_puts_0 r (rd M (478 + w) k) x2 M ∧ I (57 + 56 * w + k + 1) (wr (F_12_puts_0 r (rd M (478 + w) k) x2 M).2 (478 + w) k (F_12_puts_0 r (rd M (478 + w) k) x2 M).1)) {k53 : Nat → Int32 → Int32 → Mem → Mem} {p53 : Nat → Int32 → Int32 → Mem → Prop} {Q : Mem → Prop} (hn : ∀ M, I (57 + 56 * (w + 1)) M → p53 r x2 (nI w + 1) M ∧ Q (k53 r x2 (nI w + 1) M)) {M : Mem} (hI : I (57 + 56 * w) M) : P_12_putsAll_62 p53 FU r x2 (nI w) 0 M ∧ Q (F_12_putsAll_62 k53 FU r x2 (nI w) 0 M) := by
  have vw : vp_in (nI w) 16 := (vp_iff (by omega)).mpr hw
  refine lq (S := Mem) (F := fun n i q => F_12_putsAll_62 k53 n r x2 (nI w) i q) (P := fun n i q => P_12_putsAll_62 p53 n r x2 (nI w) i q) (Q := Q) (56) (fun i q => I (57 + 56 * w + i) q) ?_ ?_ FU 0 M hI (Nat.zero_le _) (FU_ge (by omega))
  · intro n i q hi hI ih
    try dsimp only at hI ih ⊢
    have q1 : ¬ (56 : Int32) ≤ nI i := nI_ge (b := 56) hi (by omega)
    have vi : vp_in (nI i) 56 := (vp_iff (by omega)).mpr hi
    obtain ⟨a1, a2⟩ := h2 i hi q hI
    have := ih _ a2
    rw [P_12_putsAll_62, F_12_putsAll_62, if_neg q1, nI_clamp (n := w) (by omega), nI_clamp (n := i) (by omega), P_12_putsAll_92, F_12_putsAll_92, nI_clamp (n := i) (by omega)]
    exact ⟨⟨hr, fun y => absurd y q1, fun _ => ⟨vw, vi, a1, hr, hw, vi, this.1⟩⟩, this.2⟩
  · intro n q hI
    try dsimp only at hI ⊢
    have q1 : (56 : Int32) ≤ nI 56 := by decide
    have := hn q (by rw [show 57 + 56 * (w + 1) = 57 + 56 * w + 56 by omega]; exact hI)
    rw [P_12_putsAll_62, F_12_putsAll_62, if_pos q1]
    exact ⟨⟨hr, fun _ => this.1, fun y => absurd q1 y⟩, this.2⟩
theorem p_all {r : Nat} {x2 : Int32} {I : Nat → Mem → Prop} (hr : r < 3) (h1 : ∀ k, k < 56 → ∀ M, I (1 + k) M → P_12_puts_0 r (rd M 20 k) x2 M ∧ I (1 + k + 1) (wr (F_12_puts_0 r (rd M 20 k) x2 M).2 20 k (F_12_puts_0 r (rd M 20 k) x2 M).1)) (h2 : ∀ w, w < 16 → ∀ k, k < 56 → ∀ M, I (57 + 56 * w + k) M → P_12_puts_0 r (rd M (478 + w) k) x2 M ∧ I (57 + 56 * w + k + 1) (wr (F_12_puts_0 r (rd M (478 + w) k) x2 M).2 (478 + w) k (F_12_puts_0 r (rd M (478 + w) k) x2 M).1)) {M : Mem} (hI : I 1 M) : P_12_putsAll_21 FU r x2 0 M ∧ ∃ M', F_12_putsAll_21 FU r x2 0 M = M' ∧ I 953 M' := by
  have out : ∀ M, I 57 M → P_12_putsAll_53 FU r x2 0 M ∧ ∃ M', F_12_putsAll_53 FU r x2 0 M = M' ∧ I 953 M' := by
    intro M hM
    refine lq (S := Mem) (F := fun n i q => F_12_putsAll_53 n r x2 i q) (P := fun n i q => P_12_putsAll_53 n r x2 i q) (Q := fun z => ∃ M', z = M' ∧ I 953 M') (16) (fun i q => I (57 + 56 * i) q) ?_ ?_ FU 0 M hM (Nat.zero_le _) (FU_ge (by omega))
    · intro n i q hi hI ih
      try dsimp only at hI ih ⊢
      have q1 : ¬ (16 : Int32) ≤ nI i := nI_ge (b := 16) hi (by omega)
      have := p_mid (k53 := F_12_putsAll_53 n) (p53 := P_12_putsAll_53 n) (Q := fun z => ∃ M', z = M' ∧ I 953 M') hr hi (h2 i hi) (fun M h => ih M h) hI
      rw [P_12_putsAll_53, F_12_putsAll_53, if_neg q1]
      exact ⟨⟨hr, fun y => absurd y q1, fun _ => this.1⟩, this.2⟩
    · intro n q hI
      try dsimp only at hI ⊢
      have q1 : (16 : Int32) ≤ nI 16 := by decide
      rw [P_12_putsAll_53, F_12_putsAll_53, if_pos q1]
      exact ⟨⟨hr, fun _ => trivial, fun y => absurd q1 y⟩, q, rfl, hI⟩
  refine lq (S := Mem) (F := fun n i q => F_12_putsAll_21 n r x2 i q) (P := fun n i q => P_12_putsAll_21 n r x2 i q) (Q := fun z => ∃ M', z = M' ∧ I 953 M') (56) (fun i q => I (1 + i) q) ?_ ?_ FU 0 M hI (Nat.zero_le _) (FU_ge (by omega))
  · intro n i q hi hI ih
    try dsimp only at hI ih ⊢
    have q1 : ¬ (56 : Int32) ≤ nI i := nI_ge (b := 56) hi (by omega)
    have vi : vp_in (nI i) 56 := (vp_iff (by omega)).mpr hi
    obtain ⟨a1, a2⟩ := h1 i hi q hI
    have := ih _ a2
    rw [P_12_putsAll_21, F_12_putsAll_21, if_neg q1, nI_clamp (n := i) (by omega), P_12_putsAll_44, F_12_putsAll_44, nI_clamp (n := i) (by omega)]
    exact ⟨⟨hr, fun y => absurd y q1, fun _ => ⟨vi, a1, hr, vi, this.1⟩⟩, this.2⟩
  · intro n q hI
    try dsimp only at hI ⊢
    have q1 : (56 : Int32) ≤ nI 56 := by decide
    have := out q hI
    rw [P_12_putsAll_21, F_12_putsAll_21, if_pos q1]
    exact ⟨⟨hr, fun _ => this.1, fun y => absurd q1 y⟩, this.2⟩
theorem m11 {p : Nat} : nI p + 1 - 1 = nI p := by rw [nI_1, show (1 : Int32) = nI 1 from rfl, pk_sub (by omega), Nat.add_sub_cancel]
theorem p_out {r p : Nat} {x : Int32} {M : Mem} (hr : r < 3) (h : rd M 0 39 = nI p) (hp : p < 953) : P_12_puts_0 r x 0 M ∧ F_12_puts_0 r x 0 M = (x, wr (wr M (494 + r) p x) 0 39 (nI (p + 1))) := by
  have v : vp_in (nI p) 953 := (vp_iff (by omega)).mpr hp
  have e : rd (wr M (494 + r) p x) 0 39 = nI p := by rw [rd_c (by omega)]; exact h
  rw [P_12_puts_0, F_12_puts_0, if_pos rfl, h, nI_clamp (n := p) (by omega), e, m11, nI_clamp (n := p) (by omega), nI_1, rd_c (by omega), rd_s]
  exact ⟨⟨hr, fun y => absurd rfl y, fun _ => ⟨v, v⟩⟩, rfl⟩
theorem p_in {r p : Nat} {x : Int32} {M : Mem} (hr : r < 3) (h : rd M 0 39 = nI p) (hp : p < 953) : P_12_puts_0 r x 1 M ∧ F_12_puts_0 r x 1 M = (rd M (494 + r) p, wr M 0 39 (nI (p + 1))) := by
  have v : vp_in (nI p) 953 := (vp_iff (by omega)).mpr hp
  rw [P_12_puts_0, F_12_puts_0, if_neg one_ne, h, m11, nI_clamp (n := p) (by omega), nI_1]
  exact ⟨⟨hr, fun _ => v, fun y => absurd y one_ne⟩, by rw [rd_c (by omega)]⟩
/-- what lies at a place of an image -/
def tgI (M : Mem) (p : Nat) : Int32 := if p = 0 then rd M 0 36 else if p < 57 then rd M 20 (p - 1) else rd M (478 + (p - 57) / 56) ((p - 57) % 56)
theorem tg0 {M : Mem} : tgI M 0 = rd M 0 36 := if_pos rfl
theorem tg1 {M : Mem} {k : Nat} (hk : k < 56) : tgI M (1 + k) = rd M 20 k := by
  unfold tgI
  rw [if_neg (by omega), if_pos (by omega), Nat.add_sub_cancel_left]
theorem tg2 {M : Mem} {w k : Nat} (hk : k < 56) : tgI M (57 + 56 * w + k) = rd M (478 + w) k := by
  unfold tgI
  rw [if_neg (by omega), if_neg (by omega), show (57 + 56 * w + k - 57) / 56 = w by omega, show (57 + 56 * w + k - 57) % 56 = k by omega]
theorem Kp.same {p : Nat → Nat → Prop} {M M1 : Mem} (h : Kp p M M1) {c i : Nat} {v : Int32} (hv : rd M1 c i = v) : Kp p M (wr M1 c i v) := fun a j hn => by
  refine ⟨?_, (h a j hn).2⟩
  rw [rd_wr]
  split
  · next e => rw [← hv, ← e.1, ← e.2]; exact (h a j hn).1
  · exact (h a j hn).1
def rIm (r c j : Nat) : Prop := c = 494 + r ∨ (c = 0 ∧ j = 39)
def OI (r : Nat) (M0 : Mem) (p : Nat) (M : Mem) : Prop := rd M 0 39 = nI p ∧ (∀ j, j < p → rd M (494 + r) j = tgI M0 j) ∧ Kp (rIm r) M0 M
theorem OI.s {r p c i : Nat} {M0 M : Mem} (hr : r < 3) (hp : p < 953) (h : OI r M0 p M) (hc : ¬ c = 494 + r) (hc2 : ¬ (c = 0 ∧ i = 39)) (ht : tgI M0 p = rd M0 c i) : P_12_puts_0 r (rd M c i) 0 M ∧ OI r M0 (p + 1) (wr (F_12_puts_0 r (rd M c i) 0 M).2 c i (F_12_puts_0 r (rd M c i) 0 M).1) := by
  obtain ⟨h1, h2, h3⟩ := h
  obtain ⟨a1, a2⟩ := p_out (x := rd M c i) hr h1 hp
  have e : rd M c i = rd M0 c i := h3.g (by unfold rIm; omega)
  rw [a2]
  refine ⟨a1, ?_, fun j hj => ?_, Kp.same ((h3.w (Or.inl rfl)).w (Or.inr ⟨rfl, rfl⟩)) ?_⟩
  · rw [rd_wr, if_neg (by omega), rd_s]
  · rw [rd_wr, if_neg (by omega), rd_c (by omega)]
    by_cases c1 : j = p
    · rw [c1, rd_s, ht, e]
    · rw [rd_i c1]; exact h2 j (by omega)
  · rw [rd_wr, if_neg (by omega), rd_c hc]
theorem r_imgOut {r : Nat} {M : Mem} (hr : r < 3) : P_12_putsAll_0 r 0 M ∧ ∃ M', F_12_putsAll_0 r 0 M = M' ∧ (∀ j, j < 953 → rd M' (494 + r) j = tgI M j) ∧ Kp (rIm r) M M' := by
  have K0 : Kp (rIm r) M (wr M 0 39 0) := Kp.rf.w (Or.inr ⟨rfl, rfl⟩)
  have t0 : ∀ j, tgI (wr M 0 39 0) j = tgI M j := fun j => by
    unfold tgI
    rw [rd_i (by decide), rd_c (by decide), rd_c (by omega)]
  have I0 : OI r (wr M 0 39 0) 0 (wr M 0 39 0) := ⟨rd_s _ _ _ _, fun j hj => by omega, Kp.rf⟩
  obtain ⟨a1, a2⟩ := I0.s (c := 0) (i := 36) hr (by omega) (by omega) (by omega) tg0
  obtain ⟨b1, M', b2, b3, b4, b5⟩ := p_all (x2 := 0) (I := OI r (wr M 0 39 0)) hr (fun k hk M h => h.s hr (by omega) (by omega) (by omega) (tg1 hk)) (fun w hw k hk M h => h.s hr (by omega) (by omega) (by omega) (tg2 hk)) a2
  rw [P_12_putsAll_0, F_12_putsAll_0, P_12_putsAll_16, F_12_putsAll_16]
  exact ⟨⟨hr, a1, hr, b1⟩, M', b2, fun j hj => by rw [b4 j hj, t0], K0.tr b5⟩
def rIn (c j : Nat) : Prop := (c = 0 ∧ (j = 36 ∨ j = 39)) ∨ c = 20 ∨ (478 ≤ c ∧ c < 494)
def II (r : Nat) (M0 : Mem) (p : Nat) (M : Mem) : Prop := rd M 0 39 = nI p ∧ (∀ j, j < p → tgI M j = rd M0 (494 + r) j) ∧ Kp rIn M0 M
theorem II.s {r p c i : Nat} {M0 M : Mem} {x : Int32} (hr : r < 3) (hp : p < 953) (h : II r M0 p M) (hc : rIn c i) (hc2 : ¬ (c = 0 ∧ i = 39)) (ht : ∀ M v, tgI (wr M c i v) p = v) (hn : ∀ M v j, j < p → tgI (wr M c i v) j = tgI M j) : P_12_puts_0 r x 1 M ∧ II r M0 (p + 1) (wr (F_12_puts_0 r x 1 M).2 c i (F_12_puts_0 r x 1 M).1) := by
  obtain ⟨h1, h2, h3⟩ := h
  obtain ⟨a1, a2⟩ := p_in (x := x) hr h1 hp
  have e : rd M (494 + r) p = rd M0 (494 + r) p := h3.g (by unfold rIn; omega)
  have t9 : ∀ v j, tgI (wr M 0 39 v) j = tgI M j := fun v j => by
    unfold tgI
    rw [rd_i (by decide), rd_c (by decide), rd_c (by omega)]
  rw [a2]
  refine ⟨a1, ?_, fun j hj => ?_, (h3.w (Or.inl ⟨rfl, by omega⟩)).w hc⟩
  · rw [rd_wr, if_neg (by omega), rd_s]
  · by_cases c1 : j = p
    · rw [c1, ht, e]
    · rw [hn _ _ _ (by omega), t9]; exact h2 j (by omega)
theorem r_imgIn {r : Nat} {M : Mem} (hr : r < 3) : P_12_putsAll_0 r 1 M ∧ ∃ M', F_12_putsAll_0 r 1 M = M' ∧ (∀ j, j < 953 → tgI M' j = rd M (494 + r) j) ∧ Kp rIn M M' := by
  have K0 : Kp rIn M (wr M 0 39 0) := Kp.rf.w (Or.inl ⟨rfl, by omega⟩)
  have t0 : ∀ j, rd (wr M 0 39 0) (494 + r) j = rd M (494 + r) j := fun j => rd_c (by omega)
  have I0 : II r (wr M 0 39 0) 0 (wr M 0 39 0) := ⟨rd_s _ _ _ _, fun j hj => by omega, Kp.rf⟩
  obtain ⟨a1, a2⟩ := I0.s (c := 0) (i := 36) (x := rd (wr M 0 39 0) 0 36) hr (by omega) (Or.inl ⟨rfl, by omega⟩) (by omega) (fun M v => by rw [tg0, rd_s]) (fun M v j hj => by omega)
  have z1 : ∀ k, k < 56 → ∀ (M : Mem) (v : Int32) (j : Nat), j < 1 + k → tgI (wr M 20 k v) j = tgI M j := by
    intro k hk M v j hj
    unfold tgI
    by_cases c0 : j = 0
    · rw [if_pos c0, if_pos c0, rd_c (by decide)]
    · rw [if_neg c0, if_neg c0, if_pos (by omega), if_pos (by omega), rd_i (by omega)]
  have z2 : ∀ w, w < 16 → ∀ k, k < 56 → ∀ (M : Mem) (v : Int32) (j : Nat), j < 57 + 56 * w + k → tgI (wr M (478 + w) k v) j = tgI M j := by
    intro w hw k hk M v j hj
    unfold tgI
    by_cases c0 : j = 0
    · rw [if_pos c0, if_pos c0, rd_c (by omega)]
    · rw [if_neg c0, if_neg c0]
      by_cases c1 : j < 57
      · rw [if_pos c1, if_pos c1, rd_c (by omega)]
      · rw [if_neg c1, if_neg c1, rd_wr, if_neg (by omega)]
  obtain ⟨b1, M', b2, b3, b4, b5⟩ := p_all (x2 := 1) (I := II r (wr M 0 39 0)) hr (fun k hk M h => h.s hr (by omega) (Or.inr (Or.inl rfl)) (by omega) (fun M v => by rw [tg1 hk, rd_s]) (z1 k hk)) (fun w hw k hk M h => h.s hr (by omega) (Or.inr (Or.inr ⟨by omega, by omega⟩)) (by omega) (fun M v => by rw [tg2 hk, rd_s]) (z2 w hw k hk)) a2
  rw [P_12_putsAll_0, F_12_putsAll_0, P_12_putsAll_16, F_12_putsAll_16]
  exact ⟨⟨hr, a1, hr, b1⟩, M', b2, fun j hj => by rw [b4 j hj, t0], K0.tr b5⟩
/-! the class -/
def TcR (D Wd : Nat) (k : Nat) (u : MU) (s : SU) (bs : Nat → SU) (M M' : Mem) : Prop := rd M' Wd 2 = nI k ∧ CR D u s M' ∧ (∀ a, a < k → CR (D + 3 * (a + 1)) u (bs a) M') ∧ Kp (fun c j => (c = Wd ∧ j = 2) ∨ (D ≤ c ∧ c ≤ D + 50)) M M'
theorem tc_a {k : Nat} {u : MU} {s : SU} {bs : Nat → SU} {M : Mem} (hu : UW u) (hk : k ≤ 16) (hw : rd M 1614 2 = nI k) (h0 : CR 1622 u s M) (hb : ∀ a, a < k → CR (1622 + 3 * (a + 1)) u (bs a) M) : P_8_copyFroma_0 M ∧ ∃ M', F_8_copyFroma_0 M = M' ∧ TcR 1673 1615 k u s bs M M' := by
  obtain ⟨a1, a2⟩ := st_copy (a := 1673) (b := 1622) (by omega) h0 hu
  have w1 : rd (stCopy 1673 1622 M) 1614 2 = nI k := by rw [a2.g (by omega)]; exact hw
  have e16 : ¬ (16 : Int32) < nI k := by
    show ¬ nI 16 < nI k
    rw [nI_ltI (by omega) (by omega)]; omega
  have iD : isS 1673 := isS_all 17 (by omega)
  have iS : isS 1622 := isS_all 0 (by omega)
  have iDa : ∀ a, a < 16 → isS (1676 + 3 * a) := fun a ha => by
    have := isS_all (17 + (a + 1)) (by omega)
    rw [show 1622 + 3 * (17 + (a + 1)) = 1676 + 3 * a by omega] at this
    exact this
  have iSa : ∀ a, a < 16 → isS (1625 + 3 * a) := fun a ha => by
    have := isS_all (0 + (a + 1)) (by omega)
    rw [show 1622 + 3 * (0 + (a + 1)) = 1625 + 3 * a by omega] at this
    exact this
  have K1 : Kp (fun c j => (c = 1615 ∧ j = 2) ∨ (1673 ≤ c ∧ c ≤ 1723)) M (wr (stCopy 1673 1622 M) 1615 2 (nI k)) := (a2.mono (fun c j z => by omega)).w (Or.inl ⟨rfl, rfl⟩)
  have Kw : Kp (fun c j => c = 1615 ∧ j = 2) (stCopy 1673 1622 M) (wr (stCopy 1673 1622 M) 1615 2 (nI k)) := Kp.rf.w ⟨rfl, rfl⟩
  rw [P_8_copyFroma_0, F_8_copyFroma_0, P_8_copyFroma_11, F_8_copyFroma_11, w1, if_neg e16]
  suffices h : P_8_copyFroma_26 FU 0 (wr (stCopy 1673 1622 M) 1615 2 (nI k)) ∧ ∃ M', F_8_copyFroma_26 FU 0 (wr (stCopy 1673 1622 M) 1615 2 (nI k)) = M' ∧ TcR 1673 1615 k u s bs M M' from ⟨⟨⟨iD, iS⟩, h.1⟩, h.2⟩
  refine lq (S := Mem) (F := fun n i q => F_8_copyFroma_26 n i q) (P := fun n i q => P_8_copyFroma_26 n i q) (Q := fun z => ∃ M', z = M' ∧ TcR 1673 1615 k u s bs M M') (k) (fun i q => rd q 1615 2 = nI k ∧ CR 1673 u s q ∧ (∀ a, a < i → CR (1673 + 3 * (a + 1)) u (bs a) q) ∧ Kp (fun c j => (c = 1615 ∧ j = 2) ∨ (1673 ≤ c ∧ c ≤ 1673 + 50)) M q) ?_ ?_ FU 0 _ ⟨rd_s _ _ _ _, a1.k Kw (fun c j z => by omega), fun a ha => by omega, K1⟩ (Nat.zero_le _) (FU_ge (by omega))
  · intro n i q hi hI ih
    try dsimp only at hI ih ⊢
    obtain ⟨i1, i2, i3, i4⟩ := hI
    have q1 : ¬ nI k ≤ nI i := nI_ge hi (by omega)
    have v : vp_in (nI i) 16 := (vp_iff (by omega)).mpr (by omega)
    have cb := (hb i hi).k i4 (fun c j z => by omega)
    rw [show 1622 + 3 * (i + 1) = 1625 + 3 * i by omega] at cb
    obtain ⟨b1, b2⟩ := st_copy (a := 1676 + 3 * i) (b := 1625 + 3 * i) (by omega) cb hu
    have := ih (stCopy (1676 + 3 * i) (1625 + 3 * i) q) ⟨by rw [b2.g (by omega)]; exact i1, i2.k b2 (fun c j z => by omega), fun a ha => ?_, i4.tr (b2.mono (fun c j z => by omega))⟩
    · rw [P_8_copyFroma_26, F_8_copyFroma_26, i1, if_neg q1, nI_clamp (n := i) (by omega), P_8_copyFroma_49, F_8_copyFroma_49]
      exact ⟨⟨fun y => absurd y q1, fun _ => ⟨v, ⟨iDa i (by omega), iSa i (by omega)⟩, this.1⟩⟩, this.2⟩
    · by_cases e : a = i
      · rw [e, show 1673 + 3 * (i + 1) = 1676 + 3 * i by omega]; exact b1
      · exact (i3 a (by omega)).k b2 (fun c j z => by omega)
  · intro n q hI
    try dsimp only at hI ⊢
    have q1 : nI k ≤ nI k := nI_le (Nat.le_refl _) (by omega)
    rw [P_8_copyFroma_26, F_8_copyFroma_26, hI.1, if_pos q1]
    exact ⟨⟨fun _ => trivial, fun y => absurd q1 y⟩, q, rfl, hI⟩
theorem tc_b {k : Nat} {u : MU} {s : SU} {bs : Nat → SU} {M : Mem} (hu : UW u) (hk : k ≤ 16) (hw : rd M 1614 2 = nI k) (h0 : CR 1622 u s M) (hb : ∀ a, a < k → CR (1622 + 3 * (a + 1)) u (bs a) M) : P_8_copyFromb_0 M ∧ ∃ M', F_8_copyFromb_0 M = M' ∧ TcR 1724 1616 k u s bs M M' := by
  obtain ⟨a1, a2⟩ := st_copy (a := 1724) (b := 1622) (by omega) h0 hu
  have w1 : rd (stCopy 1724 1622 M) 1614 2 = nI k := by rw [a2.g (by omega)]; exact hw
  have e16 : ¬ (16 : Int32) < nI k := by
    show ¬ nI 16 < nI k
    rw [nI_ltI (by omega) (by omega)]; omega
  have iD : isS 1724 := isS_all 34 (by omega)
  have iS : isS 1622 := isS_all 0 (by omega)
  have iDa : ∀ a, a < 16 → isS (1727 + 3 * a) := fun a ha => by
    have := isS_all (34 + (a + 1)) (by omega)
    rw [show 1622 + 3 * (34 + (a + 1)) = 1727 + 3 * a by omega] at this
    exact this
  have iSa : ∀ a, a < 16 → isS (1625 + 3 * a) := fun a ha => by
    have := isS_all (0 + (a + 1)) (by omega)
    rw [show 1622 + 3 * (0 + (a + 1)) = 1625 + 3 * a by omega] at this
    exact this
  have K1 : Kp (fun c j => (c = 1616 ∧ j = 2) ∨ (1724 ≤ c ∧ c ≤ 1774)) M (wr (stCopy 1724 1622 M) 1616 2 (nI k)) := (a2.mono (fun c j z => by omega)).w (Or.inl ⟨rfl, rfl⟩)
  have Kw : Kp (fun c j => c = 1616 ∧ j = 2) (stCopy 1724 1622 M) (wr (stCopy 1724 1622 M) 1616 2 (nI k)) := Kp.rf.w ⟨rfl, rfl⟩
  rw [P_8_copyFromb_0, F_8_copyFromb_0, P_8_copyFromb_11, F_8_copyFromb_11, w1, if_neg e16]
  suffices h : P_8_copyFromb_26 FU 0 (wr (stCopy 1724 1622 M) 1616 2 (nI k)) ∧ ∃ M', F_8_copyFromb_26 FU 0 (wr (stCopy 1724 1622 M) 1616 2 (nI k)) = M' ∧ TcR 1724 1616 k u s bs M M' from ⟨⟨⟨iD, iS⟩, h.1⟩, h.2⟩
  refine lq (S := Mem) (F := fun n i q => F_8_copyFromb_26 n i q) (P := fun n i q => P_8_copyFromb_26 n i q) (Q := fun z => ∃ M', z = M' ∧ TcR 1724 1616 k u s bs M M') (k) (fun i q => rd q 1616 2 = nI k ∧ CR 1724 u s q ∧ (∀ a, a < i → CR (1724 + 3 * (a + 1)) u (bs a) q) ∧ Kp (fun c j => (c = 1616 ∧ j = 2) ∨ (1724 ≤ c ∧ c ≤ 1724 + 50)) M q) ?_ ?_ FU 0 _ ⟨rd_s _ _ _ _, a1.k Kw (fun c j z => by omega), fun a ha => by omega, K1⟩ (Nat.zero_le _) (FU_ge (by omega))
  · intro n i q hi hI ih
    try dsimp only at hI ih ⊢
    obtain ⟨i1, i2, i3, i4⟩ := hI
    have q1 : ¬ nI k ≤ nI i := nI_ge hi (by omega)
    have v : vp_in (nI i) 16 := (vp_iff (by omega)).mpr (by omega)
    have cb := (hb i hi).k i4 (fun c j z => by omega)
    rw [show 1622 + 3 * (i + 1) = 1625 + 3 * i by omega] at cb
    obtain ⟨b1, b2⟩ := st_copy (a := 1727 + 3 * i) (b := 1625 + 3 * i) (by omega) cb hu
    have := ih (stCopy (1727 + 3 * i) (1625 + 3 * i) q) ⟨by rw [b2.g (by omega)]; exact i1, i2.k b2 (fun c j z => by omega), fun a ha => ?_, i4.tr (b2.mono (fun c j z => by omega))⟩
    · rw [P_8_copyFromb_26, F_8_copyFromb_26, i1, if_neg q1, nI_clamp (n := i) (by omega), P_8_copyFromb_49, F_8_copyFromb_49]
      exact ⟨⟨fun y => absurd y q1, fun _ => ⟨v, ⟨iDa i (by omega), iSa i (by omega)⟩, this.1⟩⟩, this.2⟩
    · by_cases e : a = i
      · rw [e, show 1724 + 3 * (i + 1) = 1727 + 3 * i by omega]; exact b1
      · exact (i3 a (by omega)).k b2 (fun c j z => by omega)
  · intro n q hI
    try dsimp only at hI ⊢
    have q1 : nI k ≤ nI k := nI_le (Nat.le_refl _) (by omega)
    rw [P_8_copyFromb_26, F_8_copyFromb_26, hI.1, if_pos q1]
    exact ⟨⟨fun _ => trivial, fun y => absurd q1 y⟩, q, rfl, hI⟩
theorem tc_c {k : Nat} {u : MU} {s : SU} {bs : Nat → SU} {M : Mem} (hu : UW u) (hk : k ≤ 16) (hw : rd M 1614 2 = nI k) (h0 : CR 1622 u s M) (hb : ∀ a, a < k → CR (1622 + 3 * (a + 1)) u (bs a) M) : P_8_copyFromc_0 M ∧ ∃ M', F_8_copyFromc_0 M = M' ∧ TcR 1775 1617 k u s bs M M' := by
  obtain ⟨a1, a2⟩ := st_copy (a := 1775) (b := 1622) (by omega) h0 hu
  have w1 : rd (stCopy 1775 1622 M) 1614 2 = nI k := by rw [a2.g (by omega)]; exact hw
  have e16 : ¬ (16 : Int32) < nI k := by
    show ¬ nI 16 < nI k
    rw [nI_ltI (by omega) (by omega)]; omega
  have iD : isS 1775 := isS_all 51 (by omega)
  have iS : isS 1622 := isS_all 0 (by omega)
  have iDa : ∀ a, a < 16 → isS (1778 + 3 * a) := fun a ha => by
    have := isS_all (51 + (a + 1)) (by omega)
    rw [show 1622 + 3 * (51 + (a + 1)) = 1778 + 3 * a by omega] at this
    exact this
  have iSa : ∀ a, a < 16 → isS (1625 + 3 * a) := fun a ha => by
    have := isS_all (0 + (a + 1)) (by omega)
    rw [show 1622 + 3 * (0 + (a + 1)) = 1625 + 3 * a by omega] at this
    exact this
  have K1 : Kp (fun c j => (c = 1617 ∧ j = 2) ∨ (1775 ≤ c ∧ c ≤ 1825)) M (wr (stCopy 1775 1622 M) 1617 2 (nI k)) := (a2.mono (fun c j z => by omega)).w (Or.inl ⟨rfl, rfl⟩)
  have Kw : Kp (fun c j => c = 1617 ∧ j = 2) (stCopy 1775 1622 M) (wr (stCopy 1775 1622 M) 1617 2 (nI k)) := Kp.rf.w ⟨rfl, rfl⟩
  rw [P_8_copyFromc_0, F_8_copyFromc_0, P_8_copyFromc_11, F_8_copyFromc_11, w1, if_neg e16]
  suffices h : P_8_copyFromc_26 FU 0 (wr (stCopy 1775 1622 M) 1617 2 (nI k)) ∧ ∃ M', F_8_copyFromc_26 FU 0 (wr (stCopy 1775 1622 M) 1617 2 (nI k)) = M' ∧ TcR 1775 1617 k u s bs M M' from ⟨⟨⟨iD, iS⟩, h.1⟩, h.2⟩
  refine lq (S := Mem) (F := fun n i q => F_8_copyFromc_26 n i q) (P := fun n i q => P_8_copyFromc_26 n i q) (Q := fun z => ∃ M', z = M' ∧ TcR 1775 1617 k u s bs M M') (k) (fun i q => rd q 1617 2 = nI k ∧ CR 1775 u s q ∧ (∀ a, a < i → CR (1775 + 3 * (a + 1)) u (bs a) q) ∧ Kp (fun c j => (c = 1617 ∧ j = 2) ∨ (1775 ≤ c ∧ c ≤ 1775 + 50)) M q) ?_ ?_ FU 0 _ ⟨rd_s _ _ _ _, a1.k Kw (fun c j z => by omega), fun a ha => by omega, K1⟩ (Nat.zero_le _) (FU_ge (by omega))
  · intro n i q hi hI ih
    try dsimp only at hI ih ⊢
    obtain ⟨i1, i2, i3, i4⟩ := hI
    have q1 : ¬ nI k ≤ nI i := nI_ge hi (by omega)
    have v : vp_in (nI i) 16 := (vp_iff (by omega)).mpr (by omega)
    have cb := (hb i hi).k i4 (fun c j z => by omega)
    rw [show 1622 + 3 * (i + 1) = 1625 + 3 * i by omega] at cb
    obtain ⟨b1, b2⟩ := st_copy (a := 1778 + 3 * i) (b := 1625 + 3 * i) (by omega) cb hu
    have := ih (stCopy (1778 + 3 * i) (1625 + 3 * i) q) ⟨by rw [b2.g (by omega)]; exact i1, i2.k b2 (fun c j z => by omega), fun a ha => ?_, i4.tr (b2.mono (fun c j z => by omega))⟩
    · rw [P_8_copyFromc_26, F_8_copyFromc_26, i1, if_neg q1, nI_clamp (n := i) (by omega), P_8_copyFromc_49, F_8_copyFromc_49]
      exact ⟨⟨fun y => absurd y q1, fun _ => ⟨v, ⟨iDa i (by omega), iSa i (by omega)⟩, this.1⟩⟩, this.2⟩
    · by_cases e : a = i
      · rw [e, show 1775 + 3 * (i + 1) = 1778 + 3 * i by omega]; exact b1
      · exact (i3 a (by omega)).k b2 (fun c j z => by omega)
  · intro n q hI
    try dsimp only at hI ⊢
    have q1 : nI k ≤ nI k := nI_le (Nat.le_refl _) (by omega)
    rw [P_8_copyFromc_26, F_8_copyFromc_26, hI.1, if_pos q1]
    exact ⟨⟨fun _ => trivial, fun y => absurd q1 y⟩, q, rfl, hI⟩
theorem tc_d {k : Nat} {u : MU} {s : SU} {bs : Nat → SU} {M : Mem} (hu : UW u) (hk : k ≤ 16) (hw : rd M 1615 2 = nI k) (h0 : CR 1673 u s M) (hb : ∀ a, a < k → CR (1673 + 3 * (a + 1)) u (bs a) M) : P_8_copyFromd_0 M ∧ ∃ M', F_8_copyFromd_0 M = M' ∧ TcR 1622 1614 k u s bs M M' := by
  obtain ⟨a1, a2⟩ := st_copy (a := 1622) (b := 1673) (by omega) h0 hu
  have w1 : rd (stCopy 1622 1673 M) 1615 2 = nI k := by rw [a2.g (by omega)]; exact hw
  have e16 : ¬ (16 : Int32) < nI k := by
    show ¬ nI 16 < nI k
    rw [nI_ltI (by omega) (by omega)]; omega
  have iD : isS 1622 := isS_all 0 (by omega)
  have iS : isS 1673 := isS_all 17 (by omega)
  have iDa : ∀ a, a < 16 → isS (1625 + 3 * a) := fun a ha => by
    have := isS_all (0 + (a + 1)) (by omega)
    rw [show 1622 + 3 * (0 + (a + 1)) = 1625 + 3 * a by omega] at this
    exact this
  have iSa : ∀ a, a < 16 → isS (1676 + 3 * a) := fun a ha => by
    have := isS_all (17 + (a + 1)) (by omega)
    rw [show 1622 + 3 * (17 + (a + 1)) = 1676 + 3 * a by omega] at this
    exact this
  have K1 : Kp (fun c j => (c = 1614 ∧ j = 2) ∨ (1622 ≤ c ∧ c ≤ 1672)) M (wr (stCopy 1622 1673 M) 1614 2 (nI k)) := (a2.mono (fun c j z => by omega)).w (Or.inl ⟨rfl, rfl⟩)
  have Kw : Kp (fun c j => c = 1614 ∧ j = 2) (stCopy 1622 1673 M) (wr (stCopy 1622 1673 M) 1614 2 (nI k)) := Kp.rf.w ⟨rfl, rfl⟩
  rw [P_8_copyFromd_0, F_8_copyFromd_0, P_8_copyFromd_11, F_8_copyFromd_11, w1, if_neg e16]
  suffices h : P_8_copyFromd_26 FU 0 (wr (stCopy 1622 1673 M) 1614 2 (nI k)) ∧ ∃ M', F_8_copyFromd_26 FU 0 (wr (stCopy 1622 1673 M) 1614 2 (nI k)) = M' ∧ TcR 1622 1614 k u s bs M M' from ⟨⟨⟨iD, iS⟩, h.1⟩, h.2⟩
  refine lq (S := Mem) (F := fun n i q => F_8_copyFromd_26 n i q) (P := fun n i q => P_8_copyFromd_26 n i q) (Q := fun z => ∃ M', z = M' ∧ TcR 1622 1614 k u s bs M M') (k) (fun i q => rd q 1614 2 = nI k ∧ CR 1622 u s q ∧ (∀ a, a < i → CR (1622 + 3 * (a + 1)) u (bs a) q) ∧ Kp (fun c j => (c = 1614 ∧ j = 2) ∨ (1622 ≤ c ∧ c ≤ 1622 + 50)) M q) ?_ ?_ FU 0 _ ⟨rd_s _ _ _ _, a1.k Kw (fun c j z => by omega), fun a ha => by omega, K1⟩ (Nat.zero_le _) (FU_ge (by omega))
  · intro n i q hi hI ih
    try dsimp only at hI ih ⊢
    obtain ⟨i1, i2, i3, i4⟩ := hI
    have q1 : ¬ nI k ≤ nI i := nI_ge hi (by omega)
    have v : vp_in (nI i) 16 := (vp_iff (by omega)).mpr (by omega)
    have cb := (hb i hi).k i4 (fun c j z => by omega)
    rw [show 1673 + 3 * (i + 1) = 1676 + 3 * i by omega] at cb
    obtain ⟨b1, b2⟩ := st_copy (a := 1625 + 3 * i) (b := 1676 + 3 * i) (by omega) cb hu
    have := ih (stCopy (1625 + 3 * i) (1676 + 3 * i) q) ⟨by rw [b2.g (by omega)]; exact i1, i2.k b2 (fun c j z => by omega), fun a ha => ?_, i4.tr (b2.mono (fun c j z => by omega))⟩
    · rw [P_8_copyFromd_26, F_8_copyFromd_26, i1, if_neg q1, nI_clamp (n := i) (by omega), P_8_copyFromd_49, F_8_copyFromd_49]
      exact ⟨⟨fun y => absurd y q1, fun _ => ⟨v, ⟨iDa i (by omega), iSa i (by omega)⟩, this.1⟩⟩, this.2⟩
    · by_cases e : a = i
      · rw [e, show 1622 + 3 * (i + 1) = 1625 + 3 * i by omega]; exact b1
      · exact (i3 a (by omega)).k b2 (fun c j z => by omega)
  · intro n q hI
    try dsimp only at hI ⊢
    have q1 : nI k ≤ nI k := nI_le (Nat.le_refl _) (by omega)
    rw [P_8_copyFromd_26, F_8_copyFromd_26, hI.1, if_pos q1]
    exact ⟨⟨fun _ => trivial, fun y => absurd q1 y⟩, q, rfl, hI⟩
theorem tc_e {k : Nat} {u : MU} {s : SU} {bs : Nat → SU} {M : Mem} (hu : UW u) (hk : k ≤ 16) (hw : rd M 1616 2 = nI k) (h0 : CR 1724 u s M) (hb : ∀ a, a < k → CR (1724 + 3 * (a + 1)) u (bs a) M) : P_8_copyFrome_0 M ∧ ∃ M', F_8_copyFrome_0 M = M' ∧ TcR 1622 1614 k u s bs M M' := by
  obtain ⟨a1, a2⟩ := st_copy (a := 1622) (b := 1724) (by omega) h0 hu
  have w1 : rd (stCopy 1622 1724 M) 1616 2 = nI k := by rw [a2.g (by omega)]; exact hw
  have e16 : ¬ (16 : Int32) < nI k := by
    show ¬ nI 16 < nI k
    rw [nI_ltI (by omega) (by omega)]; omega
  have iD : isS 1622 := isS_all 0 (by omega)
  have iS : isS 1724 := isS_all 34 (by omega)
  have iDa : ∀ a, a < 16 → isS (1625 + 3 * a) := fun a ha => by
    have := isS_all (0 + (a + 1)) (by omega)
    rw [show 1622 + 3 * (0 + (a + 1)) = 1625 + 3 * a by omega] at this
    exact this
  have iSa : ∀ a, a < 16 → isS (1727 + 3 * a) := fun a ha => by
    have := isS_all (34 + (a + 1)) (by omega)
    rw [show 1622 + 3 * (34 + (a + 1)) = 1727 + 3 * a by omega] at this
    exact this
  have K1 : Kp (fun c j => (c = 1614 ∧ j = 2) ∨ (1622 ≤ c ∧ c ≤ 1672)) M (wr (stCopy 1622 1724 M) 1614 2 (nI k)) := (a2.mono (fun c j z => by omega)).w (Or.inl ⟨rfl, rfl⟩)
  have Kw : Kp (fun c j => c = 1614 ∧ j = 2) (stCopy 1622 1724 M) (wr (stCopy 1622 1724 M) 1614 2 (nI k)) := Kp.rf.w ⟨rfl, rfl⟩
  rw [P_8_copyFrome_0, F_8_copyFrome_0, P_8_copyFrome_11, F_8_copyFrome_11, w1, if_neg e16]
  suffices h : P_8_copyFrome_26 FU 0 (wr (stCopy 1622 1724 M) 1614 2 (nI k)) ∧ ∃ M', F_8_copyFrome_26 FU 0 (wr (stCopy 1622 1724 M) 1614 2 (nI k)) = M' ∧ TcR 1622 1614 k u s bs M M' from ⟨⟨⟨iD, iS⟩, h.1⟩, h.2⟩
  refine lq (S := Mem) (F := fun n i q => F_8_copyFrome_26 n i q) (P := fun n i q => P_8_copyFrome_26 n i q) (Q := fun z => ∃ M', z = M' ∧ TcR 1622 1614 k u s bs M M') (k) (fun i q => rd q 1614 2 = nI k ∧ CR 1622 u s q ∧ (∀ a, a < i → CR (1622 + 3 * (a + 1)) u (bs a) q) ∧ Kp (fun c j => (c = 1614 ∧ j = 2) ∨ (1622 ≤ c ∧ c ≤ 1622 + 50)) M q) ?_ ?_ FU 0 _ ⟨rd_s _ _ _ _, a1.k Kw (fun c j z => by omega), fun a ha => by omega, K1⟩ (Nat.zero_le _) (FU_ge (by omega))
  · intro n i q hi hI ih
    try dsimp only at hI ih ⊢
    obtain ⟨i1, i2, i3, i4⟩ := hI
    have q1 : ¬ nI k ≤ nI i := nI_ge hi (by omega)
    have v : vp_in (nI i) 16 := (vp_iff (by omega)).mpr (by omega)
    have cb := (hb i hi).k i4 (fun c j z => by omega)
    rw [show 1724 + 3 * (i + 1) = 1727 + 3 * i by omega] at cb
    obtain ⟨b1, b2⟩ := st_copy (a := 1625 + 3 * i) (b := 1727 + 3 * i) (by omega) cb hu
    have := ih (stCopy (1625 + 3 * i) (1727 + 3 * i) q) ⟨by rw [b2.g (by omega)]; exact i1, i2.k b2 (fun c j z => by omega), fun a ha => ?_, i4.tr (b2.mono (fun c j z => by omega))⟩
    · rw [P_8_copyFrome_26, F_8_copyFrome_26, i1, if_neg q1, nI_clamp (n := i) (by omega), P_8_copyFrome_49, F_8_copyFrome_49]
      exact ⟨⟨fun y => absurd y q1, fun _ => ⟨v, ⟨iDa i (by omega), iSa i (by omega)⟩, this.1⟩⟩, this.2⟩
    · by_cases e : a = i
      · rw [e, show 1622 + 3 * (i + 1) = 1625 + 3 * i by omega]; exact b1
      · exact (i3 a (by omega)).k b2 (fun c j z => by omega)
  · intro n q hI
    try dsimp only at hI ⊢
    have q1 : nI k ≤ nI k := nI_le (Nat.le_refl _) (by omega)
    rw [P_8_copyFrome_26, F_8_copyFrome_26, hI.1, if_pos q1]
    exact ⟨⟨fun _ => trivial, fun y => absurd q1 y⟩, q, rfl, hI⟩
theorem tc_f {k : Nat} {u : MU} {s : SU} {bs : Nat → SU} {M : Mem} (hu : UW u) (hk : k ≤ 16) (hw : rd M 1617 2 = nI k) (h0 : CR 1775 u s M) (hb : ∀ a, a < k → CR (1775 + 3 * (a + 1)) u (bs a) M) : P_8_copyFromf_0 M ∧ ∃ M', F_8_copyFromf_0 M = M' ∧ TcR 1622 1614 k u s bs M M' := by
  obtain ⟨a1, a2⟩ := st_copy (a := 1622) (b := 1775) (by omega) h0 hu
  have w1 : rd (stCopy 1622 1775 M) 1617 2 = nI k := by rw [a2.g (by omega)]; exact hw
  have e16 : ¬ (16 : Int32) < nI k := by
    show ¬ nI 16 < nI k
    rw [nI_ltI (by omega) (by omega)]; omega
  have iD : isS 1622 := isS_all 0 (by omega)
  have iS : isS 1775 := isS_all 51 (by omega)
  have iDa : ∀ a, a < 16 → isS (1625 + 3 * a) := fun a ha => by
    have := isS_all (0 + (a + 1)) (by omega)
    rw [show 1622 + 3 * (0 + (a + 1)) = 1625 + 3 * a by omega] at this
    exact this
  have iSa : ∀ a, a < 16 → isS (1778 + 3 * a) := fun a ha => by
    have := isS_all (51 + (a + 1)) (by omega)
    rw [show 1622 + 3 * (51 + (a + 1)) = 1778 + 3 * a by omega] at this
    exact this
  have K1 : Kp (fun c j => (c = 1614 ∧ j = 2) ∨ (1622 ≤ c ∧ c ≤ 1672)) M (wr (stCopy 1622 1775 M) 1614 2 (nI k)) := (a2.mono (fun c j z => by omega)).w (Or.inl ⟨rfl, rfl⟩)
  have Kw : Kp (fun c j => c = 1614 ∧ j = 2) (stCopy 1622 1775 M) (wr (stCopy 1622 1775 M) 1614 2 (nI k)) := Kp.rf.w ⟨rfl, rfl⟩
  rw [P_8_copyFromf_0, F_8_copyFromf_0, P_8_copyFromf_11, F_8_copyFromf_11, w1, if_neg e16]
  suffices h : P_8_copyFromf_26 FU 0 (wr (stCopy 1622 1775 M) 1614 2 (nI k)) ∧ ∃ M', F_8_copyFromf_26 FU 0 (wr (stCopy 1622 1775 M) 1614 2 (nI k)) = M' ∧ TcR 1622 1614 k u s bs M M' from ⟨⟨⟨iD, iS⟩, h.1⟩, h.2⟩
  refine lq (S := Mem) (F := fun n i q => F_8_copyFromf_26 n i q) (P := fun n i q => P_8_copyFromf_26 n i q) (Q := fun z => ∃ M', z = M' ∧ TcR 1622 1614 k u s bs M M') (k) (fun i q => rd q 1614 2 = nI k ∧ CR 1622 u s q ∧ (∀ a, a < i → CR (1622 + 3 * (a + 1)) u (bs a) q) ∧ Kp (fun c j => (c = 1614 ∧ j = 2) ∨ (1622 ≤ c ∧ c ≤ 1622 + 50)) M q) ?_ ?_ FU 0 _ ⟨rd_s _ _ _ _, a1.k Kw (fun c j z => by omega), fun a ha => by omega, K1⟩ (Nat.zero_le _) (FU_ge (by omega))
  · intro n i q hi hI ih
    try dsimp only at hI ih ⊢
    obtain ⟨i1, i2, i3, i4⟩ := hI
    have q1 : ¬ nI k ≤ nI i := nI_ge hi (by omega)
    have v : vp_in (nI i) 16 := (vp_iff (by omega)).mpr (by omega)
    have cb := (hb i hi).k i4 (fun c j z => by omega)
    rw [show 1775 + 3 * (i + 1) = 1778 + 3 * i by omega] at cb
    obtain ⟨b1, b2⟩ := st_copy (a := 1625 + 3 * i) (b := 1778 + 3 * i) (by omega) cb hu
    have := ih (stCopy (1625 + 3 * i) (1778 + 3 * i) q) ⟨by rw [b2.g (by omega)]; exact i1, i2.k b2 (fun c j z => by omega), fun a ha => ?_, i4.tr (b2.mono (fun c j z => by omega))⟩
    · rw [P_8_copyFromf_26, F_8_copyFromf_26, i1, if_neg q1, nI_clamp (n := i) (by omega), P_8_copyFromf_49, F_8_copyFromf_49]
      exact ⟨⟨fun y => absurd y q1, fun _ => ⟨v, ⟨iDa i (by omega), iSa i (by omega)⟩, this.1⟩⟩, this.2⟩
    · by_cases e : a = i
      · rw [e, show 1622 + 3 * (i + 1) = 1625 + 3 * i by omega]; exact b1
      · exact (i3 a (by omega)).k b2 (fun c j z => by omega)
  · intro n q hI
    try dsimp only at hI ⊢
    have q1 : nI k ≤ nI k := nI_le (Nat.le_refl _) (by omega)
    rw [P_8_copyFromf_26, F_8_copyFromf_26, hI.1, if_pos q1]
    exact ⟨⟨fun _ => trivial, fun y => absurd q1 y⟩, q, rfl, hI⟩
