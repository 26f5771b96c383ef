/-! MATHEMATICS 47: a law taken, both sides -/
def rLb (c _j : Nat) : Prop := 78 ≤ c ∧ c < 238
theorem r_laysb {len : Nat} (hl : len ≤ 150) {M : Mem} : P_12_laysb_0 (nI len) M ∧ ∃ M', F_12_laysb_0 (nI len) M = M' ∧ (∀ i j, i < len → j < 2 → rd M' (78 + i) j = rd M (238 + i) j) ∧ Kp rLb M M' := by
  rw [P_12_laysb_0, F_12_laysb_0]
  have eL : ∀ i, i ≤ len → ((nI len ≤ nI i) ↔ len ≤ i) := fun i hi => nI_leI (by omega) (by omega)
  have e2 : ∀ i, i ≤ 2 → (((2 : Int32) ≤ nI i) ↔ 2 ≤ i) := fun i hi => nI_leI (a := 2) (by omega) (by omega)
  refine lq (S := Mem) (F := fun n i q => F_12_laysb_2 n (nI len) i q) (P := fun n i q => P_12_laysb_2 n (nI len) i q) (Q := fun a => ∃ M', a = M' ∧ (∀ i j, i < len → j < 2 → rd M' (78 + i) j = rd M (238 + i) j) ∧ Kp rLb M M') (len) (fun i q => Kp rLb M q ∧ ∀ a j, a < i → j < 2 → rd q (78 + a) j = rd M (238 + a) j) ?_ ?_ FU 0 M ⟨Kp.rf, fun a j h => by omega⟩ (Nat.zero_le _) (FU_ge (by omega))
  · intro n i q hi hI ih
    have c1 : ¬ len ≤ i := by omega
    have vi : vp_in (nI i) 160 := (vp_iff (by omega)).mpr (by omega)
    rw [P_12_laysb_2, F_12_laysb_2]
    simp only [eL i (by omega), c1, if_true, if_false, true_imp_iff, false_imp_iff, not_true_eq_false, not_false_eq_true, true_and, and_true, implies_true, reduceIte]
    refine lq (S := Mem) (F := fun m j q => F_12_laysb_10 (F_12_laysb_2 n) m (nI len) (nI i) j q) (P := fun m j q => P_12_laysb_10 (P_12_laysb_2 n) m (nI len) (nI i) j q) (Q := fun a => ∃ M', a = M' ∧ (∀ i j, i < len → j < 2 → rd M' (78 + i) j = rd M (238 + i) j) ∧ Kp rLb M M') 2 (fun j q => Kp rLb M q ∧ (∀ a b, a < i → b < 2 → rd q (78 + a) b = rd M (238 + a) b) ∧ ∀ b, b < j → rd q (78 + i) b = rd M (238 + i) b) ?_ ?_ FU 0 q ⟨hI.1, hI.2, fun b h => by omega⟩ (Nat.zero_le _) (FU_ge (by omega))
    · intro m j q hj hJ ih2
      have c2 : ¬ 2 ≤ j := by omega
      have vj : vp_in (nI j) 2 := (vp_iff (by omega)).mpr hj
      have hg := ih2 (wr q (78 + i) j (rd q (238 + i) j)) ⟨hJ.1.w ⟨by omega, by omega⟩, fun a b ha hb => by rw [rd_c (by omega)]; exact hJ.2.1 a b ha hb, fun b hb => by
        by_cases e : b = j
        · rw [e, rd_s, hJ.1.g (by unfold rLb; omega)]
        · rw [rd_i e]; exact hJ.2.2 b (by omega)⟩
      try dsimp only
      rw [P_12_laysb_10, F_12_laysb_10, nI_clamp (n := i) (by omega), nI_clamp (n := j) (by omega)]
      simp only [e2 j (by omega), c2, vi, vj, if_true, if_false, true_imp_iff, false_imp_iff, not_true_eq_false, not_false_eq_true, true_and, and_true, implies_true, reduceIte]
      exact hg
    · intro m q hJ
      have hg := ih q ⟨hJ.1, fun a j ha hj => by
        by_cases e : a = i
        · rw [e]; exact hJ.2.2 j hj
        · exact hJ.2.1 a j (by omega) hj⟩
      try dsimp only
      rw [P_12_laysb_10, F_12_laysb_10]
      simp only [e2 2 (by omega), Nat.le_refl, vi, if_true, if_false, true_imp_iff, false_imp_iff, not_true_eq_false, not_false_eq_true, true_and, and_true, implies_true, reduceIte]
      exact hg
  · intro n q hI
    rw [P_12_laysb_2, F_12_laysb_2]
    simp only [eL len (by omega), Nat.le_refl, if_true, if_false, true_imp_iff, false_imp_iff, not_true_eq_false, not_false_eq_true, true_and, and_true, implies_true, reduceIte]
    exact ⟨q, rfl, fun a j ha hj => hI.2 a j ha hj, hI.1⟩
/-- what the taking of a law leaves in the reference -/
def RLd (o : TRs (List Int32)) (M : Mem) (z : Int32 × Mem) : Prop := match o with
  | .inl e => z.1 = nI e.1 - 10 ∧ rd z.2 0 3 = nI e.2 ∧ 1 ≤ e.1 ∧ e.1 ≤ 3 ∧ e.2 ≤ 600 ∧ Kp (fun c j => rL c j ∨ (c = 0 ∧ j = 3)) M z.2
  | .inr L => z.1 = 1 ∧ rd z.2 0 3 = -1 ∧ RL L z.2 ∧ Kp (fun c j => rL c j ∨ (c = 0 ∧ (j = 3 ∨ j = 21)) ∨ rLb c j) M z.2
theorem r_law45 {tb : Nat → Nat} {n : Nat} {M : Mem} (hn : n ≤ 150) (h : RT tb n (skT tb n 0) M) (h8 : rd M 0 8 = 0) : P_12_law_45 M ∧ RLd (lawA tb n) M (F_12_law_45 M) := by
  have K0 : Kp (fun c j => c = 0 ∧ j = 22) M (wr M 0 22 0) := Kp.rf.w ⟨rfl, rfl⟩
  have T0 : RT tb n (skT tb n 0) (wr M 0 22 0) := h.k K0 (fun c j z => by omega)
  have L0 : RLw [] (wr M 0 22 0) := ⟨rd_s _ _ _ _, fun i hi => absurd (show i < 0 from hi) (by omega)⟩
  have s0 : rd (wr M 0 22 0) 0 8 = nI 0 := by rw [rd_i (by decide)]; exact h8
  have hL := @lawA_w tb n
  have k0 : Kp rL M (wr M 0 22 0) := K0.mono (fun c j z => Or.inl (by omega))
  rw [P_12_law_45, F_12_law_45]
  obtain ⟨a1, M1, a2, a3, a4⟩ := (r_sum (tb := tb) hn 8 0 (by omega) (by omega)).2 [] _ _ T0 L0 s0 (Nat.zero_le _)
  rw [lSum_sk (Nat.zero_le _)] at a3
  have K1 : Kp rL M M1 := k0.tr a4
  rw [a2]
  unfold lawA at hL ⊢
  have fault : ∀ (e : Nat × Nat) (M2 : Mem), RE e M2 → Kp rL M M2 → P_12_law_85 M2 ∧ RLd (.inl e) M (F_12_law_85 M2) := by
    intro e M2 hE hK
    rw [P_12_law_85, F_12_law_85, if_neg hE.ne, F_12_ends2_0, F_12_law_96]
    refine ⟨⟨fun z => absurd z hE.ne, fun _ => trivial⟩, ?_, ?_, hE.2.2.1, hE.2.2.2.1, hE.2.2.2.2, (hK.mono (fun c j z => Or.inl z)).w (Or.inr ⟨rfl, rfl⟩)⟩
    · show rd (wr M2 0 3 (rd M2 0 6)) 0 5 - 10 = nI e.1 - 10
      rw [rd_i (by decide), hE.1]
    · show rd (wr M2 0 3 (rd M2 0 6)) 0 3 = nI e.2
      rw [rd_s, hE.2.1]
  suffices hs : P_12_law_54 M1 ∧ RLd (bnd (lSum tb n 8 0 0) (fun x => if skT tb n x.2 < n then .inl (1, skT tb n x.2) else .inr x.1)) M (F_12_law_54 M1) from ⟨⟨a1, hs.1⟩, hs.2⟩
  rw [P_12_law_54, F_12_law_54]
  have n6 := h.1.1
  cases o : lSum tb n 8 0 0 with
  | inl e =>
    rw [o] at a3
    have a3' : RE e M1 ∧ TxE tb n M1 := a3
    obtain ⟨tx, p1, p2, p3⟩ := a3'.2
    obtain ⟨g1, M2, g2, g3, g4⟩ := r_blanks FU p1 M1 tx p3 p2 (by unfold FU; omega)
    have E2 : RE e M2 := a3'.1.k g4 (fun c j z => by unfold r4 at z; omega)
    obtain ⟨f1, f2⟩ := fault e M2 E2 (K1.tr g4.t4L)
    rw [g2, P_12_law_58, F_12_law_58, if_neg E2.ne]
    exact ⟨⟨g1, fun _ => f1, fun z => absurd z E2.ne⟩, f2⟩
  | inr x =>
    obtain ⟨L, p⟩ := x
    rw [o] at a3 hL
    have a3' : RT tb n p M1 ∧ RLw ([] ++ L) M1 ∧ rd M1 0 8 = nI 0 := a3
    obtain ⟨T1, L1, s1⟩ := a3'
    rw [List.nil_append] at L1
    have gd := gd_sum (tb := tb) (n := n) 8 0 0 (by omega) (by omega) (Nat.zero_le _)
    rw [o] at gd
    have hl : L.length ≤ 150 := by
      have := gd.2.1
      have := gd.2.2.1
      have e : L.length + 0 ≤ p := gd.2.1
      have := T1.2.2.1
      omega
    obtain ⟨b1, M2, b2, b3, b4⟩ := r_bl T1
    have L2 := L1.t4 hl b4
    have K2 := K1.tr b4.t4L
    have hb := sk_b (tb := tb) T1.2.2.1
    have e1 : (nI n ≤ nI (skT tb n p)) ↔ ¬ skT tb n p < n := by rw [nI_leI (by omega) (by omega)]; omega
    rw [b2, P_12_law_58, F_12_law_58, if_pos b3.2.2.2, b3.1.2.1, b3.2.1]
    simp only [e1]
    show _ ∧ RLd (if skT tb n p < n then .inl (1, skT tb n p) else .inr L) M _
    by_cases c : skT tb n p < n
    · obtain ⟨M3, w1, w2, w3⟩ := r_wrong b3.2.2.2 (k := 1) (q := skT tb n p) (by omega) (by omega) (by omega)
      have w1' : F_12_wrong_0 1 (nI (skT tb n p)) M2 = M3 := w1
      obtain ⟨f1, f2⟩ := fault (1, skT tb n p) M3 w2 (K2.tr w3.tL)
      rw [if_pos c, if_neg (show ¬ ¬ skT tb n p < n from fun z => z c), w1']
      exact ⟨⟨b1, fun z => absurd b3.2.2.2 z, fun _ => ⟨fun z => absurd c z, fun _ => f1⟩⟩, f2⟩
    · have hL' := hL (L := L) hn (if_neg c)
      rw [if_neg c, if_pos c]
      suffices hs : P_12_law_85 M2 ∧ RLd (.inr L) M (F_12_law_85 M2) from ⟨⟨b1, fun z => absurd b3.2.2.2 z, fun _ => ⟨fun _ => hs.1, fun z => absurd c z⟩⟩, hs.2⟩
      have e22 : rd (wr M2 0 3 (-1)) 0 22 = nI L.length := by rw [rd_i (by decide)]; exact L2.1
      rw [P_12_law_85, F_12_law_85, if_pos b3.2.2.2, e22]
      obtain ⟨f1, M3, f2, f3, f4⟩ := r_laysb (M := wr (wr M2 0 3 (-1)) 0 21 (nI L.length)) hl
      rw [f2, F_12_law_125]
      have K2b : Kp (fun c j => rL c j ∨ (c = 0 ∧ (j = 3 ∨ j = 21)) ∨ rLb c j) M M2 := K2.mono (fun c j z => Or.inl z)
      have K2c : Kp (fun c j => rL c j ∨ (c = 0 ∧ (j = 3 ∨ j = 21)) ∨ rLb c j) M (wr (wr M2 0 3 (-1)) 0 21 (nI L.length)) := (K2b.w (Or.inr (Or.inl ⟨rfl, Or.inl rfl⟩))).w (Or.inr (Or.inl ⟨rfl, Or.inr rfl⟩))
      have K3 : Kp (fun c j => rL c j ∨ (c = 0 ∧ (j = 3 ∨ j = 21)) ∨ rLb c j) M M3 := K2c.tr (f4.mono (fun c j z => Or.inr (Or.inr z)))
      refine ⟨⟨fun _ => f1, fun z => absurd b3.2.2.2 z⟩, rfl, ?_, ⟨hL'.1, Or.inr ⟨hL'.2, ?_, fun i hi => ?_⟩⟩, K3⟩
      · show rd M3 0 3 = -1
        rw [f4.g (by unfold rLb; omega), rd_i (by decide), rd_s]
      · show rd M3 0 21 = nI L.length
        rw [f4.g (by unfold rLb; omega), rd_s]
      · have h1 := f3 i 0 hi (by omega)
        have h2 := f3 i 1 hi (by omega)
        rw [rd_c (by omega), rd_c (by omega)] at h1 h2
        show rd M3 (78 + i) 0 = _ ∧ rd M3 (78 + i) 1 = _
        rw [h1, h2]
        exact L2.2 i hi
/-! the class -/
theorem rd_cp {M : Mem} {a sp b dp n c j : Nat} : rd (cpM M a sp b dp n) c j = if c = b ∧ dp ≤ j ∧ j < dp + n then rd M a (sp + (j - dp)) else rd M c j := rfl
def CLd (o : TRs (List Int32)) (M : Mem) (z : Int32 × Mem) : Prop := match o with
  | .inl e => z.1 = 0 ∧ CErr e z.2 ∧ Kp cLw M z.2
  | .inr L => z.1 = 1 ∧ CL L z.2 ∧ (∀ c j, ¬ (cLw c j ∨ (c = 1583 ∧ j = 3) ∨ c = 1584) → rd z.2 c j = rd M c j ∧ rl z.2 c j = rl M c j)
theorem c_law {tb : Nat → Nat} {n : Nat} {M : Mem} (hn : n ≤ 150) (h : CT tb n 0 M) : P_2_read_0 M ∧ CLd (lawA tb n) M (F_2_read_0 M) := by
  have K0 : Kp cP M (wr M 1583 4 0) := Kp.rf.w (Or.inl ⟨rfl, rfl⟩)
  have T0 := h.p K0
  have L0 : CLw [] (wr M 1583 4 0) := ⟨rd_s _ _ _ _, fun i hi => absurd (show i < 0 from hi) (by omega)⟩
  have hL := @lawA_w tb n
  rw [P_2_read_0, F_2_read_0]
  obtain ⟨a1, a2, a3⟩ := c_sum (tb := tb) hn 8 0 (by omega) (by omega) [] 0 _ T0 L0 (Nat.zero_le _)
  have a1' : H_2_readSum 8 0 (wr M 1583 4 0) := a1
  have eF : G_2_readSum 8 (nI 0) (wr M 1583 4 0) = G_2_readSum 8 0 (wr M 1583 4 0) := rfl
  rw [eF] at a2 a3
  have K1 := K0.pcL.tr a3
  generalize G_2_readSum 8 0 (wr M 1583 4 0) = z at *
  obtain ⟨x, M1⟩ := z
  unfold lawA at hL ⊢
  suffices hs : P_2_read_11 x M1 ∧ CLd (bnd (lSum tb n 8 0 0) (fun x => if skT tb n x.2 < n then .inl (1, skT tb n x.2) else .inr x.1)) M (F_2_read_11 x M1) from ⟨⟨a1', hs.1⟩, hs.2⟩
  rw [P_2_read_11, F_2_read_11]
  cases o : lSum tb n 8 0 0 with
  | inl e =>
    rw [o] at a2
    have a2' : x = 0 ∧ CErr e M1 := a2
    rw [if_pos a2'.1]
    exact ⟨⟨fun _ => trivial, fun z => absurd a2'.1 z⟩, rfl, a2'.2, K1⟩
  | inr y =>
    obtain ⟨L, p⟩ := y
    rw [o] at a2 hL
    obtain ⟨x1', T1, L1⟩ : x = 1 ∧ CT tb n p M1 ∧ CLw ([] ++ L) M1 := a2
    rw [List.nil_append] at L1
    rw [if_neg (x1 x1')]
    obtain ⟨b1, b2, b3⟩ := c_needsEnd T1
    have L2 := L1.t b3
    have K2 := Kp.tr K1 b3.tcL
    generalize F_5_needsEnd_0 M1 = z at *
    obtain ⟨y, M2⟩ := z
    show _ ∧ CLd (if skT tb n p < n then .inl (1, skT tb n p) else .inr L) M (F_2_read_18 y M2)
    suffices hs : P_2_read_18 y M2 ∧ CLd (if skT tb n p < n then .inl (1, skT tb n p) else .inr L) M (F_2_read_18 y M2) from ⟨⟨fun z => absurd z (x1 x1'), fun _ => ⟨b1, hs.1⟩⟩, hs.2⟩
    rw [P_2_read_18, F_2_read_18]
    by_cases c : skT tb n p < n
    · rw [if_pos c] at b2 ⊢
      have b2' : y = 0 ∧ CErr (1, skT tb n p) M2 := b2
      rw [if_pos b2'.1]
      exact ⟨⟨fun z => absurd b2'.1 z, fun _ => trivial⟩, rfl, b2'.2, K2⟩
    · have hL' := hL (L := L) hn (if_neg c)
      rw [if_neg c] at b2 ⊢
      have b2' : y = 1 ∧ CT tb n (skT tb n p) M2 := b2
      have hl := hL'.1.1
      have L2' : rd M2 1583 4 = nI L.length := L2.1
      rw [if_neg (x1 b2'.1), L2', nI_clamp (n := L.length) (by omega), cl0]
      have e1 : rd (cpM M2 1585 0 1584 0 L.length) 1583 4 = nI L.length := by rw [rd_cp, if_neg (by omega)]; exact L2'
      rw [e1]
      refine ⟨⟨fun _ => ⟨nI_pos (by omega), by omega⟩, fun z => absurd z (x1 b2'.1)⟩, rfl, ⟨hL'.1, rd_s _ _ _ _, fun i hi => ?_⟩, fun cc j hne => ?_⟩
      · show rd (wr (cpM M2 1585 0 1584 0 L.length) 1583 3 (nI L.length)) 1584 i = _
        rw [rd_c (by decide), rd_cp, if_pos ⟨rfl, Nat.zero_le _, by omega⟩, Nat.sub_zero, Nat.zero_add]
        exact L2.2 i hi
      · have k := K2 cc j (fun z => hne (Or.inl z))
        constructor
        · show rd (wr (cpM M2 1585 0 1584 0 L.length) 1583 3 (nI L.length)) cc j = _
          rw [rd_wr, if_neg (fun z => hne (Or.inr (Or.inl z))), rd_cp, if_neg (fun z => hne (Or.inr (Or.inr z.1)))]
          exact k.1
        · exact k.2
