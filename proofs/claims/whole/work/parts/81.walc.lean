/-! MATHEMATICS 51: a walk taken, both sides -/
def RKe (o : TRs WU) (M : Mem) (z : Int32 × Mem) : Prop := match o with
  | .inl e => z.1 = nI e.1 - 10 ∧ rd z.2 0 3 = nI e.2 ∧ 1 ≤ e.1 ∧ e.1 ≤ 3 ∧ e.2 ≤ 600 ∧ Kp (fun c j => c = 0 ∧ j = 3) M z.2
  | .inr w => z.1 = nI w.1 ∧ rd z.2 0 3 = -1 ∧ RK w z.2 ∧ Kp (fun c j => (c = 0 ∧ (j = 3 ∨ j = 35)) ∨ c = 17) M z.2
theorem r_wk128 {tb : Nat → Nat} {n : Nat} {o : TRs WU} {x : Int32} {M : Mem} (h : RWk tb n o x M) : P_12_walk_128 x M ∧ RKe o M (F_12_walk_128 x M) := by
  rw [P_12_walk_128, F_12_walk_128]
  cases o with
  | inl e =>
    obtain ⟨hE, _⟩ : RE e M ∧ TxE tb n M := h
    rw [if_neg hE.ne, F_12_ends2_0, F_12_walk_139]
    refine ⟨⟨fun z => absurd z hE.ne, fun _ => trivial⟩, ?_, ?_, hE.2.2.1, hE.2.2.2.1, hE.2.2.2.2, Kp.rf.w ⟨rfl, rfl⟩⟩
    · show rd (wr M 0 3 (rd M 0 6)) 0 5 - 10 = nI e.1 - 10
      rw [rd_i (by decide), hE.1]
    · show rd (wr M 0 3 (rd M 0 6)) 0 3 = nI e.2
      rw [rd_s, hE.2.1]
  | inr w =>
    obtain ⟨rfl, h5, hw⟩ : x = nI w.1 ∧ rd M 0 5 = 0 ∧ RKd w M := h
    rw [if_pos h5]
    have w12 := hw.1.1
    have eW : ∀ i, i ≤ w.1 → ((nI w.1 ≤ nI i) ↔ w.1 ≤ i) := fun i hi => nI_leI (by omega) (by omega)
    have K0 : Kp (fun c j => (c = 0 ∧ (j = 3 ∨ j = 35)) ∨ c = 17) M (wr (wr M 0 3 (-1)) 0 35 (nI w.1)) := (Kp.rf.w (by omega)).w (by omega)
    have a3 : rd (wr (wr M 0 3 (-1)) 0 35 (nI w.1)) 0 3 = -1 := by rw [rd_i (by decide), rd_s]
    have a35 : rd (wr (wr M 0 3 (-1)) 0 35 (nI w.1)) 0 35 = nI w.1 := rd_s _ _ _ _
    generalize wr (wr M 0 3 (-1)) 0 35 (nI w.1) = M1 at *
    suffices hs : P_12_walk_152 FU (nI w.1) (nI 0) M1 ∧ RKe (.inr w) M (F_12_walk_152 FU (nI w.1) (nI 0) M1) from ⟨⟨fun _ => hs.1, fun z => absurd h5 z⟩, hs.2⟩
    refine lq (S := Mem) (F := fun n i q => F_12_walk_152 n (nI w.1) i q) (P := fun n i q => P_12_walk_152 n (nI w.1) i q) (Q := RKe (.inr w) M) (w.1) (fun i q => Kp (fun c j => (c = 0 ∧ (j = 3 ∨ j = 35)) ∨ c = 17) M q ∧ rd q 0 3 = -1 ∧ rd q 0 35 = nI w.1 ∧ (∀ j, j < i → rd q 17 j = nI (w.2 j))) ?_ ?_ FU 0 M1 ⟨K0, a3, a35, fun j h => by omega⟩ (Nat.zero_le _) (FU_ge (by omega))
    · intro n i q hi hI ih
      obtain ⟨k1, k2, k3, k4⟩ := hI
      have v1 : vp_in (nI i) 12 := (vp_iff (by omega)).mpr (by omega)
      have c1 : ¬ w.1 ≤ i := by omega
      have e18 : rd q 18 i = nI (w.2 i) := by rw [k1.g (by omega)]; exact hw.2 i hi
      have hg := ih (wr q 17 i (nI (w.2 i))) ⟨k1.w (Or.inr rfl), by rw [rd_c (by decide)]; exact k2, by rw [rd_c (by decide)]; exact k3, fun j hj => by
        by_cases e : j = i
        · rw [e, rd_s]
        · rw [rd_i e]; exact k4 j (by omega)⟩
      rw [P_12_walk_152, F_12_walk_152, nI_clamp (n := i) (by omega), e18]
      simp only [eW i (by omega), c1, v1, if_true, if_false, true_imp_iff, false_imp_iff, not_true_eq_false, not_false_eq_true, true_and, and_true, implies_true, reduceIte]
      exact hg
    · intro n q hI
      obtain ⟨k1, k2, k3, k4⟩ := hI
      rw [P_12_walk_152, F_12_walk_152]
      simp only [eW w.1 (by omega), Nat.le_refl, if_true, if_false, true_imp_iff, false_imp_iff, not_true_eq_false, not_false_eq_true, true_and, and_true, implies_true, reduceIte]
      exact ⟨rfl, k2, ⟨hw.1, k3, k4⟩, k1⟩
/-! the class -/
def CKd (w : WU) (M : Mem) : Prop := WW w ∧ ∀ i, i < w.1 → rd M 1594 i = nI (w.2 i)
def cK (c j : Nat) : Prop := (c = 1560 ∧ 2 ≤ j ∧ j ≤ 7) ∨ c = 1594 ∨ c = 1593 ∨ (c = 1592 ∧ j = 7)
theorem CKd.t {w : WU} {M M' : Mem} (h : CKd w M) (hk : Kp cT M M') : CKd w M' := ⟨h.1, fun i hi => by rw [hk.g (by unfold cT; omega)]; exact h.2 i hi⟩
theorem Kp.tcK {M M' : Mem} (h : Kp cT M M') : Kp cK M M' := h.mono (fun c j z => by unfold cT at z; unfold cK; omega)
def CWk (o : TRs WU) (M : Mem) (z : Int32 × Mem) : Prop := match o with
  | .inl e => z.1 = 0 ∧ CErr e z.2 ∧ Kp (fun c j => (c = 1560 ∧ 2 ≤ j ∧ j ≤ 7) ∨ c = 1594) M z.2
  | .inr w => z.1 = 1 ∧ CK w z.2 ∧ Kp cK M z.2
theorem ck12 : (12 : Int32).toNatClampNeg = 12 := by decide
theorem c_wk {tb : Nat → Nat} {n : Nat} {M0 : Mem} : ∀ (k p : Nat) (w : WU) (M : Mem), CT tb n p M → CKd w M → w.1 + k = 13 → 0 < k → Kp (fun c j => (c = 1560 ∧ 2 ≤ j ∧ j ≤ 7) ∨ c = 1594) M0 M → ∀ f, k < f → P_9_read_4 f (nI w.1) (nI w.1) M ∧ CWk (wkA tb n k w p) M0 (F_9_read_4 f (nI w.1) (nI w.1) M) := by
  intro k
  induction k with
  | zero => intro p w M _ _ _ h; omega
  | succ k ih =>
    intro p w M h hw hck _ hK f hf
    obtain ⟨f, rfl⟩ : ∃ g, f = g + 1 := ⟨f - 1, by omega⟩
    obtain ⟨a1, M1, a2, a3, a4, a5⟩ := c_atEnd h
    have tK : ∀ {X Y : Mem}, Kp cT X Y → Kp (fun c j => (c = 1560 ∧ 2 ≤ j ∧ j ≤ 7) ∨ c = 1594) X Y := fun z => z.mono (fun c j y => by unfold cT at y; omega)
    have w1 := hw.t a5
    have K1 := hK.tr (tK a5)
    have w12 := hw.1.1
    have e1 : ¬ (12 : Int32) < nI w.1 := by
      show ¬ nI 12 < nI w.1
      rw [nI_ltI (by omega) (by omega)]
      omega
    have e2 : (nI w.1 < 12) ↔ ¬ w.1 = 12 := by
      show (nI w.1 < nI 12) ↔ _
      rw [nI_ltI (by omega) (by omega)]
      omega
    rw [P_9_read_4, F_9_read_4, if_neg e1, a2, wkA]
    suffices hs : P_9_read_14 (P_9_read_4 f) (nI w.1) (nI w.1) (if skT tb n p < n then 0 else 1) M1 ∧ CWk (if skT tb n p < n then bnd (tkN tb n p 0 8) (fun x => if w.1 = 12 then .inl (3, skT tb n p) else bnd (tkS 59 tb n x.2) (fun p2 => wkA tb n k (w.1 + 1, up w.2 w.1 x.1) p2)) else .inr w) M0 (F_9_read_14 (F_9_read_4 f) (nI w.1) (nI w.1) (if skT tb n p < n then 0 else 1) M1) from ⟨⟨fun z => absurd z e1, fun _ => ⟨a1, hs.1⟩⟩, hs.2⟩
    rw [P_9_read_14, F_9_read_14]
    by_cases cs : skT tb n p < n
    · rw [if_pos cs, if_pos cs, if_pos rfl]
      obtain ⟨b1, b2, b3, b4⟩ := c_needsNumber (xh := 7) (hi := 8) a3 (fun v hv => nn_c (hi := 7) (by omega) hv)
      rw [tkN_sk h.2.2] at b3 b4
      rw [sk_sk h.2.2] at b4
      have w2 := w1.t b2
      have K2 := K1.tr (tK b2)
      generalize F_5_needsNumber_0 7 M1 = z at *
      obtain ⟨x, M2⟩ := z
      suffices hs : P_9_read_23 (P_9_read_4 f) (nI w.1) (nI w.1) x M2 ∧ CWk (bnd (tkN tb n p 0 8) (fun x => if w.1 = 12 then .inl (3, skT tb n p) else bnd (tkS 59 tb n x.2) (fun p2 => wkA tb n k (w.1 + 1, up w.2 w.1 x.1) p2))) M0 (F_9_read_23 (F_9_read_4 f) (nI w.1) (nI w.1) x M2) from ⟨⟨fun z => absurd rfl z, fun _ => ⟨b1, hs.1⟩⟩, hs.2⟩
      rw [P_9_read_23, F_9_read_23]
      cases o : tkN tb n p 0 8 with
      | inl e =>
        rw [o] at b3
        have b3' : x = 0 ∧ CErr e M2 := b3
        rw [if_pos b3'.1]
        exact ⟨⟨fun z => absurd b3'.1 z, fun _ => trivial⟩, rfl, b3'.2, K2⟩
      | inr y =>
        obtain ⟨v, p1⟩ := y
        rw [o] at b3
        have b3' : x = 1 ∧ CT tb n p1 M2 := b3
        obtain ⟨b5, b6⟩ := b4 v p1 o
        have b5' : rd M2 1560 5 = nI v := b5
        have b6' : rd M2 1560 4 = nI (skT tb n p) := b6
        have hv := tkN_b o
        rw [if_neg (x1 b3'.1), b5', b6']
        simp only [e2]
        show _ ∧ CWk (if w.1 = 12 then .inl (3, skT tb n p) else bnd (tkS 59 tb n p1) (fun p2 => wkA tb n k (w.1 + 1, up w.2 w.1 v) p2)) M0 _
        by_cases c12 : w.1 = 12
        · obtain ⟨M3, z1, z2, z3⟩ := c_fail (M := M2) (k := 3) (q := skT tb n p)
          have z1' : F_5_fail_0 3 (nI (skT tb n p)) M2 = (0, M3) := z1
          rw [if_pos c12, if_neg (show ¬ ¬ w.1 = 12 from fun z => z c12), z1', P_9_read_43, F_9_read_43]
          exact ⟨⟨fun _ => ⟨fun z => absurd c12 z, fun _ => nar_b (Or.inl rfl)⟩, fun z => absurd z (x1 b3'.1)⟩, rfl, z2, K2.tr (tK z3)⟩
        · rw [if_neg c12, if_pos c12, nI_clamp (n := w.1) (by omega), nI_1]
          have v12 : vp_in (nI w.1) 12 := (vp_iff (by omega)).mpr (by omega)
          have K3 : Kp (fun c (j : Nat) => c = 1594) M2 (wr M2 1594 w.1 (nI v)) := Kp.rf.w rfl
          have T3 : CT tb n p1 (wr M2 1594 w.1 (nI v)) := ⟨b3'.2.1.k K3 (fun c j z => by omega), by rw [rd_c (by decide)]; exact b3'.2.2.1, b3'.2.2.2⟩
          have w3 : CKd (w.1 + 1, up w.2 w.1 v) (wr M2 1594 w.1 (nI v)) := ⟨hw.1.s (by omega) hv.2.1, fun i hi => by
            have hi' : i < w.1 + 1 := hi
            show rd (wr M2 1594 w.1 (nI v)) 1594 i = nI (up w.2 w.1 v i)
            by_cases e : i = w.1
            · rw [e, rd_s, up_s]
            · rw [rd_i e, up_o e]; exact w2.2 i (by omega)⟩
          have K3' : Kp (fun c j => (c = 1560 ∧ 2 ≤ j ∧ j ≤ 7) ∨ c = 1594) M0 (wr M2 1594 w.1 (nI v)) := K2.tr (K3.mono (fun c j z => Or.inr z))
          generalize wr M2 1594 w.1 (nI v) = M3 at *
          obtain ⟨c1, c2, c3⟩ := c_needs (c := 59) T3 (by omega)
          have c1' : P_5_needs_0 59 M3 := c1
          have eF : F_5_needs_0 (nI 59) M3 = F_5_needs_0 59 M3 := rfl
          rw [eF] at c2 c3
          have w4 := w3.t c3
          have K4 := K3'.tr (tK c3)
          generalize F_5_needs_0 59 M3 = z at *
          obtain ⟨y, M4⟩ := z
          suffices hs : P_9_read_63 (P_9_read_4 f) (nI (w.1 + 1)) (nI w.1) y M4 ∧ CWk (bnd (tkS 59 tb n p1) (fun p2 => wkA tb n k (w.1 + 1, up w.2 w.1 v) p2)) M0 (F_9_read_63 (F_9_read_4 f) (nI (w.1 + 1)) (nI w.1) y M4) from ⟨⟨fun _ => ⟨fun _ => ⟨v12, c1', hs.1⟩, fun z => absurd c12 z⟩, fun z => absurd z (x1 b3'.1)⟩, hs.2⟩
          rw [P_9_read_63, F_9_read_63, nI_1]
          cases o2 : tkS 59 tb n p1 with
          | inl e =>
            rw [o2] at c2
            have c2' : y = 0 ∧ CErr e M4 := c2
            rw [if_pos c2'.1]
            exact ⟨⟨fun z => absurd c2'.1 z, fun _ => trivial⟩, rfl, c2'.2, K4⟩
          | inr p2 =>
            rw [o2] at c2
            have c2' : y = 1 ∧ CT tb n p2 M4 := c2
            obtain ⟨i1, i2⟩ := ih p2 (w.1 + 1, up w.2 w.1 v) M4 c2'.2 w4 (by show w.1 + 1 + k = 13; omega) (by omega) K4 f (by omega)
            rw [if_neg (x1 c2'.1)]
            exact ⟨⟨fun _ => i1, fun z => absurd z (x1 c2'.1)⟩, i2⟩
    · rw [if_neg cs, if_neg cs, if_neg one_ne, F_9_read_74, cl0, ck12]
      have K2 : Kp cK M0 M1 := K1.mono (fun c j z => by unfold cK; omega)
      refine ⟨⟨fun _ => trivial, fun z => absurd z one_ne⟩, rfl, ⟨hw.1, rd_s _ _ _ _, fun j hj => ?_⟩, (Kp.cp K2 (fun j => Or.inr (Or.inr (Or.inl rfl)))).w (Or.inr (Or.inr (Or.inr ⟨rfl, rfl⟩)))⟩
      show rd (wr (cpM M1 1594 0 1593 0 12) 1592 7 (nI w.1)) 1593 j = _
      rw [rd_c (by decide), rd_cp, if_pos ⟨rfl, Nat.zero_le _, by omega⟩, Nat.sub_zero, Nat.zero_add]
      exact w1.2 j hj
