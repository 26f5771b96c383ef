/-! MATHEMATICS 42: the reference's sum -/
theorem r_sumL {tb : Nat → Nat} {n o : Nat} {rF : Mem → Mem} {rP : Mem → Prop} {one : Nat → TRs LwP} (hn : n ≤ 150) (ho : RSp tb n (F_12_product_0 rF) (P_12_product_0 rF rP) o one) (hG : ∀ p, p ≤ n → ∃ B, GD B p n (one p)) {A : List Int32} : ∀ (k : Nat) (C : List Int32) (p : Nat) (M : Mem), RT tb n p M → RLw (A ++ C) M → rd M 0 8 = nI o → (A ++ C).length ≤ p → n - p < k → ∀ f, k ≤ f → P_12_sum_4 rF rP f M ∧ ∃ M', F_12_sum_4 rF f M = M' ∧ RLo tb n A o (lLp tb n (opS2 tb n) one k C p) M' ∧ Kp rL M M' := by
  intro k
  induction k with
  | zero => intro C p M _ _ _ _ h; omega
  | succ k ih =>
    intro C p M h hL h8 hA hk f hf
    obtain ⟨f, rfl⟩ : ∃ g, f = g + 1 := ⟨f - 1, by omega⟩
    have hpn := h.2.2.1
    have hb := sk_b (tb := tb) hpn
    have hq : skT tb n (skT tb n p) = skT tb n p := sk_sk hpn
    obtain ⟨a1, M1, a2, a3, a3', a4⟩ := r_tsp (c := 43) h (by omega)
    have L1 := hL.t4 (by omega) a4
    have s1 : rd M1 0 8 = nI o := by rw [a4.g (by unfold r4; omega)]; exact h8
    rw [lLp, P_12_sum_4, F_12_sum_4, if_pos h.2.2.2]
    have a1' : P_12_takesSign_0 43 M := a1
    have a2' : F_12_takesSign_0 43 M = _ := a2
    rw [a2']
    unfold opS2
    generalize skT tb n p = q at *
    -- a step
    have step : ∀ (x c : Int32) (M2 : Mem), prC c = (x, 0) → ¬ x = -1 → RT tb n (q + 1) M2 → RLw (A ++ C) M2 → rd M2 0 8 = nI o → q < n → P_12_sum_38 rF rP (P_12_sum_4 rF rP f) x M2 ∧ ∃ M', F_12_sum_38 rF (F_12_sum_4 rF f) x M2 = M' ∧ RLo tb n A o (bnd (one (q + 1)) (fun d => lLp tb n (opS2 tb n) one k (C ++ d.1 ++ [c]) d.2)) M' ∧ Kp rL M2 M' := by
      intro x c M2 hc hx T2 L2 s2 hqn
      obtain ⟨d1, M3, d2, d3, d4⟩ := ho.2 (A ++ C) (q + 1) M2 T2 L2 s2 (by omega)
      obtain ⟨B, g⟩ := hG (q + 1) (by omega)
      rw [P_12_sum_38, F_12_sum_38, if_neg hx, d2]
      cases o2 : one (q + 1) with
      | inl e =>
        rw [o2] at d3
        have d3' : RE e M3 ∧ TxE tb n M3 := d3
        obtain ⟨z1, z2⟩ := r_notesN (x := x) (y := 0) d3'.1.ne
        obtain ⟨g', rfl⟩ : ∃ g', f = g' + 1 := ⟨f - 1, by omega⟩
        rw [P_12_sum_49, F_12_sum_49, z2, P_12_sum_55, F_12_sum_55, P_12_sum_4, F_12_sum_4, if_neg d3'.1.ne]
        exact ⟨⟨fun _ => ⟨d1, z1, fun _ => trivial, fun z => absurd z d3'.1.ne⟩, fun z => absurd z hx⟩, M3, rfl, d3', d4⟩
      | inr d =>
        obtain ⟨D, p'⟩ := d
        rw [o2] at d3 g
        obtain ⟨T3, L3, s3⟩ : RT tb n p' M3 ∧ RLw (A ++ C ++ D) M3 ∧ rd M3 0 8 = nI o := d3
        obtain ⟨g1, g2, g3, _⟩ : 1 ≤ D.length ∧ D.length + (q + 1) ≤ p' ∧ p' ≤ n ∧ OKC D B := g
        have lD : (A ++ C ++ D).length = (A ++ C).length + D.length := List.length_append
        obtain ⟨z1, M4, z2, z3, z4⟩ := r_notes (c := c) L3 T3.2.2.2 (by omega) hc
        have eC : A ++ C ++ D ++ [c] = A ++ (C ++ D ++ [c]) := by simp only [List.append_assoc]
        have lE : (A ++ C ++ D ++ [c]).length = (A ++ C).length + D.length + 1 := by rw [List.length_append, lD]; rfl
        rw [eC] at z3 lE
        obtain ⟨i1, M', i2, i3, i4⟩ := ih (C ++ D ++ [c]) p' M4 (T3.n z4) z3 (by rw [z4.g (by unfold rN; omega)]; exact s3) (by omega) (by omega) f (by omega)
        rw [P_12_sum_49, F_12_sum_49, z2, P_12_sum_55, F_12_sum_55]
        exact ⟨⟨fun _ => ⟨d1, z1, i1⟩, fun z => absurd z hx⟩, M', i2, i3, (d4.tr z4.nL).tr i4⟩
    by_cases k1 : q < n ∧ tb q = 43
    · obtain ⟨z1, M', z2, z3, z4⟩ := step 2 (-11) M1 (by decide) (by decide) (a3 k1) L1 s1 k1.1
      rw [if_pos k1, if_pos k1, P_12_sum_17, F_12_sum_17, if_neg one_ne]
      exact ⟨⟨fun z => absurd h.2.2.2 z, fun _ => ⟨a1', fun z => absurd z one_ne, fun _ => z1⟩⟩, M', z2, z3, a4.t4L.tr z4⟩
    rw [if_neg k1, if_neg k1, P_12_sum_17, F_12_sum_17, if_pos rfl]
    obtain ⟨b1, M2, b2, b3, b3', b4⟩ := r_tsq (c := 45) (a3' k1) hq (by omega)
    have L2 := L1.t4 (by omega) b4
    have s2 : rd M2 0 8 = nI o := by rw [b4.g (by unfold r4; omega)]; exact s1
    have K2 := a4.t4L.tr b4.t4L
    have b1' : P_12_takesSign_0 45 M1 := b1
    have b2' : F_12_takesSign_0 45 M1 = _ := b2
    rw [b2']
    by_cases k2 : q < n ∧ tb q = 45
    · obtain ⟨z1, M', z2, z3, z4⟩ := step 3 (-12) M2 (by decide) (by decide) (b3 k2) L2 s2 k2.1
      rw [if_pos k2, if_pos k2, P_12_sum_30, F_12_sum_30, if_neg one_ne]
      exact ⟨⟨fun z => absurd h.2.2.2 z, fun _ => ⟨a1', fun _ => ⟨b1', fun z => absurd z one_ne, fun _ => z1⟩, fun z => absurd rfl z⟩⟩, M', z2, z3, K2.tr z4⟩
    rw [if_neg k2, if_neg k2, P_12_sum_30, F_12_sum_30, if_pos rfl, P_12_sum_38, F_12_sum_38, if_pos rfl]
    exact ⟨⟨fun z => absurd h.2.2.2 z, fun _ => ⟨a1', fun _ => ⟨b1', fun _ => ⟨fun z => absurd rfl z, fun _ => trivial⟩, fun z => absurd rfl z⟩, fun z => absurd rfl z⟩⟩, M2, rfl, ⟨b3' k2, L2, s2⟩, K2⟩
theorem r_sm {tb : Nat → Nat} {n o : Nat} {rF : Mem → Mem} {rP : Mem → Prop} {one : Nat → TRs LwP} (hn : n ≤ 150) (ho : RSp tb n (F_12_product_0 rF) (P_12_product_0 rF rP) o one) (hG : ∀ p, p ≤ n → ∃ B, GD B p n (one p)) : RSp tb n (F_12_sum_0 rF) (P_12_sum_0 rF rP) o (lMany tb n (opS2 tb n) one) := by
  have hFU : FU = 6999 + 1 := rfl
  refine ⟨fun M h => ?_, fun A p M h hL h8 hA => ?_⟩
  · obtain ⟨z1, z2⟩ := ho.1 M h
    rw [P_12_sum_0, F_12_sum_0, z2, hFU, P_12_sum_4, F_12_sum_4, if_neg h]
    exact ⟨⟨z1, fun _ => trivial, fun z => absurd z h⟩, rfl⟩
  obtain ⟨d1, M3, d2, d3, d4⟩ := ho.2 A p M h hL h8 hA
  obtain ⟨B, g⟩ := hG p h.2.2.1
  rw [P_12_sum_0, F_12_sum_0, d2]
  unfold lMany
  cases o2 : one p with
  | inl e =>
    rw [o2] at d3
    have d3' : RE e M3 ∧ TxE tb n M3 := d3
    rw [hFU, P_12_sum_4, F_12_sum_4, if_neg d3'.1.ne]
    exact ⟨⟨d1, fun _ => trivial, fun z => absurd z d3'.1.ne⟩, M3, rfl, d3', d4⟩
  | inr d =>
    obtain ⟨D, p'⟩ := d
    rw [o2] at d3 g
    obtain ⟨T3, L3, s3⟩ : RT tb n p' M3 ∧ RLw (A ++ D) M3 ∧ rd M3 0 8 = nI o := d3
    obtain ⟨g1, g2, g3, _⟩ : 1 ≤ D.length ∧ D.length + p ≤ p' ∧ p' ≤ n ∧ OKC D B := g
    have lD : (A ++ D).length = A.length + D.length := List.length_append
    obtain ⟨z1, M', z2, z3, z4⟩ := r_sumL hn ho hG (A := A) (n + 1 - p') D p' M3 T3 L3 s3 (by omega) (by omega) FU (by unfold FU; omega)
    exact ⟨⟨d1, z1⟩, M', z2, z3, d4.tr z4⟩
theorem r_sum {tb : Nat → Nat} {n : Nat} (hn : n ≤ 150) : ∀ (k o : Nat), o ≤ 6 → 6 < o + k → RSp tb n (G_12_sum k) (H_12_sum k) o (lSum tb n k o) := by
  intro k
  induction k with
  | zero => intro o h1 h2; omega
  | succ k ih =>
    intro o ho hk
    have hr : RcG tb n (G_12_sum k) (H_12_sum k) (lSum tb n k) o := fun h => ⟨ih (o + 1) (by omega) (by omega), fun p hp => ⟨_, gd_sum k (o + 1) p (by omega) (by omega) hp⟩⟩
    have hone := r_one hn ho hr
    have gone : ∀ p, p ≤ n → ∃ B, GD B p n (lOne tb n (lSum tb n k) o p) := by
      intro p hp
      by_cases c6 : o = 6
      · exact ⟨_, gd_one (B := 1) hp (fun z => by omega) ho (Nat.le_refl _)⟩
      · exact ⟨_, gd_one (B := 4 + 3 * (6 - (o + 1))) hp (fun _ p hp => gd_sum k (o + 1) p (by omega) (by omega) hp) ho (by omega)⟩
    have gprd : ∀ p, p ≤ n → ∃ B, GD B p n (lPrd tb n (lSum tb n k) o p) := by
      intro p hp
      by_cases c6 : o = 6
      · exact ⟨_, gd_many hopP (fun p hp => gd_one (B := 1) hp (fun z => by omega) ho (Nat.le_refl _)) hp⟩
      · exact ⟨_, gd_many hopP (fun p hp => gd_one (B := 4 + 3 * (6 - (o + 1))) hp (fun _ p hp => gd_sum k (o + 1) p (by omega) (by omega) hp) ho (by omega)) hp⟩
    have hprd : RSp tb n (F_12_product_0 (G_12_sum k)) (P_12_product_0 (G_12_sum k) (H_12_sum k)) o (lPrd tb n (lSum tb n k) o) := r_product hn hone gone
    have hsm := r_sm hn hprd gprd
    refine ⟨fun M h => ?_, fun A p M h hL h8 hA => ?_⟩
    · rw [H_12_sum, G_12_sum]; exact hsm.1 M h
    · rw [H_12_sum, G_12_sum, lSum]; exact hsm.2 A p M h hL h8 hA
