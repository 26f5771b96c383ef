/-! MATHEMATICS 45: the class's products and sums -/
theorem c_prodL {tb : Nat → Nat} {n o : Nat} {rF : Int32 → Mem → Int32 × Mem} {rP : Int32 → Mem → Prop} {one : Nat → TRs LwP} (hn : n ≤ 150) (ho : CSp tb n (F_2_readUnit_0 rF (nI o)) (P_2_readUnit_0 rF rP (nI o)) one) (hG : ∀ p, p ≤ n → ∃ B, GD B p n (one p)) {A : List Int32} : ∀ (k : Nat) (C : List Int32) (p i : Nat) (M : Mem), CT tb n p M → CLw (A ++ C) M → (A ++ C).length ≤ p → i < p → n - p < k → ∀ f, k ≤ f → P_2_readProduct_13 rF rP f (nI o) (nI i) M ∧ CLo tb n A (lLp tb n (opP tb n) one k C p) (F_2_readProduct_13 rF f (nI o) (nI i) M) ∧ Kp cLw M (F_2_readProduct_13 rF f (nI o) (nI i) M).2 := by
  intro k
  induction k with
  | zero => intro C p i M _ _ _ _ h; omega
  | succ k ih =>
    intro C p i M h hL hA hi hk f hf
    obtain ⟨f, rfl⟩ : ∃ g, f = g + 1 := ⟨f - 1, by omega⟩
    have hpn := h.2.2
    have hb := sk_b (tb := tb) hpn
    have hq : skT tb n (skT tb n p) = skT tb n p := sk_sk hpn
    obtain ⟨a1, M1, a2, a3, a4⟩ := c_takes (c := 42) h (by omega)
    have L1 := hL.t a4
    have e1 : ¬ (150 : Int32) ≤ nI i := by
      show ¬ nI 150 ≤ nI i
      rw [nI_leI (by omega) (by omega)]
      omega
    have a1' : P_5_takes_0 42 M := a1
    have a2' : F_5_takes_0 42 M = _ := a2
    rw [lLp, P_2_readProduct_13, F_2_readProduct_13, if_neg e1, a2']
    unfold opP
    generalize skT tb n p = q at *
    have step : ∀ (c : Int32) (M2 : Mem), ¬ c = -16 → CT tb n (q + 1) M2 → CLw (A ++ C) M2 → q < n → P_2_readProduct_64 rF rP (P_2_readProduct_13 rF rP f) (nI o) (nI i) c M2 ∧ CLo tb n A (bnd (one (q + 1)) (fun d => lLp tb n (opP tb n) one k (C ++ d.1 ++ [c]) d.2)) (F_2_readProduct_64 rF (F_2_readProduct_13 rF f) (nI o) (nI i) c M2) ∧ Kp cLw M2 (F_2_readProduct_64 rF (F_2_readProduct_13 rF f) (nI o) (nI i) c M2).2 := by
      intro c M2 hc T2 L2 hqn
      obtain ⟨d1, d3, d4⟩ := ho (A ++ C) (q + 1) M2 T2 L2 (by omega)
      obtain ⟨B, g⟩ := hG (q + 1) (by omega)
      rw [P_2_readProduct_64, F_2_readProduct_64, if_neg hc]
      generalize F_2_readUnit_0 rF (nI o) M2 = z at *
      obtain ⟨x, M3⟩ := z
      suffices hs : P_2_readProduct_81 rF rP (P_2_readProduct_13 rF rP f) (nI o) (nI i) c x M3 ∧ CLo tb n A (bnd (one (q + 1)) (fun d => lLp tb n (opP tb n) one k (C ++ d.1 ++ [c]) d.2)) (F_2_readProduct_81 rF (F_2_readProduct_13 rF f) (nI o) (nI i) c x M3) ∧ Kp cLw M3 (F_2_readProduct_81 rF (F_2_readProduct_13 rF f) (nI o) (nI i) c x M3).2 from ⟨⟨fun _ => ⟨d1, hs.1⟩, fun z => absurd z hc⟩, hs.2.1, Kp.tr d4 hs.2.2⟩
      rw [P_2_readProduct_81, F_2_readProduct_81]
      cases o2 : one (q + 1) with
      | inl e =>
        rw [o2] at d3
        have d3' : x = 0 ∧ CErr e M3 := d3
        rw [if_pos d3'.1]
        exact ⟨⟨fun z => absurd d3'.1 z, fun _ => trivial⟩, ⟨rfl, d3'.2⟩, Kp.rf⟩
      | inr d =>
        obtain ⟨D, p'⟩ := d
        rw [o2] at d3 g
        obtain ⟨x1', T3, L3⟩ : x = 1 ∧ CT tb n p' M3 ∧ CLw (A ++ C ++ D) M3 := d3
        obtain ⟨g1, g2, g3, _⟩ : 1 ≤ D.length ∧ D.length + (q + 1) ≤ p' ∧ p' ≤ n ∧ OKC D B := g
        have lD : (A ++ C ++ D).length = (A ++ C).length + D.length := List.length_append
        obtain ⟨z1, z3, z4⟩ := c_put (c := c) L3 (by omega)
        have eC : A ++ C ++ D ++ [c] = A ++ (C ++ D ++ [c]) := by simp only [List.append_assoc]
        have lE : (A ++ C ++ D ++ [c]).length = (A ++ C).length + D.length + 1 := by rw [List.length_append, lD]; rfl
        rw [eC] at z3 lE
        obtain ⟨i1, i2, i3⟩ := ih (C ++ D ++ [c]) p' (i + 1) (F_2_put_0 c M3) (T3.p z4) z3 (by omega) (by omega) (by omega) f (by omega)
        rw [if_neg (x1 x1'), P_2_readProduct_92, F_2_readProduct_92, nI_1]
        exact ⟨⟨fun _ => ⟨z1, i1⟩, fun z => absurd z (x1 x1')⟩, i2, z4.pcL.tr i3⟩
    by_cases k1 : q < n ∧ tb q = 42
    · rw [if_pos k1] at a3
      obtain ⟨z1, z2, z3⟩ := step (-13) M1 (by decide) a3 L1 k1.1
      rw [if_pos k1, if_pos k1, P_2_readProduct_26, F_2_readProduct_26, if_neg one_ne]
      exact ⟨⟨fun z => absurd z e1, fun _ => ⟨a1', fun z => absurd z one_ne, fun _ => z1⟩⟩, z2, a4.tcL.tr z3⟩
    rw [if_neg k1] at a3
    rw [if_neg k1, if_neg k1, P_2_readProduct_26, F_2_readProduct_26, if_pos rfl]
    obtain ⟨b1, M2, b2, b3, b4⟩ := c_takes (c := 47) a3 (by omega)
    rw [hq] at b2 b3
    have L2 := L1.t b4
    have K2 := a4.tcL.tr b4.tcL
    have b1' : P_5_takes_0 47 M1 := b1
    have b2' : F_5_takes_0 47 M1 = _ := b2
    rw [b2']
    by_cases k2 : q < n ∧ tb q = 47
    · rw [if_pos k2] at b3
      obtain ⟨z1, z2, z3⟩ := step (-14) M2 (by decide) b3 L2 k2.1
      rw [if_pos k2, if_pos k2, P_2_readProduct_40, F_2_readProduct_40, if_neg one_ne]
      exact ⟨⟨fun z => absurd z e1, fun _ => ⟨a1', fun _ => ⟨b1', fun z => absurd z one_ne, fun _ => z1⟩, fun z => absurd rfl z⟩⟩, z2, K2.tr z3⟩
    rw [if_neg k2] at b3
    rw [if_neg k2, if_neg k2, P_2_readProduct_40, F_2_readProduct_40, if_pos rfl]
    obtain ⟨c1, M3, c2, c3, c4⟩ := c_takes (c := 37) b3 (by omega)
    rw [hq] at c2 c3
    have L3 := L2.t c4
    have K3 := K2.tr c4.tcL
    have c1' : P_5_takes_0 37 M2 := c1
    have c2' : F_5_takes_0 37 M2 = _ := c2
    rw [c2']
    by_cases k3 : q < n ∧ tb q = 37
    · rw [if_pos k3] at c3
      obtain ⟨z1, z2, z3⟩ := step (-15) M3 (by decide) c3 L3 k3.1
      rw [if_pos k3, if_pos k3, P_2_readProduct_54, F_2_readProduct_54, if_neg one_ne]
      exact ⟨⟨fun z => absurd z e1, fun _ => ⟨a1', fun _ => ⟨b1', fun _ => ⟨c1', fun z => absurd z one_ne, fun _ => z1⟩, fun z => absurd rfl z⟩, fun z => absurd rfl z⟩⟩, z2, K3.tr z3⟩
    rw [if_neg k3] at c3
    rw [if_neg k3, if_neg k3, P_2_readProduct_54, F_2_readProduct_54, if_pos rfl, P_2_readProduct_64, F_2_readProduct_64, if_pos rfl]
    exact ⟨⟨fun z => absurd z e1, fun _ => ⟨a1', fun _ => ⟨b1', fun _ => ⟨c1', fun _ => ⟨fun z => absurd rfl z, fun _ => trivial⟩, fun z => absurd rfl z⟩, fun z => absurd rfl z⟩, fun z => absurd rfl z⟩⟩, ⟨rfl, c3, L3⟩, K3⟩
theorem c_product {tb : Nat → Nat} {n o : Nat} {rF : Int32 → Mem → Int32 × Mem} {rP : Int32 → Mem → Prop} {one : Nat → TRs LwP} (hn : n ≤ 150) (ho : CSp tb n (F_2_readUnit_0 rF (nI o)) (P_2_readUnit_0 rF rP (nI o)) one) (hG : ∀ p, p ≤ n → ∃ B, GD B p n (one p)) : CSp tb n (F_2_readProduct_0 rF (nI o)) (P_2_readProduct_0 rF rP (nI o)) (lMany tb n (opP tb n) one) := by
  intro A p M h hL hA
  obtain ⟨d1, d3, d4⟩ := ho A p M h hL hA
  obtain ⟨B, g⟩ := hG p h.2.2
  rw [P_2_readProduct_0, F_2_readProduct_0]
  unfold lMany
  generalize F_2_readUnit_0 rF (nI o) M = z at *
  obtain ⟨x, M3⟩ := z
  suffices hs : P_2_readProduct_6 rF rP (nI o) x M3 ∧ CLo tb n A (bnd (one p) (fun d => lLp tb n (opP tb n) one (n + 1 - d.2) d.1 d.2)) (F_2_readProduct_6 rF (nI o) x M3) ∧ Kp cLw M3 (F_2_readProduct_6 rF (nI o) x M3).2 from ⟨⟨d1, hs.1⟩, hs.2.1, Kp.tr d4 hs.2.2⟩
  rw [P_2_readProduct_6, F_2_readProduct_6]
  cases o2 : one p with
  | inl e =>
    rw [o2] at d3
    have d3' : x = 0 ∧ CErr e M3 := d3
    rw [if_pos d3'.1]
    exact ⟨⟨fun z => absurd d3'.1 z, fun _ => trivial⟩, ⟨rfl, d3'.2⟩, Kp.rf⟩
  | inr d =>
    obtain ⟨D, p'⟩ := d
    rw [o2] at d3 g
    obtain ⟨x1', T3, L3⟩ : x = 1 ∧ CT tb n p' M3 ∧ CLw (A ++ D) M3 := d3
    obtain ⟨g1, g2, g3, _⟩ : 1 ≤ D.length ∧ D.length + p ≤ p' ∧ p' ≤ n ∧ OKC D B := g
    have lD : (A ++ D).length = A.length + D.length := List.length_append
    obtain ⟨z1, z2, z3⟩ := c_prodL hn ho hG (A := A) (n + 1 - p') D p' 0 M3 T3 L3 (by omega) (by omega) (by omega) FU (by unfold FU; omega)
    rw [if_neg (x1 x1')]
    exact ⟨⟨fun _ => z1, fun z => absurd z (x1 x1')⟩, z2, z3⟩
theorem c_sumL {tb : Nat → Nat} {n o : Nat} {rF : Int32 → Mem → Int32 × Mem} {rP : Int32 → Mem → Prop} {one : Nat → TRs LwP} (hn : n ≤ 150) (ho : CSp tb n (F_2_readProduct_0 rF (nI o)) (P_2_readProduct_0 rF rP (nI o)) one) (hG : ∀ p, p ≤ n → ∃ B, GD B p n (one p)) {A : List Int32} : ∀ (k : Nat) (C : List Int32) (p i : Nat) (M : Mem), CT tb n p M → CLw (A ++ C) M → (A ++ C).length ≤ p → i < p → n - p < k → ∀ f, k ≤ f → P_2_readSum_13 rF rP f (nI o) (nI i) M ∧ CLo tb n A (lLp tb n (opS2 tb n) one k C p) (F_2_readSum_13 rF f (nI o) (nI i) M) ∧ Kp cLw M (F_2_readSum_13 rF f (nI o) (nI i) M).2 := by
  intro k
  induction k with
  | zero => intro C p i M _ _ _ _ h; omega
  | succ k ih =>
    intro C p i M h hL hA hi hk f hf
    obtain ⟨f, rfl⟩ : ∃ g, f = g + 1 := ⟨f - 1, by omega⟩
    have hpn := h.2.2
    have hb := sk_b (tb := tb) hpn
    have hq : skT tb n (skT tb n p) = skT tb n p := sk_sk hpn
    obtain ⟨a1, M1, a2, a3, a4⟩ := c_takes (c := 43) h (by omega)
    have L1 := hL.t a4
    have e1 : ¬ (150 : Int32) ≤ nI i := by
      show ¬ nI 150 ≤ nI i
      rw [nI_leI (by omega) (by omega)]
      omega
    have a1' : P_5_takes_0 43 M := a1
    have a2' : F_5_takes_0 43 M = _ := a2
    rw [lLp, P_2_readSum_13, F_2_readSum_13, if_neg e1, a2']
    unfold opS2
    generalize skT tb n p = q at *
    have step : ∀ (c : Int32) (M2 : Mem), ¬ c = -16 → CT tb n (q + 1) M2 → CLw (A ++ C) M2 → q < n → P_2_readSum_50 rF rP (P_2_readSum_13 rF rP f) (nI o) (nI i) c M2 ∧ CLo tb n A (bnd (one (q + 1)) (fun d => lLp tb n (opS2 tb n) one k (C ++ d.1 ++ [c]) d.2)) (F_2_readSum_50 rF (F_2_readSum_13 rF f) (nI o) (nI i) c M2) ∧ Kp cLw M2 (F_2_readSum_50 rF (F_2_readSum_13 rF f) (nI o) (nI i) c M2).2 := by
      intro c M2 hc T2 L2 hqn
      obtain ⟨d1, d3, d4⟩ := ho (A ++ C) (q + 1) M2 T2 L2 (by omega)
      obtain ⟨B, g⟩ := hG (q + 1) (by omega)
      rw [P_2_readSum_50, F_2_readSum_50, if_neg hc]
      generalize F_2_readProduct_0 rF (nI o) M2 = z at *
      obtain ⟨x, M3⟩ := z
      suffices hs : P_2_readSum_67 rF rP (P_2_readSum_13 rF rP f) (nI o) (nI i) c x M3 ∧ CLo tb n A (bnd (one (q + 1)) (fun d => lLp tb n (opS2 tb n) one k (C ++ d.1 ++ [c]) d.2)) (F_2_readSum_67 rF (F_2_readSum_13 rF f) (nI o) (nI i) c x M3) ∧ Kp cLw M3 (F_2_readSum_67 rF (F_2_readSum_13 rF f) (nI o) (nI i) c x M3).2 from ⟨⟨fun _ => ⟨d1, hs.1⟩, fun z => absurd z hc⟩, hs.2.1, Kp.tr d4 hs.2.2⟩
      rw [P_2_readSum_67, F_2_readSum_67]
      cases o2 : one (q + 1) with
      | inl e =>
        rw [o2] at d3
        have d3' : x = 0 ∧ CErr e M3 := d3
        rw [if_pos d3'.1]
        exact ⟨⟨fun z => absurd d3'.1 z, fun _ => trivial⟩, ⟨rfl, d3'.2⟩, Kp.rf⟩
      | inr d =>
        obtain ⟨D, p'⟩ := d
        rw [o2] at d3 g
        obtain ⟨x1', T3, L3⟩ : x = 1 ∧ CT tb n p' M3 ∧ CLw (A ++ C ++ D) M3 := d3
        obtain ⟨g1, g2, g3, _⟩ : 1 ≤ D.length ∧ D.length + (q + 1) ≤ p' ∧ p' ≤ n ∧ OKC D B := g
        have lD : (A ++ C ++ D).length = (A ++ C).length + D.length := List.length_append
        obtain ⟨z1, z3, z4⟩ := c_put (c := c) L3 (by omega)
        have eC : A ++ C ++ D ++ [c] = A ++ (C ++ D ++ [c]) := by simp only [List.append_assoc]
        have lE : (A ++ C ++ D ++ [c]).length = (A ++ C).length + D.length + 1 := by rw [List.length_append, lD]; rfl
        rw [eC] at z3 lE
        obtain ⟨i1, i2, i3⟩ := ih (C ++ D ++ [c]) p' (i + 1) (F_2_put_0 c M3) (T3.p z4) z3 (by omega) (by omega) (by omega) f (by omega)
        rw [if_neg (x1 x1'), P_2_readSum_78, F_2_readSum_78, nI_1]
        exact ⟨⟨fun _ => ⟨z1, i1⟩, fun z => absurd z (x1 x1')⟩, i2, z4.pcL.tr i3⟩
    by_cases k1 : q < n ∧ tb q = 43
    · rw [if_pos k1] at a3
      obtain ⟨z1, z2, z3⟩ := step (-11) M1 (by decide) a3 L1 k1.1
      rw [if_pos k1, if_pos k1, P_2_readSum_26, F_2_readSum_26, if_neg one_ne]
      exact ⟨⟨fun z => absurd z e1, fun _ => ⟨a1', fun z => absurd z one_ne, fun _ => z1⟩⟩, z2, a4.tcL.tr z3⟩
    rw [if_neg k1] at a3
    rw [if_neg k1, if_neg k1, P_2_readSum_26, F_2_readSum_26, if_pos rfl]
    obtain ⟨b1, M2, b2, b3, b4⟩ := c_takes (c := 45) a3 (by omega)
    rw [hq] at b2 b3
    have L2 := L1.t b4
    have K2 := a4.tcL.tr b4.tcL
    have b1' : P_5_takes_0 45 M1 := b1
    have b2' : F_5_takes_0 45 M1 = _ := b2
    rw [b2']
    by_cases k2 : q < n ∧ tb q = 45
    · rw [if_pos k2] at b3
      obtain ⟨z1, z2, z3⟩ := step (-12) M2 (by decide) b3 L2 k2.1
      rw [if_pos k2, if_pos k2, P_2_readSum_40, F_2_readSum_40, if_neg one_ne]
      exact ⟨⟨fun z => absurd z e1, fun _ => ⟨a1', fun _ => ⟨b1', fun z => absurd z one_ne, fun _ => z1⟩, fun z => absurd rfl z⟩⟩, z2, K2.tr z3⟩
    rw [if_neg k2] at b3
    rw [if_neg k2, if_neg k2, P_2_readSum_40, F_2_readSum_40, if_pos rfl, P_2_readSum_50, F_2_readSum_50, if_pos rfl]
    exact ⟨⟨fun z => absurd z e1, fun _ => ⟨a1', fun _ => ⟨b1', fun _ => ⟨fun z => absurd rfl z, fun _ => trivial⟩, fun z => absurd rfl z⟩, fun z => absurd rfl z⟩⟩, ⟨rfl, b3, L2⟩, K2⟩
theorem c_sm {tb : Nat → Nat} {n o : Nat} {rF : Int32 → Mem → Int32 × Mem} {rP : Int32 → Mem → Prop} {one : Nat → TRs LwP} (hn : n ≤ 150) (ho : CSp tb n (F_2_readProduct_0 rF (nI o)) (P_2_readProduct_0 rF rP (nI o)) one) (hG : ∀ p, p ≤ n → ∃ B, GD B p n (one p)) : CSp tb n (F_2_readSum_0 rF (nI o)) (P_2_readSum_0 rF rP (nI o)) (lMany tb n (opS2 tb n) one) := by
  intro A p M h hL hA
  obtain ⟨d1, d3, d4⟩ := ho A p M h hL hA
  obtain ⟨B, g⟩ := hG p h.2.2
  rw [P_2_readSum_0, F_2_readSum_0]
  unfold lMany
  generalize F_2_readProduct_0 rF (nI o) M = z at *
  obtain ⟨x, M3⟩ := z
  suffices hs : P_2_readSum_6 rF rP (nI o) x M3 ∧ CLo tb n A (bnd (one p) (fun d => lLp tb n (opS2 tb n) one (n + 1 - d.2) d.1 d.2)) (F_2_readSum_6 rF (nI o) x M3) ∧ Kp cLw M3 (F_2_readSum_6 rF (nI o) x M3).2 from ⟨⟨d1, hs.1⟩, hs.2.1, Kp.tr d4 hs.2.2⟩
  rw [P_2_readSum_6, F_2_readSum_6]
  cases o2 : one p with
  | inl e =>
    rw [o2] at d3
    have d3' : x = 0 ∧ CErr e M3 := d3
    rw [if_pos d3'.1]
    exact ⟨⟨fun z => absurd d3'.1 z, fun _ => trivial⟩, ⟨rfl, d3'.2⟩, Kp.rf⟩
  | inr d =>
    obtain ⟨D, p'⟩ := d
    rw [o2] at d3 g
    obtain ⟨x1', T3, L3⟩ : x = 1 ∧ CT tb n p' M3 ∧ CLw (A ++ D) M3 := d3
    obtain ⟨g1, g2, g3, _⟩ : 1 ≤ D.length ∧ D.length + p ≤ p' ∧ p' ≤ n ∧ OKC D B := g
    have lD : (A ++ D).length = A.length + D.length := List.length_append
    obtain ⟨z1, z2, z3⟩ := c_sumL hn ho hG (A := A) (n + 1 - p') D p' 0 M3 T3 L3 (by omega) (by omega) (by omega) FU (by unfold FU; omega)
    rw [if_neg (x1 x1')]
    exact ⟨⟨fun _ => z1, fun z => absurd z (x1 x1')⟩, z2, z3⟩
theorem c_sum {tb : Nat → Nat} {n : Nat} (hn : n ≤ 150) : ∀ (k o : Nat), o ≤ 6 → 6 < o + k → CSp tb n (G_2_readSum k (nI o)) (H_2_readSum k (nI o)) (lSum tb n k o) := by
  intro k
  induction k with
  | zero => intro o h1 h2; omega
  | succ k ih =>
    intro o ho hk
    have hr : CcG tb n (G_2_readSum k) (H_2_readSum k) (lSum tb n k) o := fun h => ⟨ih (o + 1) (by omega) (by omega), fun p hp => ⟨_, gd_sum k (o + 1) p (by omega) (by omega) hp⟩⟩
    have hone := c_unit hn ho hr
    have gone : ∀ p, p ≤ n → ∃ B, GD B p n (lOne tb n (lSum tb n k) o p) := by
      intro p hp
      by_cases c6 : o = 6
      · exact ⟨_, gd_one (B := 1) hp (fun z => by omega) ho (Nat.le_refl _)⟩
      · exact ⟨_, gd_one (B := 4 + 3 * (6 - (o + 1))) hp (fun _ p hp => gd_sum k (o + 1) p (by omega) (by omega) hp) ho (by omega)⟩
    have gprd : ∀ p, p ≤ n → ∃ B, GD B p n (lPrd tb n (lSum tb n k) o p) := by
      intro p hp
      by_cases c6 : o = 6
      · exact ⟨_, gd_many hopP (fun p hp => gd_one (B := 1) hp (fun z => by omega) ho (Nat.le_refl _)) hp⟩
      · exact ⟨_, gd_many hopP (fun p hp => gd_one (B := 4 + 3 * (6 - (o + 1))) hp (fun _ p hp => gd_sum k (o + 1) p (by omega) (by omega) hp) ho (by omega)) hp⟩
    have hprd : CSp tb n (F_2_readProduct_0 (G_2_readSum k) (nI o)) (P_2_readProduct_0 (G_2_readSum k) (H_2_readSum k) (nI o)) (lPrd tb n (lSum tb n k) o) := c_product hn hone gone
    have hsm := c_sm hn hprd gprd
    intro A p M h hL hA
    rw [H_2_readSum, G_2_readSum, lSum]
    exact hsm A p M h hL hA
