/-! MATHEMATICS 41: a law's sum in the reference -/
theorem prC_k : ∀ k, k < 8 → prC (-1 - nI k) = (1, nI k) := by decide
theorem prC_n {v : Nat} (hv : v < 1000) : prC (nI v) = (0, nI v) := by
  have h5 : ¬ nI v ≤ -9 := fun z => absurd (Int32.le_trans ((nI_leI (a := 0) (by omega) (by omega)).mpr (Nat.zero_le v)) z) (by decide)
  have h6 : ¬ nI v < 0 := nI_pos (by omega)
  have h7 : ¬ nI v = -9 := fun z => h5 (by rw [z]; decide)
  have h8 : ¬ nI v = -10 := fun z => h5 (by rw [z]; decide)
  unfold prC
  rw [if_neg h7, if_neg h8, if_neg h5, if_neg h6]
theorem r_one {tb : Nat → Nat} {n o : Nat} {rF : Mem → Mem} {rP : Mem → Prop} {rec : Nat → Nat → TRs LwP} (hn : n ≤ 150) (ho : o ≤ 6) (hr : RcG tb n rF rP rec o) : RSp tb n (F_12_one_0 rF) (P_12_one_0 rF rP) o (lOne tb n rec o) := by
  refine ⟨fun M h => ?_, fun A p M h hL h8 hA => ?_⟩
  · rw [P_12_one_0, F_12_one_0, if_neg h]
    exact ⟨⟨fun z => absurd z h, fun _ => trivial⟩, rfl⟩
  obtain ⟨a1, M1, a2, a3, a4⟩ := r_bl h
  have hpn := h.2.2.1
  have hb := sk_b (tb := tb) hpn
  have hq : skT tb n (skT tb n p) = skT tb n p := sk_sk hpn
  have L1 := hL.t4 (by omega) a4
  have s1 : rd M1 0 8 = nI o := by rw [a4.g (by unfold r4; omega)]; exact h8
  rw [P_12_one_0, F_12_one_0, if_pos h.2.2.2, a2]
  unfold lOne
  have etk : tkN tb n p 0 1000 = tkN tb n (skT tb n p) 0 1000 := (tkN_sk hpn).symm
  rw [etk]
  generalize skT tb n p = q at *
  suffices hs : P_12_one_12 rF rP M1 ∧ ∃ M', F_12_one_12 rF M1 = M' ∧ RLo tb n A o (if isW (wT 13) tb n q = true then lPair tb n rec o (-9) q else if isW (wT 14) tb n q = true then lPair tb n rec o (-10) q else if q < n ∧ tb q = 40 then lBr tb n rec o q else match wdK tb n q with | some k => .inr ([-1 - nI k], weT tb n q) | none => bnd (tkN tb n q 0 1000) (fun x => .inr ([nI x.1], x.2))) M' ∧ Kp rL M1 M' by
    obtain ⟨z1, M', z2, z3, z4⟩ := hs
    exact ⟨⟨fun _ => ⟨a1, z1⟩, fun z => absurd h.2.2.2 z⟩, M', z2, z3, a4.t4L.tr z4⟩
  obtain ⟨b1, M2, b2, b3, b4⟩ := r_isWordq a3 hq (w := wT 13) (wT_ok 12 (by omega)) (a := 12) (b := 5) (c := 1) (d := 19) (e := 20) (f := 0) (fun _ => rfl)
  have L2 := L1.t4 (by omega) b4
  have s2 : rd M2 0 8 = nI o := by rw [b4.g (by unfold r4; omega)]; exact s1
  rw [P_12_one_12, F_12_one_12, b2]
  have m1 : (-1 : Int32) = -1 := rfl
  have n7 : ¬ (7 : Int32) = -1 := by decide
  have n8 : ¬ (8 : Int32) = -1 := by decide
  by_cases k1 : isW (wT 13) tb n q = true
  · obtain ⟨z1, M', z2, z3, z4⟩ := r_pair (x := 7) (c := -9) hn b3 L2 s2 (by omega) ho hr (by decide) (isW_b hb.2 (t := 12) (by omega) k1).1
    rw [if_pos k1, if_pos k1, P_12_one_25, F_12_one_25, if_neg one_ne, P_12_one_56, F_12_one_56, if_neg n7]
    exact ⟨⟨b1, fun z => absurd z one_ne, fun _ => ⟨fun z => absurd z n7, fun _ => z1⟩⟩, M', z2, z3, b4.t4L.tr z4⟩
  rw [if_neg k1, if_neg k1, P_12_one_25, F_12_one_25, if_pos rfl]
  obtain ⟨c1, M3, c2, c3, c4⟩ := r_isWordq b3 hq (w := wT 14) (wT_ok 13 (by omega)) (a := 13) (b := 15) (c := 19) (d := 20) (e := 0) (f := 0) (fun _ => rfl)
  have L3 := L2.t4 (by omega) c4
  have s3 : rd M3 0 8 = nI o := by rw [c4.g (by unfold r4; omega)]; exact s2
  have K3 : Kp rL M1 M3 := b4.t4L.tr c4.t4L
  rw [c2]
  by_cases k2 : isW (wT 14) tb n q = true
  · obtain ⟨z1, M', z2, z3, z4⟩ := r_pair (x := 8) (c := -10) hn c3 L3 s3 (by omega) ho hr (by decide) (isW_b hb.2 (t := 13) (by omega) k2).1
    rw [if_pos k2, if_pos k2, P_12_one_47, F_12_one_47, if_neg one_ne, P_12_one_56, F_12_one_56, if_neg n8]
    exact ⟨⟨b1, fun _ => ⟨c1, fun z => absurd z one_ne, fun _ => ⟨fun z => absurd z n8, fun _ => z1⟩⟩, fun z => absurd rfl z⟩, M', z2, z3, K3.tr z4⟩
  rw [if_neg k2, if_neg k2, P_12_one_47, F_12_one_47, if_pos rfl, P_12_one_56, F_12_one_56, if_pos rfl, c3.2.1]
  obtain ⟨d1, d2⟩ := r_byte c3.1 (i := q) (by have := c3.1.1; omega)
  have e40 : (chT tb n q = 40) ↔ (q < n ∧ tb q = 40) := ch_eq (c := 40) (fun z => (c3.1.2.2 _ z).2) (by omega)
  rw [d2]
  simp only [e40]
  by_cases k3 : q < n ∧ tb q = 40
  · obtain ⟨z1, M', z2, z3, z4⟩ := r_br hn c3 L3 s3 (by omega) ho hr k3.1
    rw [if_pos k3, if_pos k3]
    exact ⟨⟨b1, fun _ => ⟨c1, fun _ => ⟨fun _ => ⟨d1, fun z => absurd k3 z, fun _ => z1⟩, fun z => absurd trivial z⟩, fun z => absurd trivial z⟩, fun z => absurd trivial z⟩, M', z2, z3, K3.tr z4⟩
  rw [if_neg k3, if_neg k3]
  obtain ⟨f1, M4, f2, f3, f4⟩ := r_knownHere c3 hq
  have L4 := L3.t4 (by omega) f4
  have s4 : rd M4 0 8 = nI o := by rw [f4.g (by unfold r4; omega)]; exact s3
  have K4 : Kp rL M1 M4 := K3.tr f4.t4L
  rw [f2]
  suffices hs : P_12_one_173 rF rP (knI tb n q) M4 ∧ ∃ M', F_12_one_173 rF (knI tb n q) M4 = M' ∧ RLo tb n A o (match wdK tb n q with | some k => .inr ([-1 - nI k], weT tb n q) | none => bnd (tkN tb n q 0 1000) (fun x => .inr ([nI x.1], x.2))) M' ∧ Kp rL M4 M' by
    obtain ⟨z1, M', z2, z3, z4⟩ := hs
    exact ⟨⟨b1, fun _ => ⟨c1, fun _ => ⟨fun _ => ⟨d1, fun _ => ⟨f1, z1⟩, fun z => absurd z k3⟩, fun z => absurd trivial z⟩, fun z => absurd trivial z⟩, fun z => absurd trivial z⟩, M', z2, z3, K4.tr z4⟩
  rw [P_12_one_173, F_12_one_173]
  unfold knI
  unfold knQ at f3
  cases ok : wdK tb n q with
  | some k =>
    obtain ⟨h1, t, h2, h3⟩ := wdK_b ok
    have h4 := isW_b hb.2 h2 h3
    rw [ok] at f3
    have f3' : RT tb n (weT tb n q) M4 := f3
    have nk : ¬ nI k = -1 := nI_m1 (by omega)
    obtain ⟨z1, M', z2, z3, z4⟩ := r_notes (c := -1 - nI k) L4 f3'.2.2.2 (by omega) (prC_k k h1)
    show (_ ∧ _) ∧ ∃ M', (if nI k = -1 then _ else _) = M' ∧ _
    rw [if_neg nk, F_12_one_185, F_12_one_201]
    exact ⟨⟨fun z => absurd z nk, fun _ => z1⟩, M', z2, ⟨f3'.n z4, z3, by rw [z4.g (by unfold rN; omega)]; exact s4⟩, z4.nL⟩
  | none =>
    rw [ok] at f3
    have f3' : RT tb n q M4 := f3
    obtain ⟨g1, M5, g2, g3, g4⟩ := r_number (xl := 0) (xh := 999) (lo := 0) (hi := 1000) f3' (fun v hv => hin_c (lo := 0) (hi := 999) (by omega) (by omega) hv)
    show (_ ∧ _) ∧ ∃ M', (if (-1 : Int32) = -1 then _ else _) = M' ∧ RLo tb n A o (bnd (tkN tb n q 0 1000) (fun x => .inr ([nI x.1], x.2))) M' ∧ _
    rw [if_pos rfl, g2, P_12_one_198, F_12_one_198, F_12_one_201]
    have L5 := L4.t (by omega) g4
    have s5 : rd M5 0 8 = nI o := by rw [g4.g (by unfold rT; omega)]; exact s4
    cases o2 : tkN tb n q 0 1000 with
    | inl e =>
      rw [o2] at g3
      have g3' : RE e M5 ∧ TxE tb n M5 := g3
      obtain ⟨z1, z2⟩ := r_notesN (x := 0) (y := nI (vlO (.inl e : TRs (Nat × Nat)))) g3'.1.ne
      exact ⟨⟨fun _ => ⟨g1, z1⟩, fun z => absurd rfl z⟩, M5, z2, g3', g4.tL⟩
    | inr x =>
      obtain ⟨v, p'⟩ := x
      rw [o2] at g3
      have g3' : RT tb n p' M5 := g3
      have hv := tkN_b o2
      have hv2 := tkN_b2 hb.2 o2
      obtain ⟨z1, M', z2, z3, z4⟩ := r_notes (c := nI v) L5 g3'.2.2.2 (by omega) (prC_n hv.2.1)
      exact ⟨⟨fun _ => ⟨g1, z1⟩, fun z => absurd rfl z⟩, M', z2, ⟨g3'.n z4, z3, by rw [z4.g (by unfold rN; omega)]; exact s5⟩, g4.tL.tr z4.nL⟩
/-! many -/
theorem sk_if {tb : Nat → Nat} {n p c : Nat} {M : Mem} (hp : p ≤ n) (h : RT tb n (if skT tb n p < n ∧ tb (skT tb n p) = c then skT tb n p + 1 else skT tb n p) M) : (skT tb n p < n ∧ tb (skT tb n p) = c → RT tb n (skT tb n p + 1) M) ∧ (¬ (skT tb n p < n ∧ tb (skT tb n p) = c) → RT tb n (skT tb n p) M) := by
  by_cases k : skT tb n p < n ∧ tb (skT tb n p) = c
  · rw [if_pos k] at h; exact ⟨fun _ => h, fun z => absurd k z⟩
  · rw [if_neg k] at h; exact ⟨fun z => absurd z k, fun _ => h⟩
theorem r_tsq {tb : Nat → Nat} {n q c : Nat} {M : Mem} (h : RT tb n q M) (hq : skT tb n q = q) (hc : c < 256) : P_12_takesSign_0 (nI c) M ∧ ∃ M', F_12_takesSign_0 (nI c) M = ((if q < n ∧ tb q = c then 1 else 0), M') ∧ (q < n ∧ tb q = c → RT tb n (q + 1) M') ∧ (¬ (q < n ∧ tb q = c) → RT tb n q M') ∧ Kp r4 M M' := by
  obtain ⟨a1, M1, a2, a3, a4⟩ := r_takesSign h hc
  have b := sk_if h.2.2.1 a3
  rw [hq] at a2 b
  exact ⟨a1, M1, a2, b.1, b.2, a4⟩
theorem r_tsp {tb : Nat → Nat} {n p c : Nat} {M : Mem} (h : RT tb n p M) (hc : c < 256) : P_12_takesSign_0 (nI c) M ∧ ∃ M', F_12_takesSign_0 (nI c) M = ((if skT tb n p < n ∧ tb (skT tb n p) = c then 1 else 0), M') ∧ (skT tb n p < n ∧ tb (skT tb n p) = c → RT tb n (skT tb n p + 1) M') ∧ (¬ (skT tb n p < n ∧ tb (skT tb n p) = c) → RT tb n (skT tb n p) M') ∧ Kp r4 M M' := by
  obtain ⟨a1, M1, a2, a3, a4⟩ := r_takesSign h hc
  have b := sk_if h.2.2.1 a3
  exact ⟨a1, M1, a2, b.1, b.2, a4⟩
theorem r_prodL {tb : Nat → Nat} {n o : Nat} {rF : Mem → Mem} {rP : Mem → Prop} {one : Nat → TRs LwP} (hn : n ≤ 150) (ho : RSp tb n (F_12_one_0 rF) (P_12_one_0 rF rP) o one) (hG : ∀ p, p ≤ n → ∃ B, GD B p n (one p)) {A : List Int32} : ∀ (k : Nat) (C : List Int32) (p : Nat) (M : Mem), RT tb n p M → RLw (A ++ C) M → rd M 0 8 = nI o → (A ++ C).length ≤ p → n - p < k → ∀ f, k ≤ f → P_12_product_4 rF rP f M ∧ ∃ M', F_12_product_4 rF f M = M' ∧ RLo tb n A o (lLp tb n (opP tb n) one k C p) M' ∧ Kp rL M M' := by
  intro k
  induction k with
  | zero => intro C p M _ _ _ _ h; omega
  | succ k ih =>
    intro C p M h hL h8 hA hk f hf
    obtain ⟨f, rfl⟩ : ∃ g, f = g + 1 := ⟨f - 1, by omega⟩
    have hpn := h.2.2.1
    have hb := sk_b (tb := tb) hpn
    have hq : skT tb n (skT tb n p) = skT tb n p := sk_sk hpn
    obtain ⟨a1, M1, a2, a3, a3', a4⟩ := r_tsp (c := 42) h (by omega)
    have L1 := hL.t4 (by omega) a4
    have s1 : rd M1 0 8 = nI o := by rw [a4.g (by unfold r4; omega)]; exact h8
    rw [lLp, P_12_product_4, F_12_product_4, if_pos h.2.2.2]
    have a1' : P_12_takesSign_0 42 M := a1
    have a2' : F_12_takesSign_0 42 M = _ := a2
    rw [a2']
    unfold opP
    generalize skT tb n p = q at *
    -- a step
    have step : ∀ (x c : Int32) (M2 : Mem), prC c = (x, 0) → ¬ x = -1 → RT tb n (q + 1) M2 → RLw (A ++ C) M2 → rd M2 0 8 = nI o → q < n → P_12_product_52 rF rP (P_12_product_4 rF rP f) x M2 ∧ ∃ M', F_12_product_52 rF (F_12_product_4 rF f) x M2 = M' ∧ RLo tb n A o (bnd (one (q + 1)) (fun d => lLp tb n (opP tb n) one k (C ++ d.1 ++ [c]) d.2)) M' ∧ Kp rL M2 M' := by
      intro x c M2 hc hx T2 L2 s2 hqn
      obtain ⟨d1, M3, d2, d3, d4⟩ := ho.2 (A ++ C) (q + 1) M2 T2 L2 s2 (by omega)
      obtain ⟨B, g⟩ := hG (q + 1) (by omega)
      rw [P_12_product_52, F_12_product_52, if_neg hx, d2]
      cases o2 : one (q + 1) with
      | inl e =>
        rw [o2] at d3
        have d3' : RE e M3 ∧ TxE tb n M3 := d3
        obtain ⟨z1, z2⟩ := r_notesN (x := x) (y := 0) d3'.1.ne
        obtain ⟨g', rfl⟩ : ∃ g', f = g' + 1 := ⟨f - 1, by omega⟩
        rw [P_12_product_63, F_12_product_63, z2, P_12_product_69, F_12_product_69, P_12_product_4, F_12_product_4, if_neg d3'.1.ne]
        exact ⟨⟨fun _ => ⟨d1, z1, fun _ => trivial, fun z => absurd z d3'.1.ne⟩, fun z => absurd z hx⟩, M3, rfl, d3', d4⟩
      | inr d =>
        obtain ⟨D, p'⟩ := d
        rw [o2] at d3 g
        obtain ⟨T3, L3, s3⟩ : RT tb n p' M3 ∧ RLw (A ++ C ++ D) M3 ∧ rd M3 0 8 = nI o := d3
        obtain ⟨g1, g2, g3, _⟩ : 1 ≤ D.length ∧ D.length + (q + 1) ≤ p' ∧ p' ≤ n ∧ OKC D B := g
        have lD : (A ++ C ++ D).length = (A ++ C).length + D.length := List.length_append
        obtain ⟨z1, M4, z2, z3, z4⟩ := r_notes (c := c) L3 T3.2.2.2 (by omega) hc
        have eC : A ++ C ++ D ++ [c] = A ++ (C ++ D ++ [c]) := by simp only [List.append_assoc]
        have lE : (A ++ C ++ D ++ [c]).length = (A ++ C).length + D.length + 1 := by rw [List.length_append, lD]; rfl
        rw [eC] at z3 lE
        obtain ⟨i1, M', i2, i3, i4⟩ := ih (C ++ D ++ [c]) p' M4 (T3.n z4) z3 (by rw [z4.g (by unfold rN; omega)]; exact s3) (by omega) (by omega) f (by omega)
        rw [P_12_product_63, F_12_product_63, z2, P_12_product_69, F_12_product_69]
        exact ⟨⟨fun _ => ⟨d1, z1, i1⟩, fun z => absurd z hx⟩, M', i2, i3, (d4.tr z4.nL).tr i4⟩
    by_cases k1 : q < n ∧ tb q = 42
    · obtain ⟨z1, M', z2, z3, z4⟩ := step 4 (-13) M1 (by decide) (by decide) (a3 k1) L1 s1 k1.1
      rw [if_pos k1, if_pos k1, P_12_product_17, F_12_product_17, if_neg one_ne]
      exact ⟨⟨fun z => absurd h.2.2.2 z, fun _ => ⟨a1', fun z => absurd z one_ne, fun _ => z1⟩⟩, M', z2, z3, a4.t4L.tr z4⟩
    rw [if_neg k1, if_neg k1, P_12_product_17, F_12_product_17, if_pos rfl]
    obtain ⟨b1, M2, b2, b3, b3', b4⟩ := r_tsq (c := 47) (a3' k1) hq (by omega)
    have L2 := L1.t4 (by omega) b4
    have s2 : rd M2 0 8 = nI o := by rw [b4.g (by unfold r4; omega)]; exact s1
    have K2 := a4.t4L.tr b4.t4L
    have b1' : P_12_takesSign_0 47 M1 := b1
    have b2' : F_12_takesSign_0 47 M1 = _ := b2
    rw [b2']
    by_cases k2 : q < n ∧ tb q = 47
    · obtain ⟨z1, M', z2, z3, z4⟩ := step 5 (-14) M2 (by decide) (by decide) (b3 k2) L2 s2 k2.1
      rw [if_pos k2, if_pos k2, P_12_product_30, F_12_product_30, if_neg one_ne]
      exact ⟨⟨fun z => absurd h.2.2.2 z, fun _ => ⟨a1', fun _ => ⟨b1', fun z => absurd z one_ne, fun _ => z1⟩, fun z => absurd rfl z⟩⟩, M', z2, z3, K2.tr z4⟩
    rw [if_neg k2, if_neg k2, P_12_product_30, F_12_product_30, if_pos rfl]
    obtain ⟨c1, M3, c2, c3, c3', c4⟩ := r_tsq (c := 37) (b3' k2) hq (by omega)
    have L3 := L2.t4 (by omega) c4
    have s3 : rd M3 0 8 = nI o := by rw [c4.g (by unfold r4; omega)]; exact s2
    have K3 := K2.tr c4.t4L
    have c1' : P_12_takesSign_0 37 M2 := c1
    have c2' : F_12_takesSign_0 37 M2 = _ := c2
    rw [c2']
    by_cases k3 : q < n ∧ tb q = 37
    · obtain ⟨z1, M', z2, z3, z4⟩ := step 6 (-15) M3 (by decide) (by decide) (c3 k3) L3 s3 k3.1
      rw [if_pos k3, if_pos k3, P_12_product_43, F_12_product_43, if_neg one_ne]
      exact ⟨⟨fun z => absurd h.2.2.2 z, fun _ => ⟨a1', fun _ => ⟨b1', fun _ => ⟨c1', fun z => absurd z one_ne, fun _ => z1⟩, fun z => absurd rfl z⟩, fun z => absurd rfl z⟩⟩, M', z2, z3, K3.tr z4⟩
    rw [if_neg k3, if_neg k3, P_12_product_43, F_12_product_43, if_pos rfl, P_12_product_52, F_12_product_52, if_pos rfl]
    exact ⟨⟨fun z => absurd h.2.2.2 z, fun _ => ⟨a1', fun _ => ⟨b1', fun _ => ⟨c1', fun _ => ⟨fun z => absurd rfl z, fun _ => trivial⟩, fun z => absurd rfl z⟩, fun z => absurd rfl z⟩, fun z => absurd rfl z⟩⟩, M3, rfl, ⟨c3' k3, L3, s3⟩, K3⟩
theorem r_product {tb : Nat → Nat} {n o : Nat} {rF : Mem → Mem} {rP : Mem → Prop} {one : Nat → TRs LwP} (hn : n ≤ 150) (ho : RSp tb n (F_12_one_0 rF) (P_12_one_0 rF rP) o one) (hG : ∀ p, p ≤ n → ∃ B, GD B p n (one p)) : RSp tb n (F_12_product_0 rF) (P_12_product_0 rF rP) o (lMany tb n (opP tb n) one) := by
  have hFU : FU = 6999 + 1 := rfl
  refine ⟨fun M h => ?_, fun A p M h hL h8 hA => ?_⟩
  · obtain ⟨z1, z2⟩ := ho.1 M h
    rw [P_12_product_0, F_12_product_0, z2, hFU, P_12_product_4, F_12_product_4, if_neg h]
    exact ⟨⟨z1, fun _ => trivial, fun z => absurd z h⟩, rfl⟩
  obtain ⟨d1, M3, d2, d3, d4⟩ := ho.2 A p M h hL h8 hA
  obtain ⟨B, g⟩ := hG p h.2.2.1
  rw [P_12_product_0, F_12_product_0, d2]
  unfold lMany
  cases o2 : one p with
  | inl e =>
    rw [o2] at d3
    have d3' : RE e M3 ∧ TxE tb n M3 := d3
    rw [hFU, P_12_product_4, F_12_product_4, if_neg d3'.1.ne]
    exact ⟨⟨d1, fun _ => trivial, fun z => absurd z d3'.1.ne⟩, M3, rfl, d3', d4⟩
  | inr d =>
    obtain ⟨D, p'⟩ := d
    rw [o2] at d3 g
    obtain ⟨T3, L3, s3⟩ : RT tb n p' M3 ∧ RLw (A ++ D) M3 ∧ rd M3 0 8 = nI o := d3
    obtain ⟨g1, g2, g3, _⟩ : 1 ≤ D.length ∧ D.length + p ≤ p' ∧ p' ≤ n ∧ OKC D B := g
    have lD : (A ++ D).length = A.length + D.length := List.length_append
    obtain ⟨z1, M', z2, z3, z4⟩ := r_prodL hn ho hG (A := A) (n + 1 - p') D p' M3 T3 L3 s3 (by omega) (by omega) FU (by unfold FU; omega)
    exact ⟨⟨d1, z1⟩, M', z2, z3, d4.tr z4⟩
