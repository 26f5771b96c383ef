/-! MATHEMATICS 66: the class reads a work -/
theorem CAL_c {α : Type} {sz : α → Nat} {f : α → Nat → Mem → Prop} {M : Mem} {x : StpW α} {r : List (StpW α)} {i : Nat} (h1 : CAL sz f [x] i M) (h2 : CAL sz f r (i + szL 2 sz [x]) M) : CAL sz f (x :: r) i M := by
  cases x with
  | inl x => exact ⟨h1.1, h1.2.1, h1.2.2.1, h2⟩
  | inr x =>
    have e : i + szL 2 sz [.inr x] = i + 2 + sz x.2 := by show i + (2 + sz x.2 + 0) = _; omega
    rw [e] at h2
    exact ⟨h1.1, h1.2.1, h1.2.2.1, h1.2.2.2.1, h1.2.2.2.2.1, h1.2.2.2.2.2.1, h2⟩
theorem c_rstep {tb : Nat → Nat} {n p i k o : Nat} {u : MU} {rF : Int32 → Mem → Int32 × Mem} {rP : Int32 → Mem → Prop} {M : Mem} (hn : n ≤ 150) (hko : o + k = 6) (hr : o < 6 → CSb tb n u (rF (nI (o + 1))) (rP (nI (o + 1))) k (o + 1)) (h : CT tb n p M) (hu : CP 1561 u M) (hl : rd M 1587 4 = nI i) (hi : i ≤ p) : P_10_readStep_0 rF rP (nI o) M ∧ CS1 tb n k i (wS0 tb n u (wSt tb n u k (o + 1)) o (skT tb n p)) (F_10_readStep_0 rF (nI o) M) ∧ Kp (cSs i) M (F_10_readStep_0 rF (nI o) M).2 := by
  obtain ⟨a1, a2, a3⟩ := c_needsWord h
  have hb := sk_b (tb := tb) h.2.2
  rw [P_10_readStep_0, F_10_readStep_0]
  generalize F_5_needsWord_0 M = z at *
  obtain ⟨x, M1⟩ := z
  have a2' : Kp cT M M1 := a2
  generalize skT tb n p = q at *
  suffices hs : P_10_readStep_4 rF rP (nI o) x M1 ∧ CS1 tb n k i (wS0 tb n u (wSt tb n u k (o + 1)) o q) (F_10_readStep_4 rF (nI o) x M1) ∧ Kp (cSs i) M1 (F_10_readStep_4 rF (nI o) x M1).2 from ⟨⟨a1, hs.1⟩, hs.2.1, a2'.cS.tr hs.2.2⟩
  have l1 : rd M1 1587 4 = nI i := by rw [a2'.g (by unfold cT; omega)]; exact hl
  have U1 : CP 1561 u M1 := hu.cS (i := i) a2'.cS
  rcases a3 with ⟨s1, s2, s3, s4, s5, s6⟩ | ⟨s1, s2, s3⟩
  · have hx : ¬ x = 0 := x1 s3
    have s4' : CT tb n (weT tb n q) M1 := s4
    have s5' : rd M1 1560 4 = nI q := s5
    have s6' : rd M1 1560 3 = nI (weT tb n q) := s6
    obtain ⟨v15, w15⟩ := c_isWord s4'.1 hb.2 s5' s6' (t := 14) (by omega)
    obtain ⟨v16, w16⟩ := c_isWord s4'.1 hb.2 s5' s6' (t := 15) (by omega)
    obtain ⟨v17, w17⟩ := c_isWord s4'.1 hb.2 s5' s6' (t := 16) (by omega)
    obtain ⟨v7, w7⟩ := c_isWord s4'.1 hb.2 s5' s6' (t := 6) (by omega)
    obtain ⟨v18, w18⟩ := c_isWord s4'.1 hb.2 s5' s6' (t := 17) (by omega)
    rw [P_10_readStep_4, F_10_readStep_4, if_neg hx]
    by_cases k0 : isW (wT 15) tb n q = true
    · have ok : stK tb n q = some 0 := by unfold stK; rw [if_pos k0]
      have z : ¬ F_5_isWord_0 M1 15 = 0 := by rw [w15, if_pos k0]; exact one_ne
      have eW : wS0 tb n u (wSt tb n u k (o + 1)) o q = bnd (tkN tb n (weT tb n q) 0 (uT u)) (fun a => bnd (tkN tb n a.2 0 (uM u)) (fun b => .inr (.inl (0, a.1, b.1), b.2))) := by
        unfold wS0
        rw [ok]
        try dsimp only
        rw [if_pos rfl]
      obtain ⟨g1, g2, g3⟩ := c_readGo (k := k) s4' U1 l1 (by omega)
      rw [if_neg z, eW]
      generalize F_10_readGo_0 M1 = zz at *
      obtain ⟨zx, zM⟩ := zz
      exact ⟨⟨fun _ => ⟨v15, fun y => absurd y z, fun _ => ⟨g1, g2.b⟩⟩, fun y => absurd y hx⟩, g2, g3⟩
    have z15 : F_5_isWord_0 M1 15 = 0 := by rw [w15, if_neg k0]
    rw [if_pos z15]
    by_cases k1 : isW (wT 16) tb n q = true
    · have ok : stK tb n q = some 1 := by unfold stK; rw [if_neg k0, if_pos k1]
      have z : ¬ F_5_isWord_0 M1 16 = 0 := by rw [w16, if_pos k1]; exact one_ne
      have eW : wS0 tb n u (wSt tb n u k (o + 1)) o q = bnd (tkN tb n (weT tb n q) 0 (uM u)) (fun b => .inr (.inl (1, 0, b.1), b.2)) := by
        unfold wS0
        rw [ok]
        try dsimp only
        rw [if_neg (by omega), if_neg (by omega), if_neg (by omega)]
      obtain ⟨g1, g2, g3⟩ := c_readDS (k := k) (kk := 1) s4' U1 l1 (by omega) (Or.inl rfl)
      have e2 : nI (1 + 1) = 2 := rfl
      rw [e2] at g1 g2 g3
      rw [if_neg z, eW]
      generalize F_10_readDoorStep_0 2 M1 = zz at *
      obtain ⟨zx, zM⟩ := zz
      exact ⟨⟨fun _ => ⟨v15, fun _ => ⟨v16, fun y => absurd y z, fun _ => ⟨g1, g2.b⟩⟩, fun y => absurd z15 y⟩, fun y => absurd y hx⟩, g2, g3⟩
    have z16 : F_5_isWord_0 M1 16 = 0 := by rw [w16, if_neg k1]
    rw [if_pos z16]
    by_cases k2 : isW (wT 17) tb n q = true
    · have ok : stK tb n q = some 2 := by unfold stK; rw [if_neg k0, if_neg k1, if_pos k2]
      have z : ¬ F_5_isWord_0 M1 17 = 0 := by rw [w17, if_pos k2]; exact one_ne
      have eW : wS0 tb n u (wSt tb n u k (o + 1)) o q = bnd (tkN tb n (weT tb n q) 0 (uM u)) (fun b => .inr (.inl (2, 0, b.1), b.2)) := by
        unfold wS0
        rw [ok]
        try dsimp only
        rw [if_neg (by omega), if_neg (by omega), if_neg (by omega)]
      obtain ⟨g1, g2, g3⟩ := c_readDS (k := k) (kk := 2) s4' U1 l1 (by omega) (Or.inr rfl)
      have e2 : nI (2 + 1) = 3 := rfl
      rw [e2] at g1 g2 g3
      rw [if_neg z, eW]
      generalize F_10_readDoorStep_0 3 M1 = zz at *
      obtain ⟨zx, zM⟩ := zz
      exact ⟨⟨fun _ => ⟨v15, fun _ => ⟨v16, fun _ => ⟨v17, fun y => absurd y z, fun _ => ⟨g1, g2.b⟩⟩, fun y => absurd z16 y⟩, fun y => absurd z15 y⟩, fun y => absurd y hx⟩, g2, g3⟩
    have z17 : F_5_isWord_0 M1 17 = 0 := by rw [w17, if_neg k2]
    rw [if_pos z17]
    by_cases k3 : isW (wT 7) tb n q = true
    · have ok : stK tb n q = some 3 := by unfold stK; rw [if_neg k0, if_neg k1, if_neg k2, if_pos k3]
      have z : ¬ F_5_isWord_0 M1 7 = 0 := by rw [w7, if_pos k3]; exact one_ne
      have eW : wS0 tb n u (wSt tb n u k (o + 1)) o q = .inr (.inl (3, 0, 0), weT tb n q) := by
        unfold wS0
        rw [ok]
        try dsimp only
        rw [if_neg (by omega), if_pos rfl]
      obtain ⟨c1, M3, c2, c3, c4, c5, c6, c7, c8⟩ := c_put10 (a := 4) (b := 0) (c := 0) s4' l1 (by omega)
      rw [if_neg z, eW, F_10_readStep_75, c2]
      exact ⟨⟨fun _ => ⟨v15, fun _ => ⟨v16, fun _ => ⟨v17, fun _ => ⟨v7, fun y => absurd y z, fun _ => c1⟩, fun y => absurd z17 y⟩, fun y => absurd z16 y⟩, fun y => absurd z15 y⟩, fun y => absurd y hx⟩, ⟨rfl, c3, c4, c5, fun y => absurd (show (3 : Nat) = 0 from y) (by omega), fun y => absurd (show (3 : Nat) = 1 ∨ (3 : Nat) = 2 from y) (by omega), trivial⟩, c8.pS (Nat.le_refl _)⟩
    have z7 : F_5_isWord_0 M1 7 = 0 := by rw [w7, if_neg k3]
    rw [if_pos z7]
    by_cases k4 : isW (wT 18) tb n q = true
    · have ok : stK tb n q = some 4 := by unfold stK; rw [if_neg k0, if_neg k1, if_neg k2, if_neg k3, if_pos k4]
      have z : ¬ F_5_isWord_0 M1 18 = 0 := by rw [w18, if_pos k4]; exact one_ne
      have hw := stK_we hb.2 ok
      have e6 : (nI o < 6) ↔ o < 6 := nI_ltI (b := 6) (by omega) (by omega)
      rw [if_neg z]
      by_cases o6 : o < 6
      · have eW : wS0 tb n u (wSt tb n u k (o + 1)) o q = bnd (tkN tb n (weT tb n q) 0 31) (fun a => bnd (tkS 91 tb n a.2) (fun p => bnd (wSt tb n u k (o + 1) p) (fun b => .inr (.inr (a.1, b.1), b.2)))) := by
          unfold wS0
          rw [ok]
          try dsimp only
          rw [if_neg (by omega), if_neg (by omega), if_pos rfl, if_neg (by omega)]
        obtain ⟨g1, g2, g3⟩ := c_readAg (rF := rF) (rP := rP) hn s4' U1 l1 (by omega) hko (hr o6)
        rw [if_pos (e6.mpr o6), eW]
        generalize F_10_readAgain_0 rF (nI o) M1 = zz at *
        obtain ⟨zx, zM⟩ := zz
        exact ⟨⟨fun _ => ⟨v15, fun _ => ⟨v16, fun _ => ⟨v17, fun _ => ⟨v7, fun _ => ⟨v18, fun y => absurd y z, fun _ => ⟨fun _ => ⟨g1, g2.b⟩, fun y => absurd (e6.mpr o6) y⟩⟩, fun y => absurd z7 y⟩, fun y => absurd z17 y⟩, fun y => absurd z16 y⟩, fun y => absurd z15 y⟩, fun y => absurd y hx⟩, g2, g3⟩
      · have n6 : ¬ nI o < 6 := fun y => o6 (e6.mp y)
        have eW : wS0 tb n u (wSt tb n u k (o + 1)) o q = .inl (3, q) := by
          unfold wS0
          rw [ok]
          try dsimp only
          rw [if_neg (by omega), if_neg (by omega), if_pos rfl, if_pos (by omega)]
        obtain ⟨M2, f1, f2, f3⟩ := c_fail (M := M1) (k := 3) (q := q)
        have f1' : F_5_fail_0 3 (nI q) M1 = (0, M2) := f1
        rw [if_neg n6, eW, s5', f1', F_10_readStep_101, F_10_readStep_111]
        exact ⟨⟨fun _ => ⟨v15, fun _ => ⟨v16, fun _ => ⟨v17, fun _ => ⟨v7, fun _ => ⟨v18, fun y => absurd y z, fun _ => ⟨fun y => absurd y n6, fun _ => nar_b (Or.inl rfl)⟩⟩, fun y => absurd z7 y⟩, fun y => absurd z17 y⟩, fun y => absurd z16 y⟩, fun y => absurd z15 y⟩, fun y => absurd y hx⟩, ⟨rfl, f2⟩, f3.cS⟩
    · have ok : stK tb n q = none := by unfold stK; rw [if_neg k0, if_neg k1, if_neg k2, if_neg k3, if_neg k4]
      have z18 : F_5_isWord_0 M1 18 = 0 := by rw [w18, if_neg k4]
      have eW : wS0 tb n u (wSt tb n u k (o + 1)) o q = .inl (1, q) := by unfold wS0; rw [ok]
      obtain ⟨M2, f1, f2, f3⟩ := c_fail (M := M1) (k := 1) (q := q)
      have f1' : F_5_fail_0 1 (nI q) M1 = (0, M2) := f1
      rw [if_pos z18, eW, s5', f1', F_10_readStep_121]
      exact ⟨⟨fun _ => ⟨v15, fun _ => ⟨v16, fun _ => ⟨v17, fun _ => ⟨v7, fun _ => ⟨v18, fun _ => nar_b (Or.inl rfl), fun y => absurd z18 y⟩, fun y => absurd z7 y⟩, fun y => absurd z17 y⟩, fun y => absurd z16 y⟩, fun y => absurd z15 y⟩, fun y => absurd y hx⟩, ⟨rfl, f2⟩, f3.cS⟩
  · have hx : x = 0 := s2
    have ok : stK tb n q = none := stK_no s1
    have eW : wS0 tb n u (wSt tb n u k (o + 1)) o q = .inl (1, q) := by unfold wS0; rw [ok]
    rw [P_10_readStep_4, F_10_readStep_4, if_pos hx, eW]
    exact ⟨⟨fun y => absurd hx y, fun _ => trivial⟩, ⟨rfl, s3⟩, Kp.rf⟩
theorem c_stL {tb : Nat → Nat} {n k o : Nat} {u : MU} {rF : Int32 → Mem → Int32 × Mem} {rP : Int32 → Mem → Prop} (hn : n ≤ 150) (hko : o + k = 6) (hr : o < 6 → CSb tb n u (rF (nI (o + 1))) (rP (nI (o + 1))) k (o + 1)) : ∀ (f p i j : Nat) (M : Mem), CT tb n p M → CP 1561 u M → rd M 1587 4 = nI i → i ≤ p → 2 * j ≤ p → n - p < f → ∀ g, f ≤ g → P_10_readSteps_3 rF rP g (nI o) (nI j) M ∧ CSl tb n (k + 1) i (wSq tb n u (wSt tb n u k (o + 1)) o f p) (F_10_readSteps_3 rF g (nI o) (nI j) M) ∧ Kp (cSs i) M (F_10_readSteps_3 rF g (nI o) (nI j) M).2 := by
  intro f
  induction f with
  | zero => intro p i j M _ _ _ _ _ h; omega
  | succ f ih =>
    intro p i j M h hu hl hi hj hf0 g hg
    obtain ⟨g, rfl⟩ : ∃ g', g = g' + 1 := ⟨g - 1, by omega⟩
    have hpn := h.2.2
    have hb := sk_b (tb := tb) hpn
    have e150 : ¬ (150 : Int32) ≤ nI j := by
      show ¬ nI 150 ≤ nI j
      rw [nI_leI (by omega) (by omega)]
      omega
    have e0 : (nI o = 0) ↔ o = 0 := nI_eq (b := 0) (by omega) (by omega)
    have step : ∀ (M1 : Mem), CT tb n (skT tb n p) M1 → CP 1561 u M1 → rd M1 1587 4 = nI i → P_10_readSteps_36 rF rP (P_10_readSteps_3 rF rP g) (nI o) (nI j) M1 ∧ CSl tb n (k + 1) i (bnd (wS1 tb n u (wSt tb n u k (o + 1)) o (skT tb n p)) (fun x => bnd (wSq tb n u (wSt tb n u k (o + 1)) o f x.2) (fun r => .inr (x.1 :: r.1, r.2)))) (F_10_readSteps_36 rF (F_10_readSteps_3 rF g) (nI o) (nI j) M1) ∧ Kp (cSs i) M1 (F_10_readSteps_36 rF (F_10_readSteps_3 rF g) (nI o) (nI j) M1).2 := by
      intro M1 T1 U1 l1
      obtain ⟨a1, a2, a3⟩ := c_rstep (rF := rF) (rP := rP) hn hko hr T1 U1 l1 (by omega)
      rw [sk_sk hpn] at a2
      rw [P_10_readSteps_36, F_10_readSteps_36]
      generalize F_10_readStep_0 rF (nI o) M1 = z at *
      obtain ⟨y, M2⟩ := z
      have a3' : Kp (cSs i) M1 M2 := a3
      suffices hs : P_10_readSteps_43 rF rP (P_10_readSteps_3 rF rP g) (nI o) (nI j) y M2 ∧ CSl tb n (k + 1) i (bnd (wS1 tb n u (wSt tb n u k (o + 1)) o (skT tb n p)) (fun x => bnd (wSq tb n u (wSt tb n u k (o + 1)) o f x.2) (fun r => .inr (x.1 :: r.1, r.2)))) (F_10_readSteps_43 rF (F_10_readSteps_3 rF g) (nI o) (nI j) y M2) ∧ Kp (cSs i) M2 (F_10_readSteps_43 rF (F_10_readSteps_3 rF g) (nI o) (nI j) y M2).2 from ⟨⟨a1, hs.1⟩, hs.2.1, a3'.tr hs.2.2⟩
      have bb : ∀ x p', wS1 tb n u (wSt tb n u k (o + 1)) o (skT tb n p) = .inr (x, p') → _ := fun x p' => ws1_b (f := szP 1 k) (g := PWP u k) hb.2 (by omega) (fun _ p hp => wst_b k (o + 1) p (by omega) hp)
      have e10 := ws1_0 (tb := tb) (n := n) (o := o) (q := skT tb n p) (u := u) (rec := wSt tb n u k (o + 1))
      rw [P_10_readSteps_43, F_10_readSteps_43]
      cases o1 : wS0 tb n u (wSt tb n u k (o + 1)) o (skT tb n p) with
      | inl e =>
        rw [o1] at a2 e10
        have a4 : y = 0 ∧ CErr e M2 := a2
        rw [if_pos a4.1, e10]
        exact ⟨⟨fun _ => trivial, fun z => absurd a4.1 z⟩, ⟨rfl, a4.2⟩, Kp.rf⟩
      | inr x =>
        obtain ⟨x, p1⟩ := x
        rw [o1] at a2 e10
        obtain ⟨a4, T2, l2, A2⟩ : y = 1 ∧ CT tb n p1 M2 ∧ rd M2 1587 4 = nI (i + szL 2 (szP 2 k) [x]) ∧ CAL (szP 2 k) (CAP k) [x] i M2 := a2
        have e10' : wS1 tb n u (wSt tb n u k (o + 1)) o (skT tb n p) = bnd (tkS 59 tb n p1) (fun p => .inr (x, p)) := e10
        obtain ⟨b1, b2, b3⟩ := c_needs (c := 59) T2 (by omega)
        have b1' : P_5_needs_0 59 M2 := b1
        have b2' : CA tb n (tkS 59 tb n p1) (F_5_needs_0 59 M2) := b2
        have b3' : Kp cT M2 (F_5_needs_0 59 M2).2 := b3
        rw [if_neg (x1 a4)]
        generalize F_5_needs_0 59 M2 = z at *
        obtain ⟨y3, M3⟩ := z
        have b3'' : Kp cT M2 M3 := b3'
        suffices hs : P_10_readSteps_52 rF rP (P_10_readSteps_3 rF rP g) (nI o) (nI j) y3 M3 ∧ CSl tb n (k + 1) i (bnd (wS1 tb n u (wSt tb n u k (o + 1)) o (skT tb n p)) (fun x => bnd (wSq tb n u (wSt tb n u k (o + 1)) o f x.2) (fun r => .inr (x.1 :: r.1, r.2)))) (F_10_readSteps_52 rF (F_10_readSteps_3 rF g) (nI o) (nI j) y3 M3) ∧ Kp (cSs i) M3 (F_10_readSteps_52 rF (F_10_readSteps_3 rF g) (nI o) (nI j) y3 M3).2 from ⟨⟨fun z => absurd z (x1 a4), fun _ => ⟨b1', hs.1⟩⟩, hs.2.1, b3''.cS.tr hs.2.2⟩
        rw [P_10_readSteps_52, F_10_readSteps_52]
        cases o2 : tkS 59 tb n p1 with
        | inl e =>
          rw [o2] at b2' e10'
          have b4 : y3 = 0 ∧ CErr e M3 := b2'
          rw [if_pos b4.1, e10']
          exact ⟨⟨fun z => absurd b4.1 z, fun _ => trivial⟩, ⟨rfl, b4.2⟩, Kp.rf⟩
        | inr p2 =>
          rw [o2] at b2' e10'
          have b4 : y3 = 1 ∧ CT tb n p2 M3 := b2'
          have e10'' : wS1 tb n u (wSt tb n u k (o + 1)) o (skT tb n p) = .inr (x, p2) := e10'
          have c := bb x p2 e10''
          have g4 := szL2 (szP2 k) [x]
          have l3 : rd M3 1587 4 = nI (i + szL 2 (szP 2 k) [x]) := by rw [b3''.g (by unfold cT; omega)]; exact l2
          have h1 := szL_1 (c := 1) (f := szP 1 k) (x := x) (Nat.le_refl _)
          obtain ⟨i1, i2, i3⟩ := ih p2 (i + szL 2 (szP 2 k) [x]) (j + 1) M3 b4.2 ((U1.cS a3').cS (i := i) b3''.cS) l3 (by omega) (by omega) (by omega) g (by omega)
          rw [if_neg (x1 b4.1), e10'', nI_1]
          refine ⟨⟨fun _ => i1, fun z => absurd z (x1 b4.1)⟩, ?_, i3.cSS (by omega)⟩
          show CSl tb n (k + 1) i (bnd (wSq tb n u (wSt tb n u k (o + 1)) o f p2) (fun r => .inr (x :: r.1, r.2))) _
          generalize F_10_readSteps_3 rF g (nI o) (nI (j + 1)) M3 = z at *
          obtain ⟨y4, M4⟩ := z
          have i3' : Kp (cSs (i + szL 2 (szP 2 k) [x])) M3 M4 := i3
          cases o3 : wSq tb n u (wSt tb n u k (o + 1)) o f p2 with
          | inl e => rw [o3] at i2; exact i2
          | inr r =>
            obtain ⟨r, p3⟩ := r
            rw [o3] at i2
            obtain ⟨j1, j2, j3, j4⟩ : y4 = 1 ∧ CT tb n p3 M4 ∧ rd M4 1587 4 = nI (i + szL 2 (szP 2 k) [x] + szL 2 (szP 2 k) r) ∧ CAL (szP 2 k) (CAP k) r (i + szL 2 (szP 2 k) [x]) M4 := i2
            refine ⟨j1, j2, ?_, CAL_c (f := CAP k) (CAL.g (fun a i => CAP.g k a i) [x] i A2 (fun z h1 h2 => ?_)) j4⟩
            · show rd M4 1587 4 = nI (i + szL 2 (szP 2 k) (x :: r))
              rw [szL_c, ← Nat.add_assoc]
              exact j3
            · rw [i3'.g (by unfold cSs; omega), i3'.g (by unfold cSs; omega), i3'.g (by unfold cSs; omega), b3''.g (by unfold cT; omega), b3''.g (by unfold cT; omega), b3''.g (by unfold cT; omega)]
              exact ⟨rfl, rfl, rfl⟩
    rw [P_10_readSteps_3, F_10_readSteps_3, if_neg e150, wSq]
    by_cases o0 : o = 0
    · have z0 : nI o = 0 := e0.mpr o0
      obtain ⟨a1, M1, a2, a3, a4, a5⟩ := c_atEnd h
      rw [if_pos z0, a2, P_10_readSteps_19, F_10_readSteps_19]
      by_cases c1 : skT tb n p < n
      · obtain ⟨s1, s2, s3⟩ := step M1 a3 (hu.cS (i := i) a5.cS) (by rw [a5.g (by unfold cT; omega)]; exact hl)
        have n1 : ¬ (o = 0 ∧ ¬ skT tb n p < n) := fun z => z.2 c1
        have n2 : ¬ (¬ o = 0 ∧ (skT tb n p < n ∧ tb (skT tb n p) = 93)) := fun z => z.1 o0
        rw [if_pos c1, if_pos rfl, if_neg n1, if_neg n2]
        exact ⟨⟨fun z => absurd z e150, fun _ => ⟨fun z => absurd z0 z, fun _ => ⟨a1, fun _ => s1, fun z => absurd rfl z⟩⟩⟩, s2, a5.cS.tr s3⟩
      · rw [if_neg c1, if_neg one_ne, if_pos ⟨o0, c1⟩]
        exact ⟨⟨fun z => absurd z e150, fun _ => ⟨fun z => absurd z0 z, fun _ => ⟨a1, fun z => absurd z one_ne, fun _ => trivial⟩⟩⟩, ⟨rfl, a3, by rw [a5.g (by unfold cT; omega)]; exact hl, trivial⟩, a5.cS⟩
    · have z0 : ¬ nI o = 0 := fun z => o0 (e0.mp z)
      obtain ⟨a1, M1, a2, a3, a5⟩ := c_takes (c := 93) h (by omega)
      have a1' : P_5_takes_0 93 M := a1
      have a2' : F_5_takes_0 93 M = _ := a2
      have o0' : ¬ (o = 0 ∧ ¬ skT tb n p < n) := fun z => o0 z.1
      rw [if_neg z0, a2', P_10_readSteps_31, F_10_readSteps_31, if_neg o0']
      by_cases c1 : skT tb n p < n ∧ tb (skT tb n p) = 93
      · rw [if_pos c1] at a3
        rw [if_pos c1, if_neg one_ne, if_pos ⟨o0, c1⟩]
        exact ⟨⟨fun z => absurd z e150, fun _ => ⟨fun _ => ⟨a1', fun z => absurd z one_ne, fun _ => trivial⟩, fun z => absurd z z0⟩⟩, ⟨rfl, a3, by rw [a5.g (by unfold cT; omega)]; exact hl, trivial⟩, a5.cS⟩
      · rw [if_neg c1] at a3
        obtain ⟨s1, s2, s3⟩ := step M1 a3 (hu.cS (i := i) a5.cS) (by rw [a5.g (by unfold cT; omega)]; exact hl)
        have n2 : ¬ (¬ o = 0 ∧ (skT tb n p < n ∧ tb (skT tb n p) = 93)) := fun z => c1 z.2
        rw [if_neg c1, if_pos rfl, if_neg n2]
        exact ⟨⟨fun z => absurd z e150, fun _ => ⟨fun _ => ⟨a1', fun _ => s1, fun z => absurd rfl z⟩, fun z => absurd z z0⟩⟩, s2, a5.cS.tr s3⟩
theorem c_steps {tb : Nat → Nat} {n : Nat} {u : MU} (hn : n ≤ 150) : ∀ (k o : Nat), o + k = 6 → ∀ g, k < g → CSb tb n u (G_10_readSteps g (nI o)) (H_10_readSteps g (nI o)) (k + 1) o := by
  intro k
  induction k with
  | zero =>
    intro o ho g hg i p M h hu hl hi
    obtain ⟨g, rfl⟩ : ∃ g', g = g' + 1 := ⟨g - 1, by omega⟩
    have hpn := h.2.2
    rw [H_10_readSteps, G_10_readSteps, P_10_readSteps_0, F_10_readSteps_0]
    exact c_stL (k := 0) hn (by omega) (fun z => by omega) (n + 1 - p) p i 0 M h hu hl hi (by omega) (by omega) FU (by unfold FU; omega)
  | succ k ih =>
    intro o ho g hg i p M h hu hl hi
    obtain ⟨g, rfl⟩ : ∃ g', g = g' + 1 := ⟨g - 1, by omega⟩
    have hpn := h.2.2
    rw [H_10_readSteps, G_10_readSteps, P_10_readSteps_0, F_10_readSteps_0]
    exact c_stL (k := k + 1) hn (by omega) (fun z => ih (o + 1) (by omega) g (by omega)) (n + 1 - p) p i 0 M h hu hl hi (by omega) (by omega) FU (by unfold FU; omega)
def CWx (tb : Nat → Nat) (n : Nat) (r : TRs (PT 7 × Nat)) (z : Int32 × Mem) : Prop := CSl tb n 7 0 r z
theorem c_wtx {tb : Nat → Nat} {n : Nat} {u : MU} {M : Mem} (hn : n ≤ 150) (h : CT tb n 0 M) (hu : CP 1561 u M) : P_10_read_0 M ∧ CSl tb n 7 0 (wkP tb n u) (F_10_read_0 M) ∧ Kp (cSs 0) M (F_10_read_0 M).2 := by
  have hK : Kp (cPt 0) M (wr M 1587 4 0) := Kp.rf.w (Or.inl ⟨rfl, rfl⟩)
  obtain ⟨a1, a2, a3⟩ := c_steps (u := u) hn 6 0 (by omega) 8 (by omega) 0 0 (wr M 1587 4 0) (h.q hK (fun c j z => by unfold cPt at z; omega)) (hu.cS (hK.pS (Nat.le_refl 0))) (rd_s _ _ _ _) (Nat.le_refl _)
  have hb : narrow .boolean (.int (G_10_readSteps 8 (nI 0) (wr M 1587 4 0)).1) = .int (G_10_readSteps 8 (nI 0) (wr M 1587 4 0)).1 := by
    cases o : wSt tb n u (6 + 1) 0 0 with
    | inl e => rw [o] at a2; exact nar_b (Or.inl a2.1)
    | inr x => rw [o] at a2; exact nar_b (Or.inr a2.1)
  rw [P_10_read_0, F_10_read_0, P_10_read_12, F_10_read_12]
  exact ⟨⟨a1, hb⟩, a2, (hK.pS (Nat.le_refl 0)).tr a3⟩
