/-! MATHEMATICS 69: a work is done: as such, and in the reference -/
abbrev RU : Type := Nat × Nat × Nat × SU
def stR (u : MU) (L : List Int32) (x : Nat × Nat × Nat) (z : RU) : RU := (z.1 + 1, (if (dLf u L x z.2.2.2).1 = true then z.2.1 + 1 else z.2.1), (if (dLf u L x z.2.2.2).1 = true then z.2.2.1 else z.2.2.1 + 1), (dLf u L x z.2.2.2).2)
def itR (g : RU → RU) : Nat → RU → RU
  | 0, z => z
  | a + 1, z => if z.1 < 200 then itR g a (g z) else z
def rn1 {α : Type} (u : MU) (L : List Int32) (f : α → RU → RU) (x : StpW α) (z : RU) : RU := match x with
  | .inl x => stR u L x z
  | .inr x => itR (f x.2) x.1 (z.1 + 1, z.2)
def rnL {α : Type} (u : MU) (L : List Int32) (f : α → RU → RU) : List (StpW α) → RU → RU
  | [], z => z
  | x :: r, z => if z.1 < 200 then rnL u L f r (rn1 u L f x z) else z
def rnP (u : MU) (L : List Int32) : (n : Nat) → PT n → RU → RU
  | 0, _, z => z
  | n + 1, l, z => rnL u L (rnP u L n) l z
theorem szL_len {α : Type} {f : α → Nat} : ∀ l : List (StpW α), l.length ≤ szL 1 f l := by
  intro l
  induction l with
  | nil => exact Nat.le_refl _
  | cons x r ih =>
    have := szL_1 (c := 1) (f := f) (x := x) (Nat.le_refl _)
    rw [szL_c, List.length_cons]
    omega
def RZ (u : MU) (L : List Int32) (z : RU) (M : Mem) : Prop := RV u z.2.2.2 L M ∧ rd M 0 40 = nI z.1 ∧ rd M 0 41 = nI z.2.1 ∧ rd M 0 37 = nI z.2.2.1 ∧ z.1 ≤ 200
def rGo (c j : Nat) : Prop := rDo c j ∨ (c = 0 ∧ (j = 37 ∨ j = 40 ∨ j = 41))
def RGs (u : MU) (L : List Int32) (F : Int32 → Int32 → Mem → Mem) (P : Int32 → Int32 → Mem → Prop) (k : Nat) : Prop := ∀ (l : PT k) (s : Nat) (z : RU) (M : Mem), RAP k l s M → PWP u k l → RZ u L z M → s + szP 1 k l ≤ 79 → P (nI s) (nI (s + szP 1 k l)) M ∧ ∃ M', F (nI s) (nI (s + szP 1 k l)) M = M' ∧ RZ u L (rnP u L k l z) M' ∧ Kp rGo M M'
theorem RZ.b {u : MU} {L : List Int32} {z : RU} {M : Mem} (h : RZ u L z M) (hz : z.1 < 200) : RZ u L (z.1 + 1, z.2) (wr M 0 40 (nI (z.1 + 1))) := by
  obtain ⟨h1, h2, h3, h4, h5⟩ := h
  have K : Kp (fun c j => c = 0 ∧ j = 40) M (wr M 0 40 (nI (z.1 + 1))) := Kp.rf.w ⟨rfl, rfl⟩
  exact ⟨h1.k K (fun c j y => by omega), rd_s _ _ _ _, by rw [rd_i (by omega)]; exact h3, by rw [rd_i (by omega)]; exact h4, show z.1 + 1 ≤ 200 by omega⟩
theorem r_agL {u : MU} {L : List Int32} {k s e a : Nat} {b : PT k} {rF : Int32 → Int32 → Mem → Mem} {rP : Int32 → Int32 → Mem → Prop} {k2 : Int32 → Int32 → Mem → Mem} {p2 : Int32 → Int32 → Mem → Prop} (hS : RGs u L rF rP k) (ha : a ≤ 30) (hw : PWP u k b) (hs : s + 1 + szP 1 k b ≤ 79) : ∀ (c j : Nat) (z : RU) (M : Mem), c + j = a → RZ u L z M → rd M (398 + s) 1 = nI a → rd M (398 + s) 3 = nI (s + 1 + szP 1 k b) → RAP k b (s + 1) M → ∃ M', (P_12_goes_86 rF rP p2 (nI e) (nI s) M' → ∀ g, c < g → P_12_goes_42 rF rP p2 g (nI e) (nI s) (nI j) M) ∧ (∀ g, c < g → F_12_goes_42 rF k2 g (nI e) (nI s) (nI j) M = F_12_goes_86 rF k2 (nI e) (nI s) M') ∧ RZ u L (itR (rnP u L k b) c z) M' ∧ Kp rGo M M' := by
  have v := (vp_iff (i := s) (n := 80) (by omega)).mpr (by omega)
  intro c
  induction c with
  | zero =>
    intro j z M hj hz h1 h3 hA
    have e1 : nI a ≤ nI j := nI_le (by omega) (by omega)
    refine ⟨M, fun hP g hg => ?_, fun g hg => ?_, hz, Kp.rf⟩
    · obtain ⟨g, rfl⟩ : ∃ g', g = g' + 1 := ⟨g - 1, by omega⟩
      rw [P_12_goes_42, nI_clamp (n := s) (by omega), cl1, h1]
      exact ⟨v, fun _ => hP, fun y => absurd e1 y⟩
    · obtain ⟨g, rfl⟩ : ∃ g', g = g' + 1 := ⟨g - 1, by omega⟩
      rw [F_12_goes_42, nI_clamp (n := s) (by omega), cl1, h1, if_pos e1]
  | succ c ih =>
    intro j z M hj hz h1 h3 hA
    have e1 : ¬ nI a ≤ nI j := nI_ge (by omega) (by omega)
    have hz5 := hz.2.2.2.2
    have e2 : ((200 : Int32) ≤ nI z.1) ↔ 200 ≤ z.1 := nI_leI (a := 200) (by omega) (by omega)
    by_cases c2 : z.1 < 200
    · have e2' : ¬ (200 : Int32) ≤ nI z.1 := fun y => by have := e2.mp y; omega
      obtain ⟨a1, M1, a2, a3, a4⟩ := hS b (s + 1) z M hA hw hz hs
      have kr : ∀ x j, rd M1 (398 + x) j = rd M (398 + x) j := fun x j => a4.g (by unfold rGo rDo; omega)
      obtain ⟨M', i1, i2, i3, i4⟩ := ih (j + 1) (rnP u L k b z) M1 (by omega) a3 (by rw [kr]; exact h1) (by rw [kr]; exact h3) (RAP.g k b (s + 1) hA (fun x j _ _ => kr x j))
      refine ⟨M', fun hP g hg => ?_, fun g hg => ?_, ?_, a4.tr i4⟩
      · obtain ⟨g, rfl⟩ : ∃ g', g = g' + 1 := ⟨g - 1, by omega⟩
        have := i1 hP g (by omega)
        rw [P_12_goes_42, nI_clamp (n := s) (by omega), cl1, cl3, h1, h3, hz.2.1, nI_1, a2, P_12_goes_80, nI_1]
        exact ⟨v, fun y => absurd y e1, fun _ => ⟨fun y => absurd y e2', fun _ => ⟨v, a1, this⟩⟩⟩
      · obtain ⟨g, rfl⟩ : ∃ g', g = g' + 1 := ⟨g - 1, by omega⟩
        rw [F_12_goes_42, nI_clamp (n := s) (by omega), cl1, cl3, h1, h3, if_neg e1, hz.2.1, if_neg e2', nI_1, a2, F_12_goes_80, nI_1]
        exact i2 g (by omega)
      · rw [itR, if_pos c2]; exact i3
    · have e2' : (200 : Int32) ≤ nI z.1 := e2.mpr (by omega)
      refine ⟨M, fun hP g hg => ?_, fun g hg => ?_, ?_, Kp.rf⟩
      · obtain ⟨g, rfl⟩ : ∃ g', g = g' + 1 := ⟨g - 1, by omega⟩
        rw [P_12_goes_42, nI_clamp (n := s) (by omega), cl1, cl3, h1, hz.2.1]
        exact ⟨v, fun y => absurd y e1, fun _ => ⟨fun _ => hP, fun y => absurd e2' y⟩⟩
      · obtain ⟨g, rfl⟩ : ∃ g', g = g' + 1 := ⟨g - 1, by omega⟩
        rw [F_12_goes_42, nI_clamp (n := s) (by omega), cl1, h1, if_neg e1, hz.2.1, if_pos e2']
      · rw [itR, if_neg c2]; exact hz
theorem r_goL {u : MU} {L : List Int32} {k e : Nat} {rF : Int32 → Int32 → Mem → Mem} {rP : Int32 → Int32 → Mem → Prop} (hS : RGs u L rF rP k) (he : e ≤ 79) : ∀ (l : List (StpW (PT k))) (s : Nat) (z : RU) (M : Mem), RAL (szP 1 k) (RAP k) l s M → PWL u (PWP u k) l → RZ u L z M → s + szL 1 (szP 1 k) l = e → ∀ g, l.length < g → P_12_goes_2 rF rP g (nI e) (nI s) M ∧ ∃ M', F_12_goes_2 rF g (nI e) (nI s) M = M' ∧ RZ u L (rnL u L (rnP u L k) l z) M' ∧ Kp rGo M M' := by
  intro l
  induction l with
  | nil =>
    intro s z M hA hw hz hs g hg
    obtain ⟨g, rfl⟩ : ∃ g', g = g' + 1 := ⟨g - 1, by omega⟩
    have hs' : s + 0 = e := hs
    have e1 : nI e ≤ nI s := nI_le (by omega) (by omega)
    rw [P_12_goes_2, F_12_goes_2, if_pos e1]
    exact ⟨⟨fun _ => trivial, fun y => absurd e1 y⟩, M, rfl, hz, Kp.rf⟩
  | cons x r ih =>
    intro s z M hA hw hz hs g hg
    obtain ⟨g, rfl⟩ : ∃ g', g = g' + 1 := ⟨g - 1, by omega⟩
    rw [szL_c] at hs
    have h1 := szL_1 (c := 1) (f := szP 1 k) (x := x) (Nat.le_refl _)
    have e1 : ¬ nI e ≤ nI s := nI_ge (by omega) (by omega)
    have hz5 := hz.2.2.2.2
    have v := (vp_iff (i := s) (n := 80) (by omega)).mpr (by omega)
    have e2 : ((200 : Int32) ≤ nI z.1) ↔ 200 ≤ z.1 := nI_leI (a := 200) (by omega) (by omega)
    have hgl : r.length < g := by rw [List.length_cons] at hg; omega
    rw [P_12_goes_2, F_12_goes_2, if_neg e1, hz.2.1, rnL]
    by_cases c2 : z.1 < 200
    · have e2' : ¬ (200 : Int32) ≤ nI z.1 := fun y => by have := e2.mp y; omega
      have Z1 := hz.b c2
      have K1 : Kp rGo M (wr M 0 40 (nI (z.1 + 1))) := Kp.rf.w (Or.inr ⟨rfl, by omega⟩)
      have kr : ∀ x j, rd (wr M 0 40 (nI (z.1 + 1))) (398 + x) j = rd M (398 + x) j := fun x j => rd_c (by omega)
      rw [if_neg e2', if_pos c2, nI_1, nI_clamp (n := s) (by omega), cl0]
      have hA1 := RAL.g (fun a s => RAP.g k a s) (x :: r) s hA (fun x j _ _ => kr x j)
      generalize wr M 0 40 (nI (z.1 + 1)) = M1 at *
      cases x with
      | inl x =>
        obtain ⟨p1, p2, p3, p4, p5⟩ := hA1
        obtain ⟨q1, q2, q3, q4⟩ := hw
        have n4 : ¬ nI x.1 = 4 := n34 (by omega)
        have hs1 : s + (1 + 0 + szL 1 (szP 1 k) r) = e := hs
        obtain ⟨a1, M2, a2, a3, a4⟩ := r_does (q := s) Z1.1 ⟨q1, q2, q3⟩ (by omega) p1 p2 p3
        have a4' : Kp rGo M1 M2 := a4.mono (fun c j y => Or.inl y)
        have f41 : rd M2 0 41 = nI z.2.1 := by rw [a4.g (by unfold rDo; omega)]; exact Z1.2.2.1
        have f37 : rd M2 0 37 = nI z.2.2.1 := by rw [a4.g (by unfold rDo; omega)]; exact Z1.2.2.2.1
        have f40 : rd M2 0 40 = nI (z.1 + 1) := by rw [a4.g (by unfold rDo; omega)]; exact Z1.2.1
        rw [p1, if_neg n4, a2]
        suffices hs : P_12_goes_103 rF rP (P_12_goes_2 rF rP g) (nI e) (nI s) (if (dLf u L x z.2.2.2).1 = true then 1 else 0) M2 ∧ ∃ M', F_12_goes_103 rF (F_12_goes_2 rF g) (nI e) (nI s) (if (dLf u L x z.2.2.2).1 = true then 1 else 0) M2 = M' ∧ RZ u L (rnL u L (rnP u L k) r (stR u L x z)) M' ∧ Kp rGo M2 M' by
          obtain ⟨y1, M', y2, y3, y4⟩ := hs
          exact ⟨⟨fun y => absurd y e1, fun _ => ⟨fun y => absurd y e2', fun _ => ⟨v, fun _ => ⟨v, a1, y1⟩, fun y => absurd y n4⟩⟩⟩, M', y2, y3, (K1.tr a4').tr y4⟩
        have fin : ∀ (d1 d2 : Nat), stR u L x z = (z.1 + 1, d1, d2, (dLf u L x z.2.2.2).2) → P_12_goes_143 rF rP (P_12_goes_2 rF rP g) (nI e) (nI s) (wr (wr M2 0 41 (nI d1)) 0 37 (nI d2)) ∧ ∃ M', F_12_goes_143 rF (F_12_goes_2 rF g) (nI e) (nI s) (wr (wr M2 0 41 (nI d1)) 0 37 (nI d2)) = M' ∧ RZ u L (rnL u L (rnP u L k) r (stR u L x z)) M' ∧ Kp rGo M2 M' := by
          intro d1 d2 hst
          have K3 : Kp (fun c j => c = 0 ∧ (j = 37 ∨ j = 41)) M2 (wr (wr M2 0 41 (nI d1)) 0 37 (nI d2)) := (Kp.rf.w ⟨rfl, by omega⟩).w ⟨rfl, by omega⟩
          have Z3 : RZ u L (stR u L x z) (wr (wr M2 0 41 (nI d1)) 0 37 (nI d2)) := by
            rw [hst]
            exact ⟨a3.k K3 (fun c j y => by omega), by rw [rd_i (by omega), rd_i (by omega)]; exact f40, by rw [rd_i (by omega), rd_s], rd_s _ _ _ _, show z.1 + 1 ≤ 200 by omega⟩
          have kr3 : ∀ x j, rd (wr (wr M2 0 41 (nI d1)) 0 37 (nI d2)) (398 + x) j = rd M1 (398 + x) j := fun x j => by
            rw [rd_c (by omega), rd_c (by omega), a4.g (by unfold rDo; omega)]
          obtain ⟨i1, M', i2, i3, i4⟩ := ih (s + 1) (stR u L x z) _ (RAL.g (fun a s => RAP.g k a s) r (s + 1) p5 (fun x j _ _ => kr3 x j)) q4 Z3 (by omega) g hgl
          rw [P_12_goes_143, F_12_goes_143, nI_clamp (n := s) (by omega), cl3, kr3, p4]
          exact ⟨⟨v, i1⟩, M', i2, i3, (K3.mono (fun c j y => by unfold rGo; omega)).tr i4⟩
        rw [P_12_goes_103, F_12_goes_103, f41]
        by_cases cd : (dLf u L x z.2.2.2).1 = true
        · obtain ⟨y1, y2⟩ := fin (z.2.1 + 1) z.2.2.1 (by unfold stR; rw [if_pos cd, if_pos cd])
          have g37 : rd (wr M2 0 41 (nI z.2.1 + 1)) 0 37 = nI z.2.2.1 := by rw [rd_i (by omega)]; exact f37
          have d9 : P_12_goes_139 rF rP (P_12_goes_2 rF rP g) (nI e) (nI s) 0 (rd (wr M2 0 41 (nI z.2.1 + 1)) 0 37) (wr M2 0 41 (nI z.2.1 + 1)) := by
            rw [P_12_goes_139, g37, nI_1, add0]; exact y1
          rw [if_pos cd, if_neg one_ne, F_12_goes_120, if_neg one_ne, F_12_goes_139, g37, nI_1, add0]
          exact ⟨⟨fun y => absurd y one_ne, fun _ => ⟨fun y => absurd y one_ne, fun _ => d9⟩⟩, y2⟩
        · obtain ⟨y1, y2⟩ := fin z.2.1 (z.2.2.1 + 1) (by unfold stR; rw [if_neg cd, if_neg cd])
          have g37 : rd (wr M2 0 41 (nI z.2.1)) 0 37 = nI z.2.2.1 := by rw [rd_i (by omega)]; exact f37
          have d9 : P_12_goes_139 rF rP (P_12_goes_2 rF rP g) (nI e) (nI s) 1 (rd (wr M2 0 41 (nI z.2.1 + 0)) 0 37) (wr M2 0 41 (nI z.2.1 + 0)) := by
            rw [P_12_goes_139, add0, g37, nI_1]; exact y1
          rw [if_neg cd, if_pos rfl, F_12_goes_120, if_pos rfl, F_12_goes_139, add0, g37, nI_1]
          exact ⟨⟨fun _ => ⟨fun _ => d9, fun y => absurd rfl y⟩, fun y => absurd rfl y⟩, y2⟩
      | inr x =>
        obtain ⟨a, b⟩ := x
        obtain ⟨p1, p2, p3, p4, p5⟩ : rd M1 (398 + s) 0 = 4 ∧ rd M1 (398 + s) 1 = nI a ∧ rd M1 (398 + s) 3 = nI (s + 1 + szP 1 k b) ∧ RAP k b (s + 1) M1 ∧ RAL (szP 1 k) (RAP k) r (s + 1 + szP 1 k b) M1 := hA1
        obtain ⟨q1, q2, q3⟩ : a ≤ 30 ∧ PWP u k b ∧ PWL u (PWP u k) r := hw
        have hs1 : s + (1 + szP 1 k b + 0 + szL 1 (szP 1 k) r) = e := hs
        obtain ⟨M2, l1, l2, l3, l4⟩ := r_agL (e := e) (k2 := F_12_goes_2 rF g) (p2 := P_12_goes_2 rF rP g) hS q1 q2 (show s + 1 + szP 1 k b ≤ 79 by omega) a 0 (z.1 + 1, z.2) M1 (by omega) Z1 p2 p3 p4
        have kr2 : ∀ x j, rd M2 (398 + x) j = rd M1 (398 + x) j := fun x j => l4.g (by unfold rGo rDo; omega)
        obtain ⟨i1, M', i2, i3, i4⟩ := ih (s + 1 + szP 1 k b) (itR (rnP u L k b) a (z.1 + 1, z.2)) M2 (RAL.g (fun a s => RAP.g k a s) r (s + 1 + szP 1 k b) p5 (fun x j _ _ => kr2 x j)) q3 l3 (by omega) g hgl
        have d0 : P_12_goes_86 rF rP (P_12_goes_2 rF rP g) (nI e) (nI s) M2 ∧ F_12_goes_86 rF (F_12_goes_2 rF g) (nI e) (nI s) M2 = M' := by
          rw [P_12_goes_86, F_12_goes_86, P_12_goes_143, F_12_goes_143, nI_clamp (n := s) (by omega), cl3, kr2, p3]
          exact ⟨⟨v, i1⟩, i2⟩
        have l1' : P_12_goes_42 rF rP (P_12_goes_2 rF rP g) FU (nI e) (nI s) 0 M1 := l1 d0.1 FU (by unfold FU; omega)
        have l2' : F_12_goes_42 rF (F_12_goes_2 rF g) FU (nI e) (nI s) 0 M1 = _ := l2 FU (by unfold FU; omega)
        rw [p1, if_pos rfl, l2', d0.2]
        exact ⟨⟨fun y => absurd y e1, fun _ => ⟨fun y => absurd y e2', fun _ => ⟨v, fun y => absurd rfl y, fun _ => l1'⟩⟩⟩, M', rfl, i3, (K1.tr l4).tr i4⟩
    · have e2' : (200 : Int32) ≤ nI z.1 := e2.mpr (by omega)
      rw [if_pos e2', if_neg c2]
      exact ⟨⟨fun y => absurd y e1, fun _ => ⟨fun _ => trivial, fun y => absurd e2' y⟩⟩, M, rfl, hz, Kp.rf⟩
theorem r_goes {u : MU} {L : List Int32} : ∀ (k g : Nat), k ≤ g → RGs u L (G_12_goes g) (H_12_goes g) k := by
  intro k
  induction k with
  | zero => intro g hg l; exact nomatch l
  | succ k ih =>
    intro g hg l s z M hA hw hz hs
    obtain ⟨g, rfl⟩ : ∃ g', g = g' + 1 := ⟨g - 1, by omega⟩
    have hl : List.length l ≤ szP 1 (k + 1) l := szL_len (f := szP 1 k) l
    rw [H_12_goes, G_12_goes, P_12_goes_0, F_12_goes_0]
    exact r_goL (ih g (by omega)) hs l s z M hA hw hz rfl FU (by unfold FU; omega)
