/-! MATHEMATICS 62: a step, and a row of steps, in the reference -/
def RS1 (tb : Nat → Nat) (n k o s : Nat) (r : TRs (StpW (PT k) × Nat)) (M' : Mem) : Prop := match r with
  | .inl e => RE e M' ∧ TxE tb n M'
  | .inr x => RT tb n x.2 M' ∧ rd M' 0 30 = nI (s + szL 1 (szP 1 k) [x.1]) ∧ rd M' 0 8 = nI o ∧ RAL (szP 1 k) (RAP k) [x.1] s M'
def RSt (tb : Nat → Nat) (n : Nat) (u : MU) (F : Mem → Mem) (P : Mem → Prop) (k o : Nat) : Prop := ∀ (s p : Nat) (M : Mem), RT tb n p M → RP u M → rd M 0 30 = nI s → rd M 0 8 = nI o → 2 * s ≤ p → P M ∧ ∃ M', F M = M' ∧ RS1 tb n k o s (wS1 tb n u (wSt tb n u k (o + 1)) o (skT tb n p)) M' ∧ Kp (rSs s) M M'
def RSl (tb : Nat → Nat) (n k o s : Nat) (r : TRs (List (StpW (PT k)) × Nat)) (M' : Mem) : Prop := match r with
  | .inl e => RE e M' ∧ TxE tb n M'
  | .inr y => (∃ q, RT tb n q M' ∧ q < n ∧ tb q = 93 ∧ y.2 = q + 1) ∧ rd M' 0 30 = nI (s + szL 1 (szP 1 k) y.1) ∧ rd M' 0 8 = nI o ∧ RAL (szP 1 k) (RAP k) y.1 s M'
theorem RAL_c {α : Type} {sz : α → Nat} {f : α → Nat → Mem → Prop} {M : Mem} {x : StpW α} {r : List (StpW α)} {s : Nat} (h1 : RAL sz f [x] s M) (h2 : RAL sz f r (s + szL 1 sz [x]) M) : RAL sz f (x :: r) s M := by
  cases x with
  | inl x => exact ⟨h1.1, h1.2.1, h1.2.2.1, h1.2.2.2.1, h2⟩
  | inr x =>
    have e : s + szL 1 sz [.inr x] = s + 1 + sz x.2 := by show s + (1 + sz x.2 + 0) = _; omega
    rw [e] at h2
    exact ⟨h1.1, h1.2.1, h1.2.2.1, h1.2.2.2.1, h2⟩
theorem r_blE {tb : Nat → Nat} {n : Nat} {e : Nat × Nat} {M : Mem} (h : RE e M ∧ TxE tb n M) : P_12_blanks_0 FU M ∧ ∃ M', F_12_blanks_0 FU M = M' ∧ (RE e M' ∧ TxE tb n M') ∧ Kp r4 M M' := by
  obtain ⟨h1, tx, p1, p2, p3⟩ := h
  have n6 := tx.1
  obtain ⟨g1, M2, g2, g3, g4⟩ := r_blanks FU p1 M tx p3 p2 (by unfold FU; omega)
  exact ⟨g1, M2, g2, ⟨h1.k g4 (fun c j z => by unfold r4 at z; omega), tx.k g4 (fun c j z => by unfold r4 at z; omega), skT tb n p1, (sk_b (tb := tb) p2).2, g3⟩, g4⟩
theorem r_stL {tb : Nat → Nat} {n k o q2 : Nat} {u : MU} {rF : Mem → Mem} {rP : Mem → Prop} (hn : n ≤ 150) (ho : 0 < o) (hko : o + k = 6) (hS : RSt tb n u rF rP k o) (hq2 : q2 < 80) : ∀ (f p s : Nat) (M : Mem), RT tb n (skT tb n p) M → p ≤ n → RP u M → rd M 0 30 = nI s → rd M 0 8 = nI o → 2 * s ≤ p → n - p < f → ∃ M', (P_12_readsStep_165 rF rP q2 M' → ∀ g, f < g → P_12_readsStep_134 rF rP g q2 M) ∧ (∀ g, f < g → F_12_readsStep_134 rF g q2 M = F_12_readsStep_165 rF q2 M') ∧ RSl tb n k o s (wSq tb n u (wSt tb n u k (o + 1)) o f p) M' ∧ Kp (rSs s) M M' := by
  intro f
  induction f with
  | zero => intro p s M _ _ _ _ _ _ h; omega
  | succ f ih =>
    intro p s M h hp hu h30 h8 hs hf0
    have hb := sk_b (tb := tb) hp
    have hne : ¬ o = 0 := by omega
    obtain ⟨b1, b2⟩ := r_byte h.1 (i := skT tb n p) (by omega)
    have e93 : (chT tb n (skT tb n p) = 93) ↔ (skT tb n p < n ∧ tb (skT tb n p) = 93) := ch_eq (c := 93) (fun z => (h.1.2.2 _ z).2) (by omega)
    rw [wSq, if_neg (fun z => hne z.1)]
    by_cases c2 : skT tb n p < n ∧ tb (skT tb n p) = 93
    · rw [if_pos ⟨hne, c2⟩]
      refine ⟨M, fun hP g hg => ?_, fun g hg => ?_, ⟨⟨skT tb n p, h, c2.1, c2.2, rfl⟩, h30, h8, trivial⟩, Kp.rf⟩
      · obtain ⟨g, rfl⟩ : ∃ g', g = g' + 1 := ⟨g - 1, by omega⟩
        rw [P_12_readsStep_134, h.2.1, b2]
        exact ⟨hq2, fun z => absurd h.2.2.2 z, fun _ => ⟨b1, fun _ => hP, fun z => absurd (e93.mpr c2) z⟩⟩
      · obtain ⟨g, rfl⟩ : ∃ g', g = g' + 1 := ⟨g - 1, by omega⟩
        rw [F_12_readsStep_134, if_pos h.2.2.2, h.2.1, b2, if_pos (e93.mpr c2)]
    rw [if_neg (fun z => c2 z.2)]
    obtain ⟨a1, M1, a2, a3, a4⟩ := hS s (skT tb n p) M h hu h30 h8 (by omega)
    rw [sk_sk hp] at a3
    have hf : ∀ g, f + 1 < g → (P_12_readsStep_158 rF rP (P_12_readsStep_134 rF rP (g - 1)) q2 M1 → P_12_readsStep_134 rF rP g q2 M) ∧ F_12_readsStep_134 rF g q2 M = F_12_readsStep_158 rF (F_12_readsStep_134 rF (g - 1)) q2 M1 := by
      intro g hg
      obtain ⟨g, rfl⟩ : ∃ g', g = g' + 1 := ⟨g - 1, by omega⟩
      have e93' : ¬ chT tb n (skT tb n p) = 93 := fun z => c2 (e93.mp z)
      rw [P_12_readsStep_134, F_12_readsStep_134, h.2.1, b2, if_pos h.2.2.2, if_neg e93', a2, Nat.add_sub_cancel]
      exact ⟨fun z => ⟨hq2, fun w => absurd h.2.2.2 w, fun _ => ⟨b1, fun w => absurd w e93', fun _ => ⟨a1, z⟩⟩⟩, rfl⟩
    cases o1 : wS1 tb n u (wSt tb n u k (o + 1)) o (skT tb n p) with
    | inl e =>
      rw [o1] at a3
      have a3' : RE e M1 ∧ TxE tb n M1 := a3
      obtain ⟨g1, M2, g2, g3, g4⟩ := r_blE a3'
      have last : ∀ f, 0 < f → (P_12_readsStep_165 rF rP q2 M2 → P_12_readsStep_134 rF rP f q2 M2) ∧ F_12_readsStep_134 rF f q2 M2 = F_12_readsStep_165 rF q2 M2 := by
        intro f hf
        obtain ⟨g, rfl⟩ : ∃ g, f = g + 1 := ⟨f - 1, by omega⟩
        rw [P_12_readsStep_134, F_12_readsStep_134, if_neg g3.1.ne]
        exact ⟨fun z => ⟨hq2, fun _ => z, fun w => absurd w g3.1.ne⟩, rfl⟩
      refine ⟨M2, fun hP g hg => (hf g hg).1 ?_, fun g hg => ?_, g3, a4.tr g4.t4S⟩
      · rw [P_12_readsStep_158, P_12_readsStep_162, g2]
        exact ⟨hq2, g1, hq2, (last (g - 1) (by omega)).1 hP⟩
      · rw [(hf g hg).2, F_12_readsStep_158, F_12_readsStep_162, g2]
        exact (last (g - 1) (by omega)).2
    | inr x =>
      obtain ⟨x, p1⟩ := x
      rw [o1] at a3
      obtain ⟨T1, t30, t8, tA⟩ : RT tb n p1 M1 ∧ rd M1 0 30 = nI (s + szL 1 (szP 1 k) [x]) ∧ rd M1 0 8 = nI o ∧ RAL (szP 1 k) (RAP k) [x] s M1 := a3
      have bb := ws1_b (f := szP 1 k) (g := PWP u k) hb.2 (by omega) (fun _ p hp => wst_b k (o + 1) p (by omega) hp) o1
      obtain ⟨g1, M2, g2, g3, g4⟩ := r_bl T1
      obtain ⟨M', i1, i2, i3, i4⟩ := ih p1 (s + szL 1 (szP 1 k) [x]) M2 g3 bb.2.1 ((hu.s a4).t4 g4) (by rw [g4.g (by unfold r4; omega)]; exact t30) (by rw [g4.g (by unfold r4; omega)]; exact t8) (by omega) (by omega)
      refine ⟨M', fun hP g hg => (hf g hg).1 ?_, fun g hg => ?_, ?_, (a4.tr g4.t4S).tr (i4.sS (by omega))⟩
      · rw [P_12_readsStep_158, P_12_readsStep_162, g2]
        exact ⟨hq2, g1, hq2, i1 hP (g - 1) (by omega)⟩
      · rw [(hf g hg).2, F_12_readsStep_158, F_12_readsStep_162, g2]
        exact i2 (g - 1) (by omega)
      · show RSl tb n k o s (bnd (wSq tb n u (wSt tb n u k (o + 1)) o f p1) _) M'
        cases o2 : wSq tb n u (wSt tb n u k (o + 1)) o f p1 with
        | inl e => rw [o2] at i3; exact i3
        | inr y =>
          obtain ⟨r, p2⟩ := y
          rw [o2] at i3
          obtain ⟨y1, y2, y3, y4⟩ := i3
          refine ⟨y1, ?_, y3, RAL_c (RAL.g (fun a s => RAP.g k a s) [x] s tA (fun z j h1 h2 => ?_)) y4⟩
          · show rd M' 0 30 = nI (s + szL 1 (szP 1 k) (x :: r))
            rw [szL_c, ← Nat.add_assoc]
            exact y2
          · rw [i4.g (by unfold rSs; omega), g4.g (by unfold r4; omega)]
/-! faults in again -/
theorem s171N {tb : Nat → Nat} {n q s : Nat} {e : Nat × Nat} {rF : Mem → Mem} {rP : Mem → Prop} {M : Mem} (h : RE e M ∧ TxE tb n M) (hq : q < 80) (hs : s ≤ q) : P_12_readsStep_171 rF rP q M ∧ ∃ M', F_12_readsStep_171 rF q M = M' ∧ (RE e M' ∧ TxE tb n M') ∧ Kp (rSs s) M M' := by
  obtain ⟨a1, M', a2, a3, a4⟩ := s181N (rF := rF) (rP := rP) (RE.w8 (v := rd M 0 8 - 1) h) hq hs
  rw [P_12_readsStep_171, F_12_readsStep_171]
  exact ⟨⟨hq, a1⟩, M', a2, a3, (Kp.w (p := rSs s) Kp.rf (Or.inl ⟨rfl, by omega⟩)).tr a4⟩
theorem s165N {tb : Nat → Nat} {n q s : Nat} {e : Nat × Nat} {rF : Mem → Mem} {rP : Mem → Prop} {M : Mem} (h : RE e M ∧ TxE tb n M) (hq : q < 80) (hs : s ≤ q) : P_12_readsStep_165 rF rP q M ∧ ∃ M', F_12_readsStep_165 rF q M = M' ∧ (RE e M' ∧ TxE tb n M') ∧ Kp (rSs s) M M' := by
  obtain ⟨b1, b2⟩ := r_signN (x := 93) h.1.ne
  obtain ⟨a1, a2⟩ := s171N (rF := rF) (rP := rP) h hq hs
  rw [P_12_readsStep_165, F_12_readsStep_165, b2]
  exact ⟨⟨hq, b1, a1⟩, a2⟩
theorem s130N {tb : Nat → Nat} {n q s : Nat} {e : Nat × Nat} {rF : Mem → Mem} {rP : Mem → Prop} {M : Mem} (h : RE e M ∧ TxE tb n M) (hq : q < 80) (hs : s ≤ q) : P_12_readsStep_130 rF rP q M ∧ ∃ M', F_12_readsStep_130 rF q M = M' ∧ (RE e M' ∧ TxE tb n M') ∧ Kp (rSs s) M M' := by
  obtain ⟨b1, M1, b2, b3, b4⟩ := r_blE h
  obtain ⟨a1, M', a2, a3, a4⟩ := s165N (rF := rF) (rP := rP) b3 hq hs
  have hFU : FU = 6999 + 1 := rfl
  rw [P_12_readsStep_130, F_12_readsStep_130, b2]
  generalize hL : FU = L at *
  subst hL
  rw [hFU, P_12_readsStep_134, F_12_readsStep_134, if_neg b3.1.ne, ← hFU]
  exact ⟨⟨hq, b1, hq, fun _ => a1, fun z => absurd z b3.1.ne⟩, M', a2, a3, b4.t4S.tr a4⟩
theorem s123N {tb : Nat → Nat} {n q s : Nat} {e : Nat × Nat} {x : Int32} {rF : Mem → Mem} {rP : Mem → Prop} {M : Mem} (h : RE e M ∧ TxE tb n M) (hq : q < 80) (hs : s ≤ q) : P_12_readsStep_123 rF rP q x 1 q M ∧ ∃ M', F_12_readsStep_123 rF q x 1 q M = M' ∧ (RE e M' ∧ TxE tb n M') ∧ Kp (rSs s) M M' := by
  have hK : Kp rRw M (wr M (398 + q) 1 x) := Kp.rf.w (Or.inl ⟨by omega, by omega⟩)
  have h2 := REx.w h hK
  obtain ⟨b1, b2⟩ := r_signN (x := 91) h2.1.ne
  obtain ⟨a1, M', a2, a3, a4⟩ := s130N (rF := rF) (rP := rP) h2 hq hs
  rw [P_12_readsStep_123, F_12_readsStep_123, cl1, b2]
  exact ⟨⟨hq, hq, (vp_iff (i := 1) (by omega)).mpr (by omega), b1, a1⟩, M', a2, a3, (Kp.w (p := rSs s) Kp.rf (Or.inr ⟨by omega, by omega⟩)).tr a4⟩
/-! the head of a step -/
theorem s44 {tb : Nat → Nat} {n p s : Nat} {u : MU} {x : Int32} {rF : Mem → Mem} {rP : Mem → Prop} {M : Mem} (h : RT tb n p M) (hu : RP u M) (h30 : rd M 0 30 = nI s) (hs : s < 80) : ∃ M3, (((¬ x = 0 → P_12_readsStep_88 rF rP x s M3) ∧ (x = 0 → P_12_number_0 0 (rd M3 4 2 - 1) M3 ∧ P_12_readsStep_87 rF rP x s (F_12_number_0 0 (rd M3 4 2 - 1) M3).1 1 s (F_12_number_0 0 (rd M3 4 2 - 1) M3).2)) → P_12_readsStep_44 rF rP x M) ∧ F_12_readsStep_44 rF x M = (if x = 0 then F_12_readsStep_87 rF x s (F_12_number_0 0 (rd M3 4 2 - 1) M3).1 1 s (F_12_number_0 0 (rd M3 4 2 - 1) M3).2 else F_12_readsStep_88 rF x s M3) ∧ RT tb n p M3 ∧ RP u M3 ∧ rd M3 0 30 = nI (s + 1) ∧ rd M3 0 8 = rd M 0 8 ∧ rd M3 (398 + s) 0 = x ∧ Kp (rSs s) M M3 := by
  have hK : Kp rRw M (wr (wr M 0 30 (nI (s + 1))) (398 + s) 0 x) := (Kp.rf.w (Or.inr ⟨rfl, by omega⟩)).w (Or.inl ⟨by omega, by omega⟩)
  have hK2 : Kp (rSs s) M (wr (wr M 0 30 (nI (s + 1))) (398 + s) 0 x) := (Kp.rf.w (Or.inl ⟨rfl, by omega⟩)).w (Or.inr ⟨by omega, by omega⟩)
  have v := (vp_iff (i := s) (n := 80) (by omega)).mpr hs
  refine ⟨wr (wr M 0 30 (nI (s + 1))) (398 + s) 0 x, ?_, ?_, h.w hK, hu.s hK2, by rw [rd_c (by omega), rd_s], by rw [rd_c (by omega), rd_i (by omega)], rd_s _ _ _ _, hK2⟩
  · intro z
    rw [P_12_readsStep_44, h30, nI_clamp (by omega), cl0, cl2, nI_1]
    exact ⟨v, z⟩
  · rw [F_12_readsStep_44, h30, nI_clamp (by omega), cl0, cl2, nI_1]
theorem wDr_m {β : Type} {tb : Nat → Nat} {n p : Nat} {u : MU} (F : Nat → β) : bnd (tkN tb n p 0 (uM u)) (fun b => bnd (tkS 59 tb n b.2) (fun p => (.inr (F b.1, p) : TRs (β × Nat)))) = bnd (wDr tb n u p) (fun y => .inr (F y.1, y.2)) := by
  unfold wDr
  cases tkN tb n p 0 (uM u) with
  | inl e => rfl
  | inr b =>
    show bnd (tkS 59 tb n b.2) _ = bnd (bnd (tkS 59 tb n b.2) _) _
    cases tkS 59 tb n b.2 with
    | inl e => rfl
    | inr p => rfl
