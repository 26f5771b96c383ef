/-! MATHEMATICS 50: a walk's text, both sides -/
def wkA (tb : Nat → Nat) (n : Nat) : Nat → WU → Nat → TRs WU
  | 0, w, _ => .inr w
  | k + 1, w, p => if skT tb n p < n then bnd (tkN tb n p 0 8) (fun x => if w.1 = 12 then .inl (3, skT tb n p) else bnd (tkS 59 tb n x.2) (fun p2 => wkA tb n k (w.1 + 1, up w.2 w.1 x.1) p2)) else .inr w
def RKd (w : WU) (M : Mem) : Prop := WW w ∧ ∀ i, i < w.1 → rd M 18 i = nI (w.2 i)
def rK (c j : Nat) : Prop := (c = 0 ∧ (j = 4 ∨ j = 5 ∨ j = 6)) ∨ c = 18
theorem WW.s {w : WU} {v : Nat} (h : WW w) (h1 : w.1 < 12) (hv : v < 8) : WW (w.1 + 1, up w.2 w.1 v) := by
  refine ⟨by show w.1 + 1 ≤ 12; omega, fun k hk => ?_⟩
  have hk' : k < w.1 + 1 := hk
  show up w.2 w.1 v k < 8
  by_cases e : k = w.1
  · rw [e, up_s]; exact hv
  · rw [up_o e]; exact h.2 k (by omega)
theorem RKd.t {w : WU} {M M' : Mem} (h : RKd w M) (hk : Kp rT M M') : RKd w M' := ⟨h.1, fun i hi => by rw [hk.g (by unfold rT; omega)]; exact h.2 i hi⟩
theorem RKd.t4 {w : WU} {M M' : Mem} (h : RKd w M) (hk : Kp r4 M M') : RKd w M' := ⟨h.1, fun i hi => by rw [hk.g (by unfold r4; omega)]; exact h.2 i hi⟩
theorem Kp.tK {M M' : Mem} (h : Kp rT M M') : Kp rK M M' := h.mono (fun c j z => by unfold rT at z; unfold rK; omega)
theorem Kp.t4K {M M' : Mem} (h : Kp r4 M M') : Kp rK M M' := h.mono (fun c j z => by unfold r4 at z; unfold rK; omega)
def RWk (tb : Nat → Nat) (n : Nat) (o : TRs WU) (x : Int32) (M : Mem) : Prop := match o with
  | .inl e => RE e M ∧ TxE tb n M
  | .inr w => x = nI w.1 ∧ rd M 0 5 = 0 ∧ RKd w M
theorem r_wkF {tb : Nat → Nat} {n : Nat} {e : Nat × Nat} {x y : Int32} {M : Mem} (h : RE e M) (hx : TxE tb n M) : ∃ M', (P_12_walk_128 x M' → ∀ f, 0 < f → P_12_walk_97 (P_12_walk_46 f) x y M) ∧ (∀ f, 0 < f → F_12_walk_97 (F_12_walk_46 f) x y M = F_12_walk_128 x M') ∧ RE e M' ∧ TxE tb n M' ∧ Kp rK M M' := by
  obtain ⟨s1, s2⟩ := r_signN (x := 59) h.ne
  obtain ⟨tx, p1, p2, p3⟩ := hx
  have n6 := tx.1
  obtain ⟨g1, M2, g2, g3, g4⟩ := r_blanks FU p1 M tx p3 p2 (by unfold FU; omega)
  have E2 : RE e M2 := h.k g4 (fun c j z => by unfold r4 at z; omega)
  refine ⟨M2, fun hP f hf => ?_, fun f hf => ?_, E2, ⟨tx.k g4 (fun c j z => by unfold r4 at z; omega), skT tb n p1, (sk_b (tb := tb) p2).2, g3⟩, g4.t4K⟩
  · obtain ⟨f, rfl⟩ : ∃ g, f = g + 1 := ⟨f - 1, by omega⟩
    rw [P_12_walk_97, s2, P_12_walk_103, P_12_walk_121, P_12_walk_125, g2, P_12_walk_46]
    exact ⟨s1, fun _ => ⟨g1, fun _ => hP, fun z => absurd z E2.ne⟩, fun z => absurd z h.ne⟩
  · obtain ⟨f, rfl⟩ : ∃ g, f = g + 1 := ⟨f - 1, by omega⟩
    rw [F_12_walk_97, s2, F_12_walk_103, if_neg h.ne, F_12_walk_121, F_12_walk_125, g2, F_12_walk_46, if_neg E2.ne]
theorem r_wk {tb : Nat → Nat} {n : Nat} : ∀ (k p : Nat) (w : WU) (M : Mem), RT tb n (skT tb n p) M → p ≤ n → RKd w M → w.1 + k = 13 → 0 < k → ∃ M' x', (P_12_walk_128 x' M' → ∀ f, k < f → P_12_walk_46 f (nI w.1) M) ∧ (∀ f, k < f → F_12_walk_46 f (nI w.1) M = F_12_walk_128 x' M') ∧ RWk tb n (wkA tb n k w p) x' M' ∧ Kp rK M M' := by
  intro k
  induction k with
  | zero => intro p w M _ _ _ _ h; omega
  | succ k ih =>
    intro p w M h hp hw hck _
    have n6 := h.1.1
    have hb := sk_b (tb := tb) hp
    have e1 : (nI n ≤ nI (skT tb n p)) ↔ ¬ skT tb n p < n := by rw [nI_leI (by omega) (by omega)]; omega
    rw [wkA]
    by_cases c1 : skT tb n p < n
    · obtain ⟨a1, M1, a2, a3, a4⟩ := r_number (xl := 0) (xh := 7) (lo := 0) (hi := 8) h (fun v hv => hin_c (lo := 0) (hi := 7) (by omega) (by omega) hv)
      rw [tkN_sk hp] at a2 a3
      rw [if_pos c1]
      have hf : ∀ f, k + 1 < f → (P_12_walk_46 f (nI w.1) M ↔ P_12_walk_76 (P_12_walk_46 (f - 1)) (nI w.1) (nI (skT tb n p)) (nI (vlO (tkN tb n p 0 8))) M1) ∧ F_12_walk_46 f (nI w.1) M = F_12_walk_76 (F_12_walk_46 (f - 1)) (nI w.1) (nI (skT tb n p)) (nI (vlO (tkN tb n p 0 8))) M1 := by
        intro f hf
        obtain ⟨g, rfl⟩ : ∃ g, f = g + 1 := ⟨f - 1, by omega⟩
        rw [P_12_walk_46, F_12_walk_46, h.2.2.2, h.1.2.1, h.2.1, if_pos rfl, if_neg (fun z => e1.mp z c1), a2]
        simp only [e1, c1, not_true_eq_false, a1, Nat.add_sub_cancel, if_true, if_false, true_imp_iff, false_imp_iff, not_true_eq_false, not_false_eq_true, true_and, and_true, implies_true, reduceIte]
      have w1 := hw.t a4
      have e12 : (nI w.1 = 12) ↔ w.1 = 12 := nI_eq (b := 12) (by omega) (by omega)
      cases o : tkN tb n p 0 8 with
      | inl e =>
        rw [o] at a3 hf
        have a3' : RE e M1 ∧ TxE tb n M1 := a3
        obtain ⟨M', i1, i2, i3, i4, i5⟩ := r_wkF (x := nI w.1) (y := nI (vlO (.inl e : TRs (Nat × Nat)))) a3'.1 a3'.2
        refine ⟨M', nI w.1, fun hP f hf' => ?_, fun f hf' => ?_, ⟨i3, i4⟩, a4.tK.tr i5⟩
        · rw [(hf f hf').1, P_12_walk_76]
          exact ⟨fun _ => i1 hP (f - 1) (by omega), fun z => absurd z a3'.1.ne⟩
        · rw [(hf f hf').2, F_12_walk_76, if_neg a3'.1.ne]
          exact i2 (f - 1) (by omega)
      | inr y =>
        obtain ⟨v, p1⟩ := y
        rw [o] at a3 hf
        have a3' : RT tb n p1 M1 := a3
        have hv := tkN_b o
        show ∃ M' x', _ ∧ _ ∧ RWk tb n (if w.1 = 12 then .inl (3, skT tb n p) else bnd (tkS 59 tb n p1) (fun p2 => wkA tb n k (w.1 + 1, up w.2 w.1 v) p2)) x' M' ∧ _
        by_cases c12 : w.1 = 12
        · obtain ⟨M2, z1, z2, z3⟩ := r_wrong a3'.2.2.2 (k := 3) (q := skT tb n p) (by omega) (by omega) (by omega)
          have z1' : F_12_wrong_0 3 (nI (skT tb n p)) M1 = M2 := z1
          have X2 : TxE tb n M2 := ⟨a3'.1.k z3 (fun c j z => by unfold rT at z; omega), p1, hv.2.2.1, by rw [← z1', r_wrong4]; exact a3'.2.1⟩
          obtain ⟨M', i1, i2, i3, i4, i5⟩ := r_wkF (x := nI w.1) (y := nI (vlO (.inr (v, p1) : TRs (Nat × Nat)))) z2 X2
          rw [if_pos c12]
          refine ⟨M', nI w.1, fun hP f hf' => ?_, fun f hf' => ?_, ⟨i3, i4⟩, (a4.tK.tr z3.tK).tr i5⟩
          · rw [(hf f hf').1, P_12_walk_76, z1']
            exact ⟨fun z => absurd a3'.2.2.2 z, fun _ => ⟨fun z => absurd (e12.mpr c12) z, fun _ => i1 hP (f - 1) (by omega)⟩⟩
          · rw [(hf f hf').2, F_12_walk_76, if_pos a3'.2.2.2, if_pos (e12.mpr c12), z1']
            exact i2 (f - 1) (by omega)
        · rw [if_neg c12]
          obtain ⟨s1, M2, s2, s3, s4⟩ := r_sign (c := 59) a3' (by omega)
          have s1' : P_12_sign_0 59 M1 := s1
          have s2' : F_12_sign_0 59 M1 = M2 := s2
          cases o2 : tkS 59 tb n p1 with
          | inl e =>
            rw [o2] at s3
            have s3' : RE e M2 ∧ TxE tb n M2 := s3
            obtain ⟨tx, q1, q2, q3⟩ := s3'.2
            obtain ⟨g1, M3, g2, g3, g4⟩ := r_blanks FU q1 M2 tx q3 q2 (by unfold FU; omega)
            have E3 : RE e M3 := s3'.1.k g4 (fun c j z => by unfold r4 at z; omega)
            refine ⟨M3, nI w.1, fun hP f hf' => ?_, fun f hf' => ?_, ⟨E3, tx.k g4 (fun c j z => by unfold r4 at z; omega), skT tb n q1, (sk_b (tb := tb) q2).2, g3⟩, (a4.tK.tr s4.tK).tr g4.t4K⟩
            · obtain ⟨g, rfl⟩ : ∃ g, f = g + 2 := ⟨f - 2, by omega⟩
              rw [(hf _ hf').1, P_12_walk_76, P_12_walk_97, s2', P_12_walk_103, P_12_walk_121, P_12_walk_125, g2, show g + 2 - 1 = g + 1 from rfl, P_12_walk_46]
              exact ⟨fun z => absurd a3'.2.2.2 z, fun _ => ⟨fun _ => ⟨s1', fun _ => ⟨g1, fun _ => hP, fun z => absurd z E3.ne⟩, fun z => absurd z s3'.1.ne⟩, fun z => absurd (e12.mp z) c12⟩⟩
            · obtain ⟨g, rfl⟩ : ∃ g, f = g + 2 := ⟨f - 2, by omega⟩
              rw [(hf _ hf').2, F_12_walk_76, if_pos a3'.2.2.2, if_neg (fun z => c12 (e12.mp z)), F_12_walk_97, s2', F_12_walk_103, if_neg s3'.1.ne, F_12_walk_121, F_12_walk_125, g2, show g + 2 - 1 = g + 1 from rfl, F_12_walk_46, if_neg E3.ne]
          | inr p2 =>
            rw [o2] at s3
            have s3' : RT tb n p2 M2 := s3
            have w2 := w1.t s4
            have hw12 : w.1 < 12 := by have := hw.1.1; omega
            have K3 : Kp (fun c j => c = 18) M2 (wr M2 18 w.1 (nI v)) := Kp.rf.w rfl
            have T3 : RT tb n p2 (wr M2 18 w.1 (nI v)) := s3'.k K3 (fun c j z => by omega)
            have w3 : RKd (w.1 + 1, up w.2 w.1 v) (wr M2 18 w.1 (nI v)) := ⟨hw.1.s hw12 hv.2.1, fun i hi => by
              have hi' : i < w.1 + 1 := hi
              show rd (wr M2 18 w.1 (nI v)) 18 i = nI (up w.2 w.1 v i)
              by_cases e : i = w.1
              · rw [e, rd_s, up_s]
              · rw [rd_i e, up_o e]; exact w2.2 i (by omega)⟩
            obtain ⟨g1, M4, g2, g3, g4⟩ := r_bl T3
            obtain ⟨M', x', i1, i2, i3, i4⟩ := ih p2 (w.1 + 1, up w.2 w.1 v) M4 g3 s3'.2.2.1 (w3.t4 g4) (by show w.1 + 1 + k = 13; omega) (by omega)
            have v12 : vp_in (nI w.1) 12 := (vp_iff (by omega)).mpr hw12
            have hK' : Kp rK M2 (wr M2 18 w.1 (nI v)) := K3.mono (fun c j z => Or.inr z)
            have i1' : P_12_walk_128 x' M' → ∀ f, k < f → P_12_walk_46 f (nI (w.1 + 1)) M4 := i1
            have i2' : ∀ f, k < f → F_12_walk_46 f (nI (w.1 + 1)) M4 = F_12_walk_128 x' M' := i2
            refine ⟨M', x', fun hP f hf' => ?_, fun f hf' => ?_, i3, ((a4.tK.tr s4.tK).tr hK').tr (g4.t4K.tr i4)⟩
            · have j := i1' hP (f - 1) (by omega)
              rw [(hf f hf').1, P_12_walk_76, P_12_walk_97, s2', P_12_walk_103, nI_clamp (n := w.1) (by omega), nI_1]
              refine ⟨fun z => absurd a3'.2.2.2 z, fun _ => ⟨fun _ => ⟨s1', fun z => absurd s3'.2.2.2 z, fun _ => ⟨v12, ?_⟩⟩, fun z => absurd (e12.mp z) c12⟩⟩
              rw [P_12_walk_121, P_12_walk_125]
              show P_12_blanks_0 FU (wr M2 18 w.1 (nI v)) ∧ P_12_walk_46 (f - 1) (nI (w.1 + 1)) (F_12_blanks_0 FU (wr M2 18 w.1 (nI v)))
              rw [g2]
              exact ⟨g1, j⟩
            · have j := i2' (f - 1) (by omega)
              rw [(hf f hf').2, F_12_walk_76, if_pos a3'.2.2.2, if_neg (fun z => c12 (e12.mp z)), F_12_walk_97, s2', F_12_walk_103, if_pos s3'.2.2.2, nI_clamp (n := w.1) (by omega), nI_1, F_12_walk_121, F_12_walk_125]
              show F_12_walk_46 (f - 1) (nI (w.1 + 1)) (F_12_blanks_0 FU (wr M2 18 w.1 (nI v))) = _
              rw [g2]
              exact j
    · rw [if_neg c1]
      refine ⟨M, nI w.1, fun hP f hf' => ?_, fun f hf' => ?_, ⟨rfl, h.2.2.2, hw⟩, Kp.rf⟩
      · obtain ⟨g, rfl⟩ : ∃ g, f = g + 1 := ⟨f - 1, by omega⟩
        rw [P_12_walk_46, h.2.2.2, h.1.2.1, h.2.1]
        exact ⟨fun z => absurd rfl z, fun _ => ⟨fun _ => hP, fun z => absurd (e1.mpr c1) z⟩⟩
      · obtain ⟨g, rfl⟩ : ∃ g, f = g + 1 := ⟨f - 1, by omega⟩
        rw [F_12_walk_46, h.2.2.2, h.1.2.1, h.2.1, if_pos rfl, if_pos (e1.mpr c1)]
