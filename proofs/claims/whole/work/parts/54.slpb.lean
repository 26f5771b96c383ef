/-! MATHEMATICS 24: slips, both sides -/
theorem r_laysSlips {u : MU} {s : SU} {w : WU} {M : Mem} (hp : RP u M) (hr : RR u s (rd M 20)) (hw : RK w M) (h1 : 1 ≤ w.1) : P_12_laysSlips_0 M ∧ ∃ M', F_12_laysSlips_0 M = M' ∧ Kp rS M M' ∧ ∀ r, r < uN u → SV u s w M' 0 r := by
  have hu := hp.1
  have hn := hu.1
  have h12 := hw.1.1
  have e1 : nI w.1 - 1 = nI (w.1 - 1) := pk_sub (b := 1) h1
  rw [P_12_laysSlips_0, F_12_laysSlips_0, hw.2.1, e1]
  refine lqd (S := Mem) (F := fun n i q => F_12_laysSlips_7 n i q) (P := fun n i q => P_12_laysSlips_7 n i q) (Q := fun z => ∃ M', z = M' ∧ Kp rS M M' ∧ ∀ r, r < uN u → SV u s w M' 0 r) (fun k q => k ≤ w.1 ∧ Kp rS M q ∧ ∀ i, k ≤ i → i < w.1 → ∀ r, r < uN u → SV u s w q i r) ?_ ?_ FU (w.1 - 1) M ⟨by omega, Kp.rf, fun i h2 h3 => by omega⟩ (by unfold FU; omega)
  · rintro nn k M2 ⟨hk, hK2, hI⟩ ih
    try dsimp only at ih ⊢
    have q0 : ¬ nI k < 0 := nI_pos (by omega)
    rw [P_12_laysSlips_7, F_12_laysSlips_7]
    simp only [q0, if_true, if_false, true_imp_iff, false_imp_iff, not_true_eq_false, not_false_eq_true, true_and, and_true, implies_true, reduceIte]
    refine lq (S := Mem) (F := fun n i q => F_12_laysSlips_13 (F_12_laysSlips_7 nn) n (nI k) i q) (P := fun n i q => P_12_laysSlips_13 (P_12_laysSlips_7 nn) n (nI k) i q) (Q := fun z => ∃ M', z = M' ∧ Kp rS M M' ∧ ∀ r, r < uN u → SV u s w M' 0 r) (uN u) (fun r q => Kp rS M q ∧ (∀ i', k < i' → i' < w.1 → ∀ q', q' < uN u → SV u s w q i' q') ∧ ∀ q', q' < r → SV u s w q k q') ?_ ?_ FU 0 M2 ⟨hK2, fun i' h2 h3 => hI i' (by omega) h3, fun q' h => by omega⟩ (Nat.zero_le _) (FU_ge (by omega))
    · rintro n r M3 hrN ⟨hK3, hD3, hE3⟩ ih3
      try dsimp only at ih3 ⊢
      have hp3 := hp.k hK3 (fun a j z => by unfold rS at z; omega)
      have hw3 := hw.k hK3 (fun a j z => by unfold rS at z; omega)
      have q1 : ¬ nI (uN u) ≤ nI r := nI_ge hrN (by omega)
      have e2 : (nI k = nI (w.1 - 1)) ↔ k + 1 = w.1 := by rw [nI_eq (by omega) (by omega)]; omega
      have hh := r_slipRoom (k7 := F_12_laysSlips_7 nn) (pk7 := P_12_laysSlips_7 nn) (Q := fun z => ∃ M', z = M' ∧ Kp rS M M' ∧ ∀ r, r < uN u → SV u s w M' 0 r) hp hr hw (i0 := k) (by omega) hrN hK3 hD3 hE3 (fun M4 k1 k2 k3 => ih3 M4 ⟨k1, k2, k3⟩)
      rw [P_12_laysSlips_13, F_12_laysSlips_13, cl0, hp3.2.1, hw3.2.1, e1]
      simp only [q1, e2, if_true, if_false, true_imp_iff, false_imp_iff, not_true_eq_false, not_false_eq_true, true_and, and_true, implies_true, reduceIte]
      by_cases c : k + 1 = w.1
      · simpa [c] using hh
      · simpa [c] using hh
    · rintro n M3 ⟨hK3, hD3, hE3⟩
      try dsimp only
      have hp3 := hp.k hK3 (fun a j z => by unfold rS at z; omega)
      have q1 : nI (uN u) ≤ nI (uN u) := nI_le (Nat.le_refl _) (by omega)
      rw [P_12_laysSlips_13, F_12_laysSlips_13, cl0, hp3.2.1]
      simp only [q1, if_true, if_false, true_imp_iff, false_imp_iff, not_true_eq_false, not_false_eq_true, true_and, and_true, implies_true, reduceIte]
      refine ih M3 ⟨by omega, hK3, fun i h2 h3 r hr => ?_⟩
      by_cases e : i = k
      · subst e; exact hE3 r hr
      · exact hD3 i (by omega) h3 r hr
  · rintro n M2 ⟨hk, hK2, hI⟩
    try dsimp only
    rw [P_12_laysSlips_7, F_12_laysSlips_7]
    simp only [(by decide : (-1 : Int32) < 0), if_true, if_false, true_imp_iff, false_imp_iff, not_true_eq_false, not_false_eq_true, true_and, and_true, implies_true, reduceIte]
    exact ⟨M2, rfl, hK2, fun r hr => hI 0 (Nat.le_refl _) (by omega) r hr⟩
/-- the answers of slips -/
def SLR (u : MU) (s : SU) (w : WU) (a b : Int32) : Prop := (∃ m f, a = nI m ∧ m ≤ 12 ∧ f ≤ 12 ∧ (∃ r, r < uN u ∧ Wl u s w 0 r m f) ∧ (∀ r, r < uN u → ∀ m' f', Wl u s w 0 r m' f' → m ≤ m' ∧ (m' = m → f' ≤ f)) ∧ b = if m = 0 then -1 else nI f) ∨ (a = -1 ∧ b = -1 ∧ ∀ r, r < uN u → ∀ m f, ¬ Wl u s w 0 r m f)
theorem SLR.eq {u : MU} {s : SU} {w : WU} {a b a' b' : Int32} (h : SLR u s w a b) (h' : SLR u s w a' b') : a = a' ∧ b = b' := by
  rcases h with ⟨m, f, rfl, _, _, ⟨r, hr, hw⟩, h2, rfl⟩ | ⟨rfl, rfl, h2⟩ <;> rcases h' with ⟨m', f', rfl, _, _, ⟨r', hr', hw'⟩, h2', rfl⟩ | ⟨rfl, rfl, h2'⟩
  · have x1 := h2 r' hr' m' f' hw'
    have x2 := h2' r hr m f hw
    have em : m = m' := by omega
    subst em
    have ef : f = f' := by have := x1.2 rfl; have := x2.2 rfl; omega
    subst ef
    exact ⟨rfl, rfl⟩
  · exact absurd hw (h2' r hr m f)
  · exact absurd hw' (h2 r' hr' m' f')
  · exact ⟨rfl, rfl⟩
theorem r_slips {u : MU} {s : SU} {w : WU} {M : Mem} (x : Int32) (hp : RP u M) (hw : WW w) (h1 : 1 ≤ w.1) (hS : ∀ r, r < uN u → SV u s w M 0 r) : P_12_slips_51 x M ∧ ∃ a b, F_12_slips_51 x M = (if x = 0 then a else b, M) ∧ SLR u s w a b := by
  have hu := hp.1
  have hn := hu.1
  rw [P_12_slips_51, F_12_slips_51]
  refine lq (S := Nat × Int32) (F := fun n i q => F_12_slips_60 n x (nI q.1) q.2 i M) (P := fun n i q => P_12_slips_60 n x (nI q.1) q.2 i M) (Q := fun z => ∃ a b, z = (if x = 0 then a else b, M) ∧ SLR u s w a b) (uN u) (fun i q => q.1 ≤ 999 ∧ ((q.1 < 999 ∧ ∃ f, q.2 = nI f ∧ f ≤ 12 ∧ (∃ r, r < i ∧ Wl u s w 0 r q.1 f) ∧ ∀ r, r < i → ∀ m' f', Wl u s w 0 r m' f' → q.1 ≤ m' ∧ (m' = q.1 → f' ≤ f)) ∨ (q.1 = 999 ∧ ∀ r, r < i → ∀ m f, ¬ Wl u s w 0 r m f))) ?_ ?_ FU 0 (999, -1) ⟨Nat.le_refl _, Or.inr ⟨rfl, fun r h => by omega⟩⟩ (Nat.zero_le _) (FU_ge (by omega))
  · rintro n r ⟨A, B⟩ hr ⟨hA, hI⟩ ih
    try dsimp only at hA hI ih ⊢
    have q1 : ¬ nI (uN u) ≤ nI r := nI_ge hr (by omega)
    have v1 : vp_in (nI r) 10 := (vp_iff (by omega)).mpr (by omega)
    obtain ⟨A', B', h3, h4, h5, h6, h7⟩ := hS r hr
    have e3 : (nI A ≤ nI A') ↔ A ≤ A' := nI_leI (by omega) (by omega)
    have e4 : (nI A' = nI A) ↔ A' = A := nI_eq (by omega) (by omega)
    rw [P_12_slips_60, F_12_slips_60, cl0, hp.2.1]
    simp only [q1, v1, nI_clamp (n := r) (by omega), h3, h4, e3, e4, r_less (M := M) (a := A) (b := A') (by omega) (by omega), if_true, if_false, true_imp_iff, false_imp_iff, not_true_eq_false, not_false_eq_true, true_and, and_true, implies_true, reduceIte, P_12_slips_123, F_12_slips_123]
    by_cases c1 : A ≤ A'
    · have c1' : ¬ A' < A := by omega
      by_cases c2 : A' = A
      · have hg := ih (A, F_12_more_0 M B (nI B')) ⟨hA, ?_⟩
        · simpa [c1, c1', c2] using hg
        · show (A < 999 ∧ _) ∨ (A = 999 ∧ _)
          rcases hI with ⟨a1, f, rfl, a2, ⟨r0, a3, a4⟩, a5⟩ | ⟨a1, a2⟩
          · left
            refine ⟨a1, if f < B' then B' else f, by rw [r_more (by omega) (by omega)], by split <;> omega, ?_, fun q hq m' f' hm => ?_⟩
            · rcases h7 with ⟨g1, g2, g3⟩ | ⟨g1, g2, g3⟩
              · by_cases c3 : f < B'
                · rw [if_pos c3, ← c2]; exact ⟨r, by omega, g2⟩
                · rw [if_neg c3]; exact ⟨r0, by omega, a4⟩
              · omega
            · by_cases z : q = r
              · subst z
                rcases h7 with ⟨g1, g2, g3⟩ | ⟨g1, g2, g3⟩
                · have := g3 m' f' hm
                  refine ⟨by omega, fun y => ?_⟩
                  have := this.2 (by omega)
                  split <;> omega
                · exact absurd hm (g3 m' f')
              · have := a5 q (by omega) m' f' hm
                refine ⟨this.1, fun y => ?_⟩
                have := this.2 y
                split <;> omega
          · right
            refine ⟨a1, fun q hq m f hm => ?_⟩
            by_cases z : q = r
            · subst z
              rcases h7 with ⟨g1, g2, g3⟩ | ⟨g1, g2, g3⟩
              · omega
              · exact g3 m f hm
            · exact a2 q (by omega) m f hm
      · have hg := ih (A, B) ⟨hA, ?_⟩
        · simpa [c1, c1', c2] using hg
        · show (A < 999 ∧ _) ∨ (A = 999 ∧ _)
          rcases hI with ⟨a1, f, rfl, a2, ⟨r0, a3, a4⟩, a5⟩ | ⟨a1, a2⟩
          · left
            refine ⟨a1, f, rfl, a2, ⟨r0, by omega, a4⟩, fun q hq m' f' hm => ?_⟩
            by_cases z : q = r
            · subst z
              rcases h7 with ⟨g1, g2, g3⟩ | ⟨g1, g2, g3⟩
              · have := g3 m' f' hm
                exact ⟨by omega, fun y => by omega⟩
              · exact absurd hm (g3 m' f')
            · exact a5 q (by omega) m' f' hm
          · right
            refine ⟨a1, fun q hq m f hm => ?_⟩
            by_cases z : q = r
            · subst z
              rcases h7 with ⟨g1, g2, g3⟩ | ⟨g1, g2, g3⟩
              · omega
              · exact g3 m f hm
            · exact a2 q (by omega) m f hm
    · have c1' : A' < A := by omega
      have hg := ih (A', nI B') ⟨by show A' ≤ 999; omega, ?_⟩
      · simpa [c1, c1'] using hg
      · show (A' < 999 ∧ _) ∨ (A' = 999 ∧ _)
        left
        rcases h7 with ⟨g1, g2, g3⟩ | ⟨g1, g2, g3⟩
        · refine ⟨g1, B', rfl, h6, ⟨r, by omega, g2⟩, fun q hq m' f' hm => ?_⟩
          by_cases z : q = r
          · subst z; exact g3 m' f' hm
          · rcases hI with ⟨a1, f, _, a2, _, a5⟩ | ⟨a1, a2⟩
            · have := a5 q (by omega) m' f' hm
              exact ⟨by omega, fun y => by omega⟩
            · exact absurd hm (a2 q (by omega) m' f')
        · omega
  · rintro n ⟨A, B⟩ ⟨hA, hI⟩
    try dsimp only at hA hI ⊢
    have q1 : nI (uN u) ≤ nI (uN u) := nI_le (Nat.le_refl _) (by omega)
    have e1 : (nI A < 999) ↔ A < 999 := nI_ltI (b := 999) (by omega) (by omega)
    have e2 : (nI A = 0) ↔ A = 0 := nI_eq (b := 0) (by omega) (by omega)
    rw [P_12_slips_60, F_12_slips_60, cl0, hp.2.1]
    simp only [q1, e1, e2, if_true, if_false, true_imp_iff, false_imp_iff, not_true_eq_false, not_false_eq_true, true_and, and_true, implies_true, reduceIte]
    rcases hI with ⟨a1, f, rfl, a2, ⟨r0, a3, a4⟩, a5⟩ | ⟨a1, a2⟩
    · refine ⟨nI A, if A = 0 then -1 else nI f, ?_, Or.inl ⟨A, f, rfl, (Wl_m hw (by omega) a4).1, a2, ⟨r0, a3, a4⟩, a5, rfl⟩⟩
      simp only [a1, if_true]
      by_cases c : x = 0
      · simp [c]
      · by_cases c2 : A = 0 <;> simp [c, c2]
    · refine ⟨-1, -1, ?_, Or.inr ⟨rfl, rfl, a2⟩⟩
      rw [if_neg (by omega)]
      by_cases c : x = 0 <;> simp [c]
/-! the class -/
def cS (c _ : Nat) : Prop := c = 1595
def CW (u : MU) (s : SU) (w : WU) (M : Mem) (i r : Nat) : Prop := ∃ C, rd M 1595 (i * 10 + r) = nI C ∧ ((C < 99 ∧ (∃ f, Wl u s w i r C f) ∧ ∀ m f, Wl u s w i r m f → C ≤ m) ∨ (C = 99 ∧ ∀ m f, ¬ Wl u s w i r m f))
theorem c_fewBehind {u : MU} {s : SU} {w : WU} {M : Mem} (hp : CP 1561 u M) (hg : CG u s M) {i0 r : Nat} (hi : i0 + 1 < 12) (hr : r < uN u) (hC : ∀ q, q < uN u → CW u s w M (i0 + 1) q) : P_9_fewestBehind_0 M (nI i0) (nI r) ∧ ∃ C, F_9_fewestBehind_0 M (nI i0) (nI r) = nI C ∧ C ≤ 99 ∧ ((C < 99 ∧ (∃ q f, ed u s r q ∧ Wl u s w (i0 + 1) q C f) ∧ ∀ q m f, ed u s r q → Wl u s w (i0 + 1) q m f → C ≤ m) ∨ (C = 99 ∧ ∀ q m f, ed u s r q → ¬ Wl u s w (i0 + 1) q m f)) := by
  have hu := hp.1
  have hn := hu.1
  have q10 : ¬ (10 : Int32) ≤ nI r := nI_ge (b := 10) (by omega) (by omega)
  have ea : F_0_aheadOf_0 M (nI r) = nbA u s (bi r) := by
    rw [F_0_aheadOf_0, if_neg (nI_pos (by omega)), if_neg q10, nI_clamp (by omega)]
    exact hg.1 r (by omega)
  have pa : P_0_aheadOf_0 M (nI r) := by
    rw [P_0_aheadOf_0]
    exact ⟨fun _ => trivial, fun _ => ⟨fun _ => trivial, fun _ => (vp_iff (by omega)).mpr (by omega)⟩⟩
  have hA : ∀ q, bt (nbA u s (bi r)) q = true ↔ ed u s r q := by
    intro q
    rw [b_nbA hu]
    constructor
    · rintro ⟨c, h1, h2⟩
      rw [b_bi (by omega), decide_eq_true_eq] at h1
      subst h1; exact h2
    · intro h; exact ⟨r, by rw [b_bi (by omega), decide_eq_true_eq], h⟩
  rw [P_9_fewestBehind_0, F_9_fewestBehind_0, ea]
  suffices h : P_9_fewestBehind_16 M FU (nI i0) (nbA u s (bi r)) 99 0 ∧ ∃ C, F_9_fewestBehind_16 M FU (nI i0) (nbA u s (bi r)) 99 0 = nI C ∧ C ≤ 99 ∧ ((C < 99 ∧ (∃ q f, ed u s r q ∧ Wl u s w (i0 + 1) q C f) ∧ ∀ q m f, ed u s r q → Wl u s w (i0 + 1) q m f → C ≤ m) ∨ (C = 99 ∧ ∀ q m f, ed u s r q → ¬ Wl u s w (i0 + 1) q m f)) from ⟨⟨pa, h.1⟩, h.2⟩
  refine lq (S := Nat) (F := fun n i q => F_9_fewestBehind_16 M n (nI i0) (nbA u s (bi r)) (nI q) i) (P := fun n i q => P_9_fewestBehind_16 M n (nI i0) (nbA u s (bi r)) (nI q) i) (Q := fun z => ∃ C, z = nI C ∧ C ≤ 99 ∧ ((C < 99 ∧ (∃ q f, ed u s r q ∧ Wl u s w (i0 + 1) q C f) ∧ ∀ q m f, ed u s r q → Wl u s w (i0 + 1) q m f → C ≤ m) ∨ (C = 99 ∧ ∀ q m f, ed u s r q → ¬ Wl u s w (i0 + 1) q m f))) (uN u) (fun j C => C ≤ 99 ∧ ((C < 99 ∧ (∃ q f, ed u s r q ∧ Wl u s w (i0 + 1) q C f) ∧ ∀ q m f, q < j → ed u s r q → Wl u s w (i0 + 1) q m f → C ≤ m) ∨ (C = 99 ∧ ∀ q m f, q < j → ed u s r q → ¬ Wl u s w (i0 + 1) q m f))) ?_ ?_ FU 0 99 ⟨Nat.le_refl _, Or.inr ⟨rfl, fun q m f h => by omega⟩⟩ (Nat.zero_le _) (FU_ge (by omega))
  · rintro n j C hj ⟨hC1, hI⟩ ih
    try dsimp only at ih ⊢
    have q1 : ¬ nI (uN u) ≤ nI j := nI_ge hj (by omega)
    have z1 := b_z (x := nbA u s (bi r)) (i := j) (by omega)
    obtain ⟨C', h3, h7⟩ := hC j hj
    have hC' : C' ≤ 99 := by omega
    have ex : (nI i0 + 1) * 10 + nI j = nI ((i0 + 1) * 10 + j) := by
      rw [nI_1, show (10 : Int32) = nI 10 from rfl, pk_mul, nI_add]
    have v1 : vp_in (nI ((i0 + 1) * 10 + j)) 120 := (vp_iff (by omega)).mpr (by omega)
    have e3 : (nI C' < nI C) ↔ C' < C := nI_ltI (by omega) (by omega)
    rw [P_9_fewestBehind_16, F_9_fewestBehind_16, hp.2.1]
    simp only [q1, z1, ex, v1, nI_clamp (n := (i0 + 1) * 10 + j) (by omega), h3, e3, if_true, if_false, true_imp_iff, false_imp_iff, not_true_eq_false, not_false_eq_true, true_and, and_true, implies_true, reduceIte, P_9_fewestBehind_58, F_9_fewestBehind_58]
    cases ce : bt (nbA u s (bi r)) j
    · have hne : ¬ ed u s r j := fun z => by rw [(hA j).mpr z] at ce; cases ce
      have hg2 := ih C ⟨hC1, ?_⟩
      · simpa using hg2
      · rcases hI with ⟨a1, a2, a3⟩ | ⟨a1, a2⟩
        · refine Or.inl ⟨a1, a2, fun q m f hq he => ?_⟩
          by_cases z : q = j
          · subst z; exact absurd he hne
          · exact a3 q m f (by omega) he
        · refine Or.inr ⟨a1, fun q m f hq he => ?_⟩
          by_cases z : q = j
          · subst z; exact absurd he hne
          · exact a2 q m f (by omega) he
    · have he := (hA j).mp ce
      have hg2 := ih (if C' < C then C' else C) ⟨by split <;> omega, ?_⟩
      · by_cases c : C' < C <;> simpa [c] using hg2
      · by_cases c : C' < C
        · rw [if_pos c]
          rcases h7 with ⟨g1, ⟨f, g2⟩, g3⟩ | ⟨g1, g2⟩
          · refine Or.inl ⟨g1, ⟨j, f, he, g2⟩, fun q m f' hq he' hm => ?_⟩
            by_cases z : q = j
            · subst z; exact g3 m f' hm
            · rcases hI with ⟨a1, a2, a3⟩ | ⟨a1, a2⟩
              · have := a3 q m f' (by omega) he' hm; omega
              · exact absurd hm (a2 q m f' (by omega) he')
          · omega
        · rw [if_neg c]
          rcases hI with ⟨a1, a2, a3⟩ | ⟨a1, a2⟩
          · refine Or.inl ⟨a1, a2, fun q m f hq he' hm => ?_⟩
            by_cases z : q = j
            · subst z
              rcases h7 with ⟨g1, _, g3⟩ | ⟨g1, g2⟩
              · have := g3 m f hm; omega
              · exact absurd hm (g2 m f)
            · exact a3 q m f (by omega) he' hm
          · refine Or.inr ⟨a1, fun q m f hq he' hm => ?_⟩
            by_cases z : q = j
            · subst z
              rcases h7 with ⟨g1, _, g3⟩ | ⟨g1, g2⟩
              · omega
              · exact g2 m f hm
            · exact a2 q m f (by omega) he' hm
  · rintro n C ⟨hC1, hI⟩
    try dsimp only
    have q1 : nI (uN u) ≤ nI (uN u) := nI_le (Nat.le_refl _) (by omega)
    rw [P_9_fewestBehind_16, F_9_fewestBehind_16, hp.2.1]
    simp only [q1, if_true, if_false, true_imp_iff, false_imp_iff, not_true_eq_false, not_false_eq_true, true_and, and_true, implies_true, reduceIte]
    refine ⟨C, rfl, hC1, ?_⟩
    rcases hI with ⟨a1, a2, a3⟩ | ⟨a1, a2⟩
    · exact Or.inl ⟨a1, a2, fun q m f he => a3 q m f (ed_lt hu he).2.1 he⟩
    · exact Or.inr ⟨a1, fun q m f he => a2 q m f (ed_lt hu he).2.1 he⟩
theorem c_slipAt {u : MU} {w : WU} {M : Mem} (hp : CP 1561 u M) (hw : CK w M) {i r : Nat} (hi : i < w.1) (hr : r < uN u) : P_9_slip_0 M (nI i) (nI r) ∧ F_9_slip_0 M (nI i) (nI r) = nI (slW u w i r) := by
  have hn := hp.1.1
  have h12 := hw.1.1
  have w2 := hp.1.2.2.2.2.2 r hr
  have hwi := hw.1.2 i hi
  have f1 := (hp.2.2.2.2.2.2.1 r hr).1
  simp only [Nat.reduceAdd] at f1
  rw [P_9_slip_0, F_9_slip_0, nI_clamp (by omega), nI_clamp (by omega), f1, hw.2.2 i hi]
  refine ⟨⟨(vp_iff (by omega)).mpr (by omega), (vp_iff (by omega)).mpr (by omega)⟩, ?_⟩
  have e1 : (nI (uE u r) = nI (w.2 i)) ↔ uE u r = w.2 i := nI_eq (by omega) (by omega)
  unfold slW
  by_cases c : uE u r = w.2 i
  · rw [if_pos (e1.mpr c), if_pos c]; rfl
  · rw [if_neg (fun z => c (e1.mp z)), if_neg c]; rfl
/-- what is left in the class's rows: all that firstWrong stands on -/
theorem c_fewestWrong {u : MU} {s : SU} {w : WU} {M : Mem} (hp : CP 1561 u M) (hr : CR 1622 u s M) (hw : CK w M) (h1 : 1 ≤ w.1) : P_9_fewestWrong_0 M ∧ ∃ a M', F_9_fewestWrong_0 M = (a, M') ∧ Kp (fun c j => cG c j ∨ cS c j) M M' ∧ CG u s M' ∧ (∀ i, i < w.1 → ∀ r, r < uN u → CW u s w M' i r) ∧ ((∃ m, a = nI m ∧ m ≤ 12 ∧ (∃ r f, r < uN u ∧ Wl u s w 0 r m f) ∧ ∀ r m' f', r < uN u → Wl u s w 0 r m' f' → m ≤ m') ∨ (a = -1 ∧ ∀ r, r < uN u → ∀ m f, ¬ Wl u s w 0 r m f)) := by
  have hu := hp.1
  have hn := hu.1
  have h12 := hw.1.1
  obtain ⟨r1, M1, r2, r3, r4⟩ := c_renew hp hr
  have hp1 := hp.k r3 (fun a j z => by unfold cG at z; omega)
  have hw1 := hw.k r3 (fun a j z => by unfold cG at z; omega)
  have hne : ¬ rd M 1592 7 = 0 := by rw [hw.2.1]; exact nI_ne0 (by omega) (by omega)
  have e1 : nI w.1 - 1 = nI (w.1 - 1) := pk_sub (b := 1) h1
  rw [P_9_fewestWrong_0, F_9_fewestWrong_0, r2, P_9_fewestWrong_16, F_9_fewestWrong_16, hw1.2.1, e1]
  simp only [hne, r1, if_true, if_false, true_imp_iff, false_imp_iff, not_true_eq_false, not_false_eq_true, true_and, and_true, implies_true, reduceIte]
  have mono : ∀ {M2}, Kp cS M1 M2 → Kp (fun c j => cG c j ∨ cS c j) M M2 := fun k => (r3.mono (fun c j z => Or.inl z)).tr (k.mono (fun c j z => Or.inr z))
  have last : ∀ M2, Kp cS M1 M2 → (∀ i, i < w.1 → ∀ r, r < uN u → CW u s w M2 i r) → P_9_fewestWrong_102 FU 99 0 M2 ∧ ∃ a M', F_9_fewestWrong_102 FU 99 0 M2 = (a, M') ∧ Kp (fun c j => cG c j ∨ cS c j) M M' ∧ CG u s M' ∧ (∀ i, i < w.1 → ∀ r, r < uN u → CW u s w M' i r) ∧ ((∃ m, a = nI m ∧ m ≤ 12 ∧ (∃ r f, r < uN u ∧ Wl u s w 0 r m f) ∧ ∀ r m' f', r < uN u → Wl u s w 0 r m' f' → m ≤ m') ∨ (a = -1 ∧ ∀ r, r < uN u → ∀ m f, ¬ Wl u s w 0 r m f)) := by
    intro M2 hK2 hC2
    have hp2 := hp1.k hK2 (fun a j z => by unfold cS at z; omega)
    refine lq (S := Nat) (F := fun n i q => F_9_fewestWrong_102 n (nI q) i M2) (P := fun n i q => P_9_fewestWrong_102 n (nI q) i M2) (Q := fun z => ∃ a M', z = (a, M') ∧ Kp (fun c j => cG c j ∨ cS c j) M M' ∧ CG u s M' ∧ (∀ i, i < w.1 → ∀ r, r < uN u → CW u s w M' i r) ∧ ((∃ m, a = nI m ∧ m ≤ 12 ∧ (∃ r f, r < uN u ∧ Wl u s w 0 r m f) ∧ ∀ r m' f', r < uN u → Wl u s w 0 r m' f' → m ≤ m') ∨ (a = -1 ∧ ∀ r, r < uN u → ∀ m f, ¬ Wl u s w 0 r m f))) (uN u) (fun j C => C ≤ 99 ∧ ((C < 99 ∧ (∃ r f, r < uN u ∧ Wl u s w 0 r C f) ∧ ∀ r m f, r < j → Wl u s w 0 r m f → C ≤ m) ∨ (C = 99 ∧ ∀ r m f, r < j → ¬ Wl u s w 0 r m f))) ?_ ?_ FU 0 99 ⟨Nat.le_refl _, Or.inr ⟨rfl, fun r m f h => by omega⟩⟩ (Nat.zero_le _) (FU_ge (by omega))
    · rintro n j C hj ⟨hC1, hI⟩ ih
      try dsimp only at ih ⊢
      have q1 : ¬ nI (uN u) ≤ nI j := nI_ge hj (by omega)
      obtain ⟨C', h3, h7⟩ := hC2 0 (by omega) j hj
      rw [Nat.zero_mul, Nat.zero_add] at h3
      have hC' : C' ≤ 99 := by omega
      have v1 : vp_in (nI j) 120 := (vp_iff (by omega)).mpr (by omega)
      have e3 : (nI C' < nI C) ↔ C' < C := nI_ltI (by omega) (by omega)
      rw [P_9_fewestWrong_102, F_9_fewestWrong_102, hp2.2.1]
      simp only [q1, v1, nI_clamp (n := j) (by omega), h3, e3, if_true, if_false, true_imp_iff, false_imp_iff, not_true_eq_false, not_false_eq_true, true_and, and_true, implies_true, reduceIte]
      have hg2 := ih (if C' < C then C' else C) ⟨by split <;> omega, ?_⟩
      · by_cases c : C' < C <;> simpa [c] using hg2
      · by_cases c : C' < C
        · rw [if_pos c]
          rcases h7 with ⟨g1, ⟨f, g2⟩, g3⟩ | ⟨g1, g2⟩
          · refine Or.inl ⟨g1, ⟨j, f, hj, g2⟩, fun q m f' hq hm => ?_⟩
            by_cases z : q = j
            · subst z; exact g3 m f' hm
            · rcases hI with ⟨a1, a2, a3⟩ | ⟨a1, a2⟩
              · have := a3 q m f' (by omega) hm; omega
              · exact absurd hm (a2 q m f' (by omega))
          · omega
        · rw [if_neg c]
          rcases hI with ⟨a1, a2, a3⟩ | ⟨a1, a2⟩
          · refine Or.inl ⟨a1, a2, fun q m f hq hm => ?_⟩
            by_cases z : q = j
            · subst z
              rcases h7 with ⟨g1, _, g3⟩ | ⟨g1, g2⟩
              · have := g3 m f hm; omega
              · exact absurd hm (g2 m f)
            · exact a3 q m f (by omega) hm
          · refine Or.inr ⟨a1, fun q m f hq hm => ?_⟩
            by_cases z : q = j
            · subst z
              rcases h7 with ⟨g1, _, g3⟩ | ⟨g1, g2⟩
              · omega
              · exact g2 m f hm
            · exact a2 q m f (by omega) hm
    · rintro n C ⟨hC1, hI⟩
      try dsimp only
      have q1 : nI (uN u) ≤ nI (uN u) := nI_le (Nat.le_refl _) (by omega)
      have e3 : (nI C = 99) ↔ C = 99 := nI_eq (b := 99) (by omega) (by omega)
      have hg2 : CG u s M2 := r4.k hK2 (fun a j z => by unfold cS at z; omega)
      rw [P_9_fewestWrong_102, F_9_fewestWrong_102, hp2.2.1]
      simp only [q1, e3, if_true, if_false, true_imp_iff, false_imp_iff, not_true_eq_false, not_false_eq_true, true_and, and_true, implies_true, reduceIte]
      rcases hI with ⟨a1, ⟨r, f, a2, a3⟩, a4⟩ | ⟨a1, a2⟩
      · rw [if_neg (by omega)]
        exact ⟨_, M2, rfl, mono hK2, hg2, hC2, Or.inl ⟨C, rfl, (Wl_m hw.1 (by omega) a3).1, ⟨r, f, a2, a3⟩, fun r m' f' hr hm => a4 r m' f' hr hm⟩⟩
      · rw [if_pos a1]
        exact ⟨_, M2, rfl, mono hK2, hg2, hC2, Or.inr ⟨rfl, fun r hr m f => a2 r m f hr⟩⟩
  refine lqd (S := Mem) (F := fun n i q => F_9_fewestWrong_23 n i q) (P := fun n i q => P_9_fewestWrong_23 n i q) (Q := fun z => ∃ a M', z = (a, M') ∧ Kp (fun c j => cG c j ∨ cS c j) M M' ∧ CG u s M' ∧ (∀ i, i < w.1 → ∀ r, r < uN u → CW u s w M' i r) ∧ ((∃ m, a = nI m ∧ m ≤ 12 ∧ (∃ r f, r < uN u ∧ Wl u s w 0 r m f) ∧ ∀ r m' f', r < uN u → Wl u s w 0 r m' f' → m ≤ m') ∨ (a = -1 ∧ ∀ r, r < uN u → ∀ m f, ¬ Wl u s w 0 r m f))) (fun k q => k ≤ w.1 ∧ Kp cS M1 q ∧ ∀ i, k ≤ i → i < w.1 → ∀ r, r < uN u → CW u s w q i r) ?_ ?_ FU (w.1 - 1) M1 ⟨by omega, Kp.rf, fun i h2 h3 => by omega⟩ (by unfold FU; omega)
  · rintro nn k M2 ⟨hk, hK2, hI⟩ ih
    try dsimp only at ih ⊢
    have q0 : ¬ nI k < 0 := nI_pos (by omega)
    rw [P_9_fewestWrong_23, F_9_fewestWrong_23]
    simp only [q0, if_true, if_false, true_imp_iff, false_imp_iff, not_true_eq_false, not_false_eq_true, true_and, and_true, implies_true, reduceIte]
    refine lq (S := Mem) (F := fun n i q => F_9_fewestWrong_29 (F_9_fewestWrong_23 nn) n (nI k) i q) (P := fun n i q => P_9_fewestWrong_29 (P_9_fewestWrong_23 nn) n (nI k) i q) (Q := fun z => ∃ a M', z = (a, M') ∧ Kp (fun c j => cG c j ∨ cS c j) M M' ∧ CG u s M' ∧ (∀ i, i < w.1 → ∀ r, r < uN u → CW u s w M' i r) ∧ ((∃ m, a = nI m ∧ m ≤ 12 ∧ (∃ r f, r < uN u ∧ Wl u s w 0 r m f) ∧ ∀ r m' f', r < uN u → Wl u s w 0 r m' f' → m ≤ m') ∨ (a = -1 ∧ ∀ r, r < uN u → ∀ m f, ¬ Wl u s w 0 r m f))) (uN u) (fun r q => Kp cS M1 q ∧ (∀ i', k < i' → i' < w.1 → ∀ q', q' < uN u → CW u s w q i' q') ∧ ∀ q', q' < r → CW u s w q k q') ?_ ?_ FU 0 M2 ⟨hK2, fun i' h2 h3 => hI i' (by omega) h3, fun q' h => by omega⟩ (Nat.zero_le _) (FU_ge (by omega))
    · rintro n r M3 hrN ⟨hK3, hD3, hE3⟩ ih3
      try dsimp only at ih3 ⊢
      have hp3 := hp1.k hK3 (fun a j z => by unfold cS at z; omega)
      have hw3 := hw1.k hK3 (fun a j z => by unfold cS at z; omega)
      have hg3 : CG u s M3 := r4.k hK3 (fun a j z => by unfold cS at z; omega)
      have q1 : ¬ nI (uN u) ≤ nI r := nI_ge hrN (by omega)
      have e2 : (nI k = nI (w.1 - 1)) ↔ k + 1 = w.1 := by rw [nI_eq (by omega) (by omega)]; omega
      obtain ⟨t1, t2⟩ := c_slipAt hp3 hw3 (i := k) (by omega) hrN
      have hs1 : slW u w k r ≤ 1 := by unfold slW; split <;> omega
      have v1 : vp_in (nI (k * 10 + r)) 120 := (vp_iff (by omega)).mpr (by omega)
      have ex : nI k * 10 + nI r = nI (k * 10 + r) := by rw [show (10 : Int32) = nI 10 from rfl, pk_mul, nI_add]
      have fin60 : ∀ R, R ≤ 99 → ((R + slW u w k r < 99 ∧ (∃ f, Wl u s w k r (R + slW u w k r) f) ∧ ∀ m f, Wl u s w k r m f → R + slW u w k r ≤ m) ∨ (99 ≤ R + slW u w k r ∧ ∀ m f, ¬ Wl u s w k r m f)) → P_9_fewestWrong_60 (P_9_fewestWrong_23 nn) (P_9_fewestWrong_29 (P_9_fewestWrong_23 nn) n) (nI k) (nI r) (nI R) M3 ∧ ∃ a M', F_9_fewestWrong_60 (F_9_fewestWrong_23 nn) (F_9_fewestWrong_29 (F_9_fewestWrong_23 nn) n) (nI k) (nI r) (nI R) M3 = (a, M') ∧ Kp (fun c j => cG c j ∨ cS c j) M M' ∧ CG u s M' ∧ (∀ i, i < w.1 → ∀ r, r < uN u → CW u s w M' i r) ∧ ((∃ m, a = nI m ∧ m ≤ 12 ∧ (∃ r f, r < uN u ∧ Wl u s w 0 r m f) ∧ ∀ r m' f', r < uN u → Wl u s w 0 r m' f' → m ≤ m') ∨ (a = -1 ∧ ∀ r, r < uN u → ∀ m f, ¬ Wl u s w 0 r m f)) := by
        intro R hR hok
        have e3 : (nI (R + slW u w k r) < 99) ↔ R + slW u w k r < 99 := nI_ltI (b := 99) (by omega) (by omega)
        rw [P_9_fewestWrong_60, F_9_fewestWrong_60, t2, ex, nI_add]
        simp only [t1, v1, e3, nI_clamp (n := k * 10 + r) (by omega), if_true, if_false, true_imp_iff, false_imp_iff, not_true_eq_false, not_false_eq_true, true_and, and_true, implies_true, reduceIte]
        generalize hv : (if R + slW u w k r < 99 then nI (R + slW u w k r) else 99) = v
        have hg2 := ih3 (wr M3 1595 (k * 10 + r) v) ⟨hK3.w rfl, fun i' h2 h3 q hq => ?_, fun q hq => ?_⟩
        · exact hg2
        · obtain ⟨C, g1, g2⟩ := hD3 i' h2 h3 q hq
          exact ⟨C, by rw [rd_i (by omega)]; exact g1, g2⟩
        · by_cases e : q = r
          · subst e
            rcases hok with ⟨g1, g2, g3⟩ | ⟨g1, g2⟩
            · exact ⟨R + slW u w k q, by rw [rd_s, ← hv, if_pos g1], Or.inl ⟨g1, g2, g3⟩⟩
            · exact ⟨99, by rw [rd_s, ← hv, if_neg (by omega)]; rfl, Or.inr ⟨rfl, g2⟩⟩
          · obtain ⟨C, g1, g2⟩ := hE3 q (by omega)
            exact ⟨C, by rw [rd_i (by omega)]; exact g1, g2⟩
      rw [P_9_fewestWrong_29, F_9_fewestWrong_29, hp3.2.1, hw3.2.1, e1]
      simp only [q1, e2, if_true, if_false, true_imp_iff, false_imp_iff, not_true_eq_false, not_false_eq_true, true_and, and_true, implies_true, reduceIte]
      by_cases c : k + 1 = w.1
      · have := fin60 0 (by omega) (Or.inl ⟨by omega, ⟨_, (Wl_last c).mpr ⟨by omega, rfl⟩⟩, fun m f hm => by
          have := ((Wl_last c).mp hm).1; omega⟩)
        simpa [c, nI_0] using this
      · obtain ⟨b1, R, b2, b3, b4⟩ := c_fewBehind hp3 hg3 (i0 := k) (by omega) hrN (fun q hq => hD3 (k + 1) (by omega) (by omega) q hq)
        rw [b2]
        have := fin60 R b3 (by
          rcases b4 with ⟨g1, ⟨q, f, g2, g3⟩, g4⟩ | ⟨g1, g2⟩
          · have hb := (Wl_m hw.1 (show k + 1 < w.1 by omega) g3).1
            refine Or.inl ⟨by omega, ⟨_, (Wl_step (by omega)).mpr ⟨q, R, f, g2, g3, rfl, rfl⟩⟩, fun m f' hm => ?_⟩
            obtain ⟨q', m', f'', h5, h6, h7, _⟩ := (Wl_step (by omega)).mp hm
            have := g4 q' m' f'' h5 h6
            omega
          · refine Or.inr ⟨by omega, fun m f hm => ?_⟩
            obtain ⟨q', m', f'', h5, h6, h7, _⟩ := (Wl_step (by omega)).mp hm
            exact g2 q' m' f'' h5 h6)
        simpa [c, b1] using this
    · rintro n M3 ⟨hK3, hD3, hE3⟩
      try dsimp only
      have hp3 := hp1.k hK3 (fun a j z => by unfold cS at z; omega)
      have q1 : nI (uN u) ≤ nI (uN u) := nI_le (Nat.le_refl _) (by omega)
      rw [P_9_fewestWrong_29, F_9_fewestWrong_29, hp3.2.1]
      simp only [q1, if_true, if_false, true_imp_iff, false_imp_iff, not_true_eq_false, not_false_eq_true, true_and, and_true, implies_true, reduceIte]
      refine ih M3 ⟨by omega, hK3, fun i h2 h3 r hr => ?_⟩
      by_cases e : i = k
      · subst e; exact hE3 r hr
      · exact hD3 i (by omega) h3 r hr
  · rintro n M2 ⟨hk, hK2, hI⟩
    try dsimp only
    rw [P_9_fewestWrong_23, F_9_fewestWrong_23]
    simp only [(by decide : (-1 : Int32) < 0), if_true, if_false, true_imp_iff, false_imp_iff, not_true_eq_false, not_false_eq_true, true_and, and_true, implies_true, reduceIte]
    exact last M2 hK2 (fun i hi r hr => hI i (by omega) hi r hr)
