/-! MATHEMATICS 23: slips of the eye -/
theorem lqd {S R : Type} {F : Nat → Int32 → S → R} {P : Nat → Int32 → S → Prop} {Q : R → Prop} (I : Nat → S → Prop) (body : ∀ n k s, I (k + 1) s → (∀ s', I k s' → P n (nI k + (-1)) s' ∧ Q (F n (nI k + (-1)) s')) → P (n + 1) (nI k) s ∧ Q (F (n + 1) (nI k) s)) (fin : ∀ n s, I 0 s → P (n + 1) (-1) s ∧ Q (F (n + 1) (-1) s)) : ∀ (n k : Nat) (s : S), I (k + 1) s → k + 1 < n → P n (nI k) s ∧ Q (F n (nI k) s) := by
  intro n
  induction n with
  | zero => intro k s _ h; omega
  | succ n ih =>
    intro k s hI hk
    refine body n k s hI (fun s' hI' => ?_)
    cases k with
    | zero =>
      obtain ⟨n, rfl⟩ : ∃ m, n = m + 1 := ⟨n - 1, by omega⟩
      rw [show nI 0 + (-1) = -1 by decide]
      exact fin n s' hI'
    | succ k => rw [pk_m1]; exact ih k s' hI' (by omega)
def slW (u : MU) (w : WU) (i r : Nat) : Nat := if uE u r = w.2 i then 0 else 1
def fsW (u : MU) (w : WU) (i r f : Nat) : Nat := if uE u r = w.2 i then f else i
def Wz (u : MU) (s : SU) (w : WU) : Nat → Nat → Nat → Nat → Prop
  | 0, r, m, f => m = slW u w (w.1 - 1) r ∧ f = fsW u w (w.1 - 1) r 12
  | k + 1, r, m, f => ∃ q m' f', ed u s r q ∧ Wz u s w k q m' f' ∧ m = m' + slW u w (w.1 - 1 - (k + 1)) r ∧ f = fsW u w (w.1 - 1 - (k + 1)) r f'
/-- from a line on: a way with m slips, the first at line f (12: none) -/
def Wl (u : MU) (s : SU) (w : WU) (i r m f : Nat) : Prop := Wz u s w (w.1 - 1 - i) r m f
theorem Wl_last {u : MU} {s : SU} {w : WU} {i r m f : Nat} (h : i + 1 = w.1) : Wl u s w i r m f ↔ m = slW u w i r ∧ f = fsW u w i r 12 := by
  unfold Wl
  rw [show w.1 - 1 - i = 0 by omega, Wz, show w.1 - 1 = i by omega]
theorem Wl_step {u : MU} {s : SU} {w : WU} {i r m f : Nat} (h : i + 1 < w.1) : Wl u s w i r m f ↔ ∃ q m' f', ed u s r q ∧ Wl u s w (i + 1) q m' f' ∧ m = m' + slW u w i r ∧ f = fsW u w i r f' := by
  unfold Wl
  rw [show w.1 - 1 - i = (w.1 - 1 - (i + 1)) + 1 by omega, Wz, show w.1 - 1 - (w.1 - 1 - (i + 1) + 1) = i by omega]
theorem Wl_b {u : MU} {s : SU} {w : WU} (hw : w.1 ≤ 12) : ∀ (k i r m f : Nat), i + k + 1 = w.1 → Wl u s w i r m f → m ≤ k + 1 ∧ (f = 12 ∨ (i ≤ f ∧ f < w.1)) ∧ (m = 0 ↔ f = 12) := by
  intro k
  induction k with
  | zero =>
    intro i r m f hi h
    obtain ⟨rfl, rfl⟩ := (Wl_last (by omega)).mp h
    unfold slW fsW
    by_cases c : uE u r = w.2 i
    · rw [if_pos c, if_pos c]; omega
    · rw [if_neg c, if_neg c]; omega
  | succ k ih =>
    intro i r m f hi h
    obtain ⟨q, m', f', h1, h2, rfl, rfl⟩ := (Wl_step (by omega)).mp h
    obtain ⟨g1, g2, g3⟩ := ih (i + 1) q m' f' (by omega) h2
    unfold slW fsW
    by_cases c : uE u r = w.2 i
    · rw [if_pos c, if_pos c]; omega
    · rw [if_neg c, if_neg c]; omega
theorem Wl_m {u : MU} {s : SU} {w : WU} (hw : WW w) {i r m f : Nat} (hi : i < w.1) (h : Wl u s w i r m f) : m ≤ 12 ∧ f ≤ 12 ∧ (m = 0 ↔ f = 12) ∧ (f = 12 ∨ (i ≤ f ∧ f < w.1)) := by
  have h12 := hw.1
  have := Wl_b h12 (w.1 - 1 - i) i r m f (by omega) h
  omega
/-- the best from there on -/
def bstL (u : MU) (s : SU) (w : WU) (i r A B : Nat) : Prop := A ≤ 1100 ∧ B ≤ 12 ∧ ((A < 999 ∧ Wl u s w i r A B ∧ ∀ m f, Wl u s w i r m f → A ≤ m ∧ (m = A → f ≤ B)) ∨ (999 ≤ A ∧ A ≤ 999 + (w.1 - i) ∧ ∀ m f, ¬ Wl u s w i r m f))
def rS (c _ : Nat) : Prop := 507 ≤ c ∧ c < 533
def SV (u : MU) (s : SU) (w : WU) (M : Mem) (i r : Nat) : Prop := ∃ A B, rd M (507 + i) r = nI A ∧ rd M (520 + i) r = nI B ∧ bstL u s w i r A B
/-- over doors below d: the least and the first -/
def bstD (u : MU) (s : SU) (w : WU) (i r d A B : Nat) : Prop := A ≤ 999 ∧ B ≤ 12 ∧ ((A < 999 ∧ (∃ e, e < d ∧ sB s e = false ∧ uF u e = r ∧ Wl u s w (i + 1) (uG u e) A B) ∧ ∀ e, e < d → sB s e = false → uF u e = r → ∀ m f, Wl u s w (i + 1) (uG u e) m f → A ≤ m ∧ (m = A → f ≤ B)) ∨ (A = 999 ∧ ∀ e, e < d → sB s e = false → uF u e = r → ∀ m f, ¬ Wl u s w (i + 1) (uG u e) m f))
theorem okD_S {u : MU} {s : SU} {w : WU} {i r A B : Nat} (hw : WW w) (hi : i + 1 < w.1) (h : bstD u s w i r (uM u) A B) : bstL u s w i r (A + slW u w i r) (fsW u w i r B) := by
  have h12 := hw.1
  have hs1 : slW u w i r ≤ 1 := by unfold slW; split <;> omega
  obtain ⟨h1, h2, h3⟩ := h
  refine ⟨by omega, by unfold fsW; split <;> omega, ?_⟩
  rcases h3 with ⟨a1, ⟨e, a2, a3, a4, a5⟩, a6⟩ | ⟨a1, a2⟩
  · left
    have hb := Wl_m hw hi a5
    refine ⟨by omega, (Wl_step hi).mpr ⟨uG u e, A, B, ⟨e, a2, a3, a4, rfl⟩, a5, rfl, rfl⟩, fun m f hm => ?_⟩
    obtain ⟨q, m', f', ⟨d, g1, g2, g3, g4⟩, g5, g6, g7⟩ := (Wl_step hi).mp hm
    rw [← g4] at g5
    have := a6 d g1 g2 g3 m' f' g5
    refine ⟨by omega, fun z => ?_⟩
    have := this.2 (by omega)
    rw [g7]; unfold fsW; split <;> omega
  · right
    refine ⟨by omega, by omega, fun m f hm => ?_⟩
    obtain ⟨q, m', f', ⟨d, g1, g2, g3, g4⟩, g5, g6, g7⟩ := (Wl_step hi).mp hm
    rw [← g4] at g5
    exact a2 d g1 g2 g3 m' f' g5
theorem l_S {u : MU} {s : SU} {w : WU} {i r : Nat} (hw : WW w) (hi : i + 1 = w.1) : bstL u s w i r (0 + slW u w i r) (fsW u w i r 12) := by
  have h12 := hw.1
  have hs1 : slW u w i r ≤ 1 := by unfold slW; split <;> omega
  refine ⟨by omega, by unfold fsW; split <;> omega, Or.inl ⟨by omega, (Wl_last hi).mpr ⟨by omega, rfl⟩, fun m f hm => ?_⟩⟩
  obtain ⟨rfl, rfl⟩ := (Wl_last hi).mp hm
  exact ⟨by omega, fun _ => Nat.le_refl _⟩
theorem wr_SV {M : Mem} {i j : Nat} {v : Int32} (a b : Nat) (c : Nat) : rd (wr M (c + i) j v) (c + a) b = if a = i ∧ b = j then v else rd M (c + a) b := by
  rw [rd_wr]
  by_cases e : a = i ∧ b = j
  · rw [if_pos e, if_pos ⟨by omega, e.2⟩]
  · rw [if_neg e, if_neg (fun z => e ⟨by omega, z.2⟩)]
/-- one room of one line -/
theorem r_slipRoom {u : MU} {s : SU} {w : WU} {M M1 : Mem} (hp : RP u M) (hr : RR u s (rd M 20)) (hw : RK w M) {i0 r : Nat} (hi : i0 < w.1) (hrN : r < uN u) (hK : Kp rS M M1) (hD : ∀ i', i0 < i' → i' < w.1 → ∀ q, q < uN u → SV u s w M1 i' q) (hE : ∀ q, q < r → SV u s w M1 i0 q)
    {k7 : Int32 → Mem → Mem} {pk7 : Int32 → Mem → Prop} {k13 : Int32 → Int32 → Mem → Mem} {pk13 : Int32 → Int32 → Mem → Prop} {Q : Mem → Prop}
    (hn' : ∀ M2, Kp rS M M2 → (∀ i', i0 < i' → i' < w.1 → ∀ q, q < uN u → SV u s w M2 i' q) → (∀ q, q < r + 1 → SV u s w M2 i0 q) → pk13 (nI i0) (nI r + 1) M2 ∧ Q (k13 (nI i0) (nI r + 1) M2)) :
    P_12_laysSlips_40 pk7 pk13 (nI i0) (nI r) (if i0 + 1 = w.1 then 0 else 999) M1 ∧ Q (F_12_laysSlips_40 k7 k13 (nI i0) (nI r) (if i0 + 1 = w.1 then 0 else 999) M1) := by
  have hu := hp.1
  have hn := hu.1
  have hm := hu.2.1
  have h12 := hw.1.1
  have w2 := hu.2.2.2.2.2 r hrN
  have hwi := hw.1.2 i0 hi
  have hp1 := hp.k hK (fun a j z => by unfold rS at z; omega)
  have hw1 := hw.k hK (fun a j z => by unfold rS at z; omega)
  have hr1 : RR u s (rd M1 20) := by rw [hK.row (c := 20) (fun j z => by unfold rS at z; omega)]; exact hr
  have v1 : vp_in (nI r) 10 := (vp_iff (by omega)).mpr (by omega)
  have v2 : vp_in (nI i0) 12 := (vp_iff (by omega)).mpr (by omega)
  have v2' : vp_in (nI i0) 13 := (vp_iff (by omega)).mpr (by omega)
  have e1 : (nI (uE u r) = nI (w.2 i0)) ↔ uE u r = w.2 i0 := nI_eq (by omega) (by omega)
  have esl : (if uE u r = w.2 i0 then (0 : Int32) else 1) = nI (slW u w i0 r) := by unfold slW; split <;> rfl
  /- the end of a room -/
  have endR : ∀ A B, bstL u s w i0 r (A + slW u w i0 r) (fsW u w i0 r B) → P_12_laysSlips_205 pk7 pk13 (nI i0) (nI r) (nI A) (nI B) (nI (slW u w i0 r)) M1 ∧ Q (F_12_laysSlips_205 k7 k13 (nI i0) (nI r) (nI A) (nI B) (nI (slW u w i0 r)) M1) := by
    intro A B hok
    have hs : (nI (slW u w i0 r) = 1) ↔ ¬ uE u r = w.2 i0 := by
      rw [← esl]
      by_cases c : uE u r = w.2 i0
      · simp [c]
      · simp [c]
    have hi13 : i0 < 13 := by omega
    rw [P_12_laysSlips_205, F_12_laysSlips_205]
    simp only [hs, v1, v2', hi13, nI_clamp (n := i0) (by omega), nI_clamp (n := r) (by omega), nI_add, if_true, if_false, true_imp_iff, false_imp_iff, not_true_eq_false, not_false_eq_true, true_and, and_true, implies_true, reduceIte, P_12_laysSlips_236, F_12_laysSlips_236]
    have hg := hn' (wr (wr M1 (507 + i0) r (nI (A + slW u w i0 r))) (520 + i0) r (nI (fsW u w i0 r B))) ((hK.w ⟨by omega, by omega⟩).w ⟨by omega, by omega⟩) (fun i' h1 h2 q hq => ?_) (fun q hq => ?_)
    · by_cases c : uE u r = w.2 i0
      · have ef : fsW u w i0 r B = B := if_pos c
        rw [ef] at hg
        simpa [c] using hg
      · have ef : fsW u w i0 r B = i0 := if_neg c
        rw [ef] at hg
        simpa [c] using hg
    · obtain ⟨A', B', h3, h4, h5⟩ := hD i' h1 h2 q hq
      refine ⟨A', B', ?_, ?_, h5⟩
      · rw [rd_c (by omega), wr_SV, if_neg (by omega)]; exact h3
      · rw [wr_SV, if_neg (by omega), rd_c (by omega)]; exact h4
    · by_cases e : q = r
      · subst e
        exact ⟨_, _, by rw [rd_c (by omega), wr_SV, if_pos ⟨rfl, rfl⟩], by rw [wr_SV, if_pos ⟨rfl, rfl⟩], hok⟩
      · obtain ⟨A', B', h3, h4, h5⟩ := hE q (by omega)
        refine ⟨A', B', ?_, ?_, h5⟩
        · rw [rd_c (by omega), wr_SV, if_neg (by omega)]; exact h3
        · rw [wr_SV, if_neg (by omega), rd_c (by omega)]; exact h4
  have elast : (nI w.1 - 1 ≤ nI i0) ↔ i0 + 1 = w.1 := by
    rw [show nI w.1 - 1 = nI (w.1 - 1) from pk_sub (b := 1) (by omega), nI_leI (by omega) (by omega)]; omega
  have go65 : P_12_laysSlips_65 pk7 pk13 (nI i0) (nI r) (if i0 + 1 = w.1 then 0 else 999) 12 (nI (slW u w i0 r)) M1 ∧ Q (F_12_laysSlips_65 k7 k13 (nI i0) (nI r) (if i0 + 1 = w.1 then 0 else 999) 12 (nI (slW u w i0 r)) M1) := by
    rw [P_12_laysSlips_65, F_12_laysSlips_65]
    by_cases cl : i0 + 1 = w.1
    · have hh := endR 0 12 (l_S hw.1 cl)
      have hFU : FU = 6999 + 1 := rfl
      rw [if_pos cl, hFU, P_12_laysSlips_70, F_12_laysSlips_70, cl1, hp1.2.2.1, hw1.2.1]
      simp only [elast, cl, if_true, if_false, true_imp_iff, false_imp_iff, not_true_eq_false, not_false_eq_true, true_and, and_true, implies_true, reduceIte]
      by_cases c : nI (uM u) ≤ 0
      · simp only [c, if_true, if_false, true_imp_iff, false_imp_iff, not_true_eq_false, not_false_eq_true, true_and, and_true, implies_true, reduceIte]; exact hh
      · simp only [c, if_true, if_false, true_imp_iff, false_imp_iff, not_true_eq_false, not_false_eq_true, true_and, and_true, implies_true, reduceIte]; exact hh
    · rw [if_neg cl]
      refine lq (S := Nat × Nat) (F := fun n i q => F_12_laysSlips_70 k7 k13 n (nI i0) (nI r) (nI q.1) (nI q.2) (nI (slW u w i0 r)) i M1) (P := fun n i q => P_12_laysSlips_70 pk7 pk13 n (nI i0) (nI r) (nI q.1) (nI q.2) (nI (slW u w i0 r)) i M1) (Q := Q) (uM u) (fun d q => bstD u s w i0 r d q.1 q.2) ?_ ?_ FU 0 (999, 12) ⟨Nat.le_refl _, Nat.le_refl _, Or.inr ⟨rfl, fun e h => by omega⟩⟩ (Nat.zero_le _) (FU_ge (by omega))
      · rintro n d ⟨A, B⟩ hd hI ih
        try dsimp only at hI ih ⊢
        have q1 : ¬ nI (uM u) ≤ nI d := nI_ge hd (by omega)
        have wd := hu.2.2.2.2.1 d hd
        obtain ⟨f1, f2, _, _⟩ := hp1.2.2.2.2.2.1 d hd
        obtain ⟨b1, b2⟩ := r_isBarred hd hu hr1
        have v3 : vp_in (nI d) 24 := (vp_iff (by omega)).mpr (by omega)
        have v4 : vp_in (nI (i0 + 1)) 13 := (vp_iff (by omega)).mpr (by omega)
        have v5 : vp_in (nI (uG u d)) 10 := (vp_iff (by omega)).mpr (by omega)
        have e2 : (nI (uF u d) = nI r) ↔ uF u d = r := nI_eq (by omega) (by omega)
        obtain ⟨A', B', h3, h4, h5, h6, h7⟩ := hD (i0 + 1) (by omega) (by omega) (uG u d) wd.2.1
        obtain ⟨o1, o2, o3⟩ := hI
        have e3 : (nI A ≤ nI A') ↔ A ≤ A' := nI_leI (by omega) (by omega)
        have e4 : (nI A' = nI A) ↔ A' = A := nI_eq (by omega) (by omega)
        have skip : ¬ (sB s d = false ∧ uF u d = r) → bstD u s w i0 r (d + 1) A B := by
          intro hne
          refine ⟨o1, o2, ?_⟩
          rcases o3 with ⟨a1, ⟨e, a2, a3, a4, a5⟩, a6⟩ | ⟨a1, a2⟩
          · refine Or.inl ⟨a1, ⟨e, by omega, a3, a4, a5⟩, fun e' he' hb' hf' => ?_⟩
            by_cases z : e' = d
            · subst z; exact absurd ⟨hb', hf'⟩ hne
            · exact a6 e' (by omega) hb' hf'
          · refine Or.inr ⟨a1, fun e' he' hb' hf' => ?_⟩
            by_cases z : e' = d
            · subst z; exact absurd ⟨hb', hf'⟩ hne
            · exact a2 e' (by omega) hb' hf'
        have keep : sB s d = false → uF u d = r → ∀ A2 B2, A2 = (if A' < A then A' else A) → B2 = (if A' < A then B' else if A' = A then (if B < B' then B' else B) else B) → bstD u s w i0 r (d + 1) A2 B2 := by
          intro hB hF A2 B2 hA2 hB2
          have hle2 : ∀ e, e < d + 1 → e ≠ d → e < d := fun e h z => by omega
          by_cases c1 : A' < A
          · rw [if_pos c1] at hA2 hB2
            subst hA2 hB2
            rcases h7 with ⟨g1, g2, g3⟩ | ⟨g1, g2, g3⟩
            · refine ⟨by omega, h6, Or.inl ⟨g1, ⟨d, by omega, hB, hF, g2⟩, fun e he hb' hf' m f hm => ?_⟩⟩
              by_cases z : e = d
              · subst z; exact g3 m f hm
              · rcases o3 with ⟨a1, _, a6⟩ | ⟨a1, a2⟩
                · have := a6 e (by omega) hb' hf' m f hm
                  exact ⟨by omega, fun y => by omega⟩
                · exact absurd hm (a2 e (by omega) hb' hf' m f)
            · omega
          · rw [if_neg c1] at hA2 hB2
            subst hA2
            by_cases c2 : A' = A2
            · rw [if_pos c2] at hB2
              subst c2
              rcases h7 with ⟨g1, g2, g3⟩ | ⟨g1, g2, g3⟩
              · rcases o3 with ⟨a1, ⟨e0, a2, a3, a4, a5⟩, a6⟩ | ⟨a1, _⟩
                · refine ⟨o1, by rw [hB2]; split <;> omega, Or.inl ⟨g1, ?_, fun e he hb' hf' m f hm => ?_⟩⟩
                  · by_cases c3 : B < B'
                    · rw [hB2, if_pos c3]; exact ⟨d, by omega, hB, hF, g2⟩
                    · rw [hB2, if_neg c3]; exact ⟨e0, by omega, a3, a4, a5⟩
                  · by_cases z : e = d
                    · subst z
                      have := g3 m f hm
                      refine ⟨this.1, fun y => ?_⟩
                      have := this.2 y
                      rw [hB2]; split <;> omega
                    · have := a6 e (by omega) hb' hf' m f hm
                      refine ⟨this.1, fun y => ?_⟩
                      have := this.2 y
                      rw [hB2]; split <;> omega
                · omega
              · rcases o3 with ⟨a1, _, _⟩ | ⟨a1, a2⟩
                · omega
                · refine ⟨o1, by rw [hB2]; split <;> omega, Or.inr ⟨a1, fun e he hb' hf' m f hm => ?_⟩⟩
                  by_cases z : e = d
                  · subst z; exact g3 m f hm
                  · exact a2 e (by omega) hb' hf' m f hm
            · rw [if_neg c2] at hB2
              subst hB2
              refine ⟨o1, o2, ?_⟩
              rcases o3 with ⟨a1, ⟨e0, a2, a3, a4, a5⟩, a6⟩ | ⟨a1, a2⟩
              · refine Or.inl ⟨a1, ⟨e0, by omega, a3, a4, a5⟩, fun e he hb' hf' m f hm => ?_⟩
                by_cases z : e = d
                · subst z
                  rcases h7 with ⟨g1, g2, g3⟩ | ⟨g1, g2, g3⟩
                  · have := (g3 m f hm).1
                    exact ⟨by omega, fun y => by omega⟩
                  · exact absurd hm (g3 m f)
                · exact a6 e (by omega) hb' hf' m f hm
              · refine Or.inr ⟨a1, fun e he hb' hf' m f hm => ?_⟩
                by_cases z : e = d
                · subst z
                  rcases h7 with ⟨g1, g2, g3⟩ | ⟨g1, g2, g3⟩
                  · omega
                  · exact g3 m f hm
                · exact a2 e (by omega) hb' hf' m f hm
        rw [P_12_laysSlips_70, F_12_laysSlips_70, cl0, cl1, hp1.2.2.1, hw1.2.1]
        simp only [q1, elast, cl, v3, f1, f2, e2, b1, b2, ib0, nI_1, v4, v5, nI_clamp (n := d) (by omega), nI_clamp (n := i0 + 1) (by omega), nI_clamp (n := uG u d) (by omega), h3, h4, e3, e4, r_less (M := M1) (a := A) (b := A') (by omega) (by omega), r_more (M := M1) (a := B) (b := B') (by omega) (by omega), if_true, if_false, true_imp_iff, false_imp_iff, not_true_eq_false, not_false_eq_true, true_and, and_true, implies_true, reduceIte, P_12_laysSlips_190, P_12_laysSlips_199, F_12_laysSlips_190, F_12_laysSlips_199]
        by_cases cF : uF u d = r
        · cases cB : sB s d
          · have hg := ih (if A' < A then A' else A, if A' < A then B' else if A' = A then (if B < B' then B' else B) else B) (keep cB cF _ _ rfl rfl)
            try dsimp only at hg
            rw [nI_1] at hg
            by_cases c1 : A ≤ A'
            · have c1' : ¬ A' < A := by omega
              by_cases c2 : A' = A
              · simpa [cF, c1, c1', c2] using hg
              · simpa [cF, c1, c1', c2] using hg
            · have c1' : A' < A := by omega
              simpa [cF, c1, c1'] using hg
          · have hg := ih (A, B) (skip (fun z => by rw [cB] at z; cases z.1))
            rw [nI_1] at hg
            simpa [cF] using hg
        · have hg := ih (A, B) (skip (fun z => cF z.2))
          rw [nI_1] at hg
          simpa [cF] using hg
      · rintro n ⟨A, B⟩ hI
        try dsimp only at hI ⊢
        have q1 : nI (uM u) ≤ nI (uM u) := nI_le (Nat.le_refl _) (by omega)
        rw [P_12_laysSlips_70, F_12_laysSlips_70, cl1, hp1.2.2.1]
        simp only [q1, if_true, if_false, true_imp_iff, false_imp_iff, not_true_eq_false, not_false_eq_true, true_and, and_true, implies_true, reduceIte]
        exact endR A B (okD_S hw.1 (by omega) hI)
  rw [P_12_laysSlips_40, F_12_laysSlips_40, nI_clamp (n := r) (by omega), nI_clamp (n := i0) (by omega), (hp1.2.2.2.2.2.2 r hrN).1, hw1.2.2 i0 hi]
  simp only [v1, v2, e1, if_true, if_false, true_imp_iff, false_imp_iff, not_true_eq_false, not_false_eq_true, true_and, and_true, implies_true, reduceIte]
  rw [← esl] at go65
  by_cases c : uE u r = w.2 i0
  · simpa [c] using go65
  · simpa [c] using go65
