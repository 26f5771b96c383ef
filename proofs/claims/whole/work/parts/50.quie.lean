/-! MATHEMATICS 20: ways past sleeping warders -/
def hpQ (u : MU) (r x : Nat) : Nat := x / 16 * uL u r
theorem hp_mono {u : MU} {r x y : Nat} (h : x ≤ y) : hpQ u r x ≤ hpQ u r y := Nat.mul_le_mul_right _ (Nat.div_le_div_right h)
theorem hp_le {u : MU} {r x : Nat} (h : uL u r ≤ 16) : hpQ u r x ≤ x := by
  unfold hpQ
  have h1 : x / 16 * uL u r ≤ x / 16 * 16 := Nat.mul_le_mul_left _ h
  have h2 := Nat.div_mul_le_self x 16
  omega
def qS (u : MU) (s : SU) (f : Nat → Nat) : Nat → Nat → Nat
  | 0, r => f r
  | i + 1, r => if sB s i = false ∧ uG u i = r ∧ qS u s f i r < hpQ u r (f (uF u i)) then hpQ u r (f (uF u i)) else qS u s f i r
def q0 (a r : Nat) : Nat := if r = a then 68719476736 else 0
def qL (u : MU) (s : SU) (a : Nat) : Nat → Nat → Nat
  | 0 => q0 a
  | k + 1 => qS u s (qL u s a k) (uM u)
theorem qS_ge {u : MU} {s : SU} {f : Nat → Nat} {r : Nat} : ∀ i, f r ≤ qS u s f i r := by
  intro i
  induction i with
  | zero => exact Nat.le_refl _
  | succ i ih => rw [qS]; split <;> omega
theorem qS_d {u : MU} {s : SU} {f : Nat → Nat} {d : Nat} (hb : sB s d = false) : ∀ i, d < i → hpQ u (uG u d) (f (uF u d)) ≤ qS u s f i (uG u d) := by
  intro i
  induction i with
  | zero => intro h; omega
  | succ i ih =>
    intro h
    rw [qS]
    by_cases e : d = i
    · subst e
      split
      · exact Nat.le_refl _
      · rename_i c
        apply Classical.byContradiction
        intro z
        exact c ⟨hb, rfl, by omega⟩
    · have := ih (by omega)
      split <;> omega
theorem qS_at {u : MU} {s : SU} {f : Nat → Nat} {r : Nat} : ∀ i, qS u s f i r = f r ∨ ∃ d, d < i ∧ sB s d = false ∧ uG u d = r ∧ qS u s f i r = hpQ u r (f (uF u d)) := by
  intro i
  induction i with
  | zero => exact Or.inl rfl
  | succ i ih =>
    rw [qS]
    split
    · rename_i c
      exact Or.inr ⟨i, by omega, c.1, c.2.1, rfl⟩
    · rcases ih with h | ⟨d, h1, h2, h3, h4⟩
      · exact Or.inl h
      · exact Or.inr ⟨d, by omega, h2, h3, h4⟩
def qP (u : MU) (s : SU) (a : Nat) : Nat → Nat → Nat
  | 0, _ => 0
  | k + 1, r => qL u s a k r
theorem qL_up {u : MU} {s : SU} {a k r : Nat} : qP u s a k r ≤ qL u s a k r := by
  cases k with
  | zero => exact Nat.zero_le _
  | succ k => exact qS_ge _
theorem qL_cnt {u : MU} {s : SU} {a : Nat} (hu : UW u) : ∀ {k r}, r < 10 → qP u s a k r < qL u s a k r → k + 1 ≤ cnt (fun q => decide (qL u s a k r ≤ qL u s a k q)) 10 := by
  have hn := hu.1
  intro k
  induction k with
  | zero =>
    intro r hr h
    have : cnt (fun _ => false) 10 < cnt (fun q => decide (qL u s a 0 r ≤ qL u s a 0 q)) 10 := cnt_lt (fun j _ z => by cases z) hr rfl (by simp)
    omega
  | succ k ih =>
    intro r hr h
    have h : qL u s a k r < qL u s a (k + 1) r := h
    rcases qS_at (u := u) (s := s) (f := qL u s a k) (r := r) (uM u) with e | ⟨d, h1, h2, h3, h4⟩
    · have e : qL u s a (k + 1) r = qL u s a k r := e
      omega
    · have h4 : qL u s a (k + 1) r = hpQ u r (qL u s a k (uF u d)) := h4
      have w := hu.2.2.2.2.1 d h1
      have w2 := hu.2.2.2.2.2 r (by omega)
      have hle := hp_le (x := qL u s a k (uF u d)) w2.2
      have himp : qP u s a k (uF u d) < qL u s a k (uF u d) := by
        apply Classical.byContradiction
        intro z
        have hq : qL u s a k (uF u d) ≤ qP u s a k (uF u d) := by omega
        cases k with
        | zero =>
          have : qL u s a 0 (uF u d) ≤ 0 := hq
          omega
        | succ k =>
          have hq : qL u s a (k + 1) (uF u d) ≤ qL u s a k (uF u d) := hq
          have h5 := qS_d (u := u) (f := qL u s a k) h2 (uM u) h1
          rw [h3] at h5
          have h5 : hpQ u r (qL u s a k (uF u d)) ≤ qL u s a (k + 1) r := h5
          have h6 := hp_mono (u := u) (r := r) hq
          omega
      have ih := ih (r := uF u d) (by omega) himp
      have hlt : cnt (fun q => decide (qL u s a k (uF u d) ≤ qL u s a k q)) 10 < cnt (fun q => decide (qL u s a (k + 1) r ≤ qL u s a (k + 1) q)) 10 := by
        refine cnt_lt (fun j _ hj => ?_) hr ?_ ?_
        · simp only [decide_eq_true_eq] at hj ⊢
          have : qL u s a k j ≤ qL u s a (k + 1) j := qS_ge _
          omega
        · rw [decide_eq_false_iff_not]; omega
        · simp
      omega
theorem qL_fix {u : MU} {s : SU} {a : Nat} (hu : UW u) {d : Nat} (hd : d < uM u) (hb : sB s d = false) : hpQ u (uG u d) (qL u s a 9 (uF u d)) ≤ qL u s a 9 (uG u d) := by
  have hn := hu.1
  have w := hu.2.2.2.2.1 d hd
  have h1 := qS_d (u := u) (f := qL u s a 9) hb (uM u) hd
  have h1 : hpQ u (uG u d) (qL u s a 9 (uF u d)) ≤ qL u s a 10 (uG u d) := h1
  apply Classical.byContradiction
  intro z
  have := qL_cnt (s := s) (a := a) hu (k := 10) (r := uG u d) (by omega) (by show qL u s a 9 (uG u d) < _; omega)
  have := cnt_le (fun q => decide (qL u s a 10 (uG u d) ≤ qL u s a 10 q)) 10
  omega
theorem qL_le {u : MU} {s : SU} {a : Nat} (hu : UW u) : ∀ k r, qL u s a k r ≤ 68719476736 := by
  intro k
  induction k with
  | zero => intro r; show q0 a r ≤ _; unfold q0; split <;> omega
  | succ k ih =>
    intro r
    rcases qS_at (u := u) (s := s) (f := qL u s a k) (r := r) (uM u) with e | ⟨d, h1, h2, h3, h4⟩
    · have e : qL u s a (k + 1) r = qL u s a k r := e
      rw [e]; exact ih r
    · have h4 : qL u s a (k + 1) r = hpQ u r (qL u s a k (uF u d)) := h4
      have w := hu.2.2.2.2.1 d h1
      have w2 := hu.2.2.2.2.2 r (by omega)
      have := hp_le (x := qL u s a k (uF u d)) w2.2
      have := ih (uF u d)
      omega
/-! the class -/
def LV (c : Nat) (f : Nat → Nat) (M : Mem) : Prop := ∀ r, r < 10 → rl M c r = lN (f r)
def cQ (c _ : Nat) : Prop := c = 1602
def upF (f : Nat → Nat) (y v e : Nat) : Nat := if e = y then v else f e
theorem LV.up {c : Nat} {f : Nat → Nat} {M : Mem} (h : LV c f M) (y v : Nat) : LV c (upF f y v) (wl M c y (lN v)) := fun r hr => by
  rw [rl_wl, upF]
  by_cases e : r = y
  · rw [if_pos ⟨rfl, e⟩, if_pos e]
  · rw [if_neg (fun z => e z.2), if_neg e]; exact h r hr
theorem Kp.gl {p : Nat → Nat → Prop} {M M1 : Mem} (h : Kp p M M1) {c j : Nat} (hn : ¬ p c j) : rl M1 c j = rl M c j := (h c j hn).2
/-- what holds of the class's row while it betters it -/
def GS (u : MU) (s : SU) (a i : Nat) (f : Nat → Nat) : Prop := (∀ r, r < 10 → f r ≤ qL u s a 9 r) ∧ ∀ r, r < 10 → qL u s a i r ≤ f r
theorem c_quietIn {u : MU} {s : SU} {a b i0 : Nat} {M M1 : Mem} {f : Nat → Nat} (hp : CP 1561 u M) (hr : CR 1622 u s M) (hK : Kp cQ M M1) (hf : LV 1602 f M1) (hG : GS u s a i0 f)
    {k35 : Int32 → Int32 → Int32 → Mem → Int64 × Mem} {pk35 : Int32 → Int32 → Int32 → Mem → Prop} {Q : Int64 × Mem → Prop}
    (hn' : ∀ M2 f' bet, Kp cQ M M2 → LV 1602 f' M2 → GS u s a (i0 + 1) f' → (bet = 0 ∨ bet = 1) → (bet = 0 → ∀ d, d < uM u → sB s d = false → hpQ u (uG u d) (f' (uF u d)) ≤ f' (uG u d)) → pk35 (nI b) bet (nI i0 + 1) M2 ∧ Q (k35 (nI b) bet (nI i0 + 1) M2)) : P_0_likeliest_51 pk35 FU (nI b) 0 (nI i0) 0 M1 ∧ Q (F_0_likeliest_51 k35 FU (nI b) 0 (nI i0) 0 M1) := by
  have hu := hp.1
  have hn := hu.1
  have hm := hu.2.1
  refine lq (S := Int32 × Mem) (F := fun n i q => F_0_likeliest_51 k35 n (nI b) q.1 (nI i0) i q.2) (P := fun n i q => P_0_likeliest_51 pk35 n (nI b) q.1 (nI i0) i q.2) (Q := Q) (uM u) (fun d q => Kp cQ M q.2 ∧ ∃ f', LV 1602 f' q.2 ∧ (∀ r, r < 10 → f r ≤ f' r) ∧ (∀ r, r < 10 → f' r ≤ qL u s a 9 r) ∧ (∀ e, e < d → sB s e = false → hpQ u (uG u e) (f (uF u e)) ≤ f' (uG u e)) ∧ ((q.1 = 0 ∧ ∀ r, r < 10 → f' r = f r) ∨ q.1 = 1)) ?_ ?_ FU 0 (0, M1) ⟨hK, f, hf, fun r _ => Nat.le_refl _, hG.1, fun e h => by omega, Or.inl ⟨rfl, fun _ _ => rfl⟩⟩ (Nat.zero_le _) (FU_ge (by omega))
  · rintro n d ⟨bet, M2⟩ hd ⟨hK2, f', hf', hge, hle, hdo, hbe⟩ ih
    try dsimp only at hK2 hf' hbe ih ⊢
    have hp2 := hp.k hK2 (fun a j z => by unfold cQ at z; omega)
    have hr2 := hr.k hK2 (fun a j z => by unfold cQ at z; omega)
    have q1 : ¬ nI (uM u) ≤ nI d := nI_ge hd (by omega)
    have w := hu.2.2.2.2.1 d hd
    have w2 := hu.2.2.2.2.2 (uG u d) w.2.1
    obtain ⟨f1, f2, _, _⟩ := hp2.2.2.2.2.2.1 d hd
    have f3 := (hp2.2.2.2.2.2.2.1 (uG u d) w.2.1).2.1
    simp only [Nat.reduceAdd] at f1 f2 f3
    have v1 : vp_in (nI d) 24 := (vp_iff (by omega)).mpr (by omega)
    have v2 : vp_in (nI (uF u d)) 10 := (vp_iff (by omega)).mpr (by omega)
    have v3 : vp_in (nI (uG u d)) 10 := (vp_iff (by omega)).mpr (by omega)
    have z1 := b_z (x := rd M2 1622 2) (i := d) (by omega)
    have hb := hr2.2.2.2.1 d
    rw [decide_eq_true hd, Bool.true_and] at hb
    rw [hb] at z1
    have bF := Nat.le_trans (hle (uF u d) (by omega)) (qL_le (s := s) (a := a) hu 9 _)
    have bG := Nat.le_trans (hle (uG u d) (by omega)) (qL_le (s := s) (a := a) hu 9 _)
    have e3 : rl M2 1602 (uF u d) / 16 * (nI (uL u (uG u d))).toInt64 = lN (hpQ u (uG u d) (f' (uF u d))) := by
      rw [hf' (uF u d) (by omega), nI_l (by omega), show (16 : Int64) = lN 16 from rfl, pk_lDiv (by omega) (by omega) (by omega), lN_mul]; rfl
    have hhp := hp_le (x := f' (uF u d)) w2.2
    have e4 : (lg_cmp (lN (hpQ u (uG u d) (f' (uF u d)))) (lN (f' (uG u d))) ≤ 0) ↔ hpQ u (uG u d) (f' (uF u d)) ≤ f' (uG u d) := by
      rw [lg_cmp_le]; exact pk_lLE (by omega) (by omega)
    have hstep : ∀ (f'' : Nat → Nat), (∀ r, r < 10 → f' r ≤ f'' r) → (sB s d = false → hpQ u (uG u d) (f' (uF u d)) ≤ f'' (uG u d)) → ∀ e, e < d + 1 → sB s e = false → hpQ u (uG u e) (f (uF u e)) ≤ f'' (uG u e) := by
      intro f'' h1 h2 e he hbe
      have we := hu.2.2.2.2.1 e (by omega)
      by_cases z : e = d
      · subst z
        exact Nat.le_trans (hp_mono (hge (uF u e) (by omega))) (h2 hbe)
      · exact Nat.le_trans (hdo e (by omega) hbe) (h1 (uG u e) (by omega))
    rw [P_0_likeliest_51, F_0_likeliest_51, hp2.2.2.1]
    simp only [q1, z1, v1, v2, v3, nI_clamp (n := d) (by omega), f1, f2, nI_clamp (n := uF u d) (by omega), nI_clamp (n := uG u d) (by omega), f3, e3, hf' (uG u d) (by omega), e4, if_true, if_false, true_imp_iff, false_imp_iff, not_true_eq_false, not_false_eq_true, true_and, and_true, implies_true, reduceIte, P_0_likeliest_147, F_0_likeliest_147]
    cases cB : sB s d
    · by_cases c : hpQ u (uG u d) (f' (uF u d)) ≤ f' (uG u d)
      · have := ih (bet, M2) ⟨hK2, f', hf', hge, hle, hstep f' (fun _ _ => Nat.le_refl _) (fun _ => c), hbe⟩
        simpa [c] using this
      · have := ih (1, wl M2 1602 (uG u d) (lN (hpQ u (uG u d) (f' (uF u d))))) ⟨hK2.wl rfl, upF f' (uG u d) (hpQ u (uG u d) (f' (uF u d))), hf'.up _ _, fun r hr => ?_, fun r hr => ?_, hstep _ (fun r hr => ?_) (fun _ => ?_), Or.inr rfl⟩
        · simpa [c] using this
        · unfold upF
          have := hge r hr
          split
          · rename_i z; rw [z] at this ⊢; omega
          · exact this
        · unfold upF
          split
          · rename_i z
            rw [z]
            exact Nat.le_trans (hp_mono (hle (uF u d) (by omega))) (qL_fix hu hd cB)
          · exact hle r hr
        · unfold upF
          split
          · rename_i z; rw [z]; omega
          · exact Nat.le_refl _
        · unfold upF; rw [if_pos rfl]; exact Nat.le_refl _
    · have := ih (bet, M2) ⟨hK2, f', hf', hge, hle, hstep f' (fun _ _ => Nat.le_refl _) (fun z => by rw [cB] at z; cases z), hbe⟩
      simpa using this
  · rintro n ⟨bet, M2⟩ ⟨hK2, f', hf', hge, hle, hdo, hbe⟩
    try dsimp only at hK2 hf' hbe ⊢
    have hp2 := hp.k hK2 (fun a j z => by unfold cQ at z; omega)
    have q1 : nI (uM u) ≤ nI (uM u) := nI_le (Nat.le_refl _) (by omega)
    rw [P_0_likeliest_51, F_0_likeliest_51, hp2.2.2.1]
    simp only [q1, if_true, if_false, true_imp_iff, false_imp_iff, not_true_eq_false, not_false_eq_true, true_and, and_true, implies_true, reduceIte]
    refine hn' M2 f' bet hK2 hf' ⟨hle, fun r hr => ?_⟩ (hbe.imp (fun z => z.1) id) (fun hz d hd hb => ?_)
    · rcases qS_at (u := u) (s := s) (f := qL u s a i0) (r := r) (uM u) with e | ⟨d, h1, h2, h3, h4⟩
      · show qS u s (qL u s a i0) (uM u) r ≤ _
        rw [e]; exact Nat.le_trans (hG.2 r hr) (hge r hr)
      · show qS u s (qL u s a i0) (uM u) r ≤ _
        have w := hu.2.2.2.2.1 d h1
        have h5 := hdo d h1 h2
        rw [h4]
        rw [h3] at h5
        exact Nat.le_trans (hp_mono (hG.2 (uF u d) (by omega))) h5
    · rcases hbe with ⟨_, hf0⟩ | h1
      · have w := hu.2.2.2.2.1 d hd
        have h5 := hdo d hd hb
        rw [hf0 (uF u d) (by omega)]; exact h5
      · rw [hz] at h1; exact absurd h1 i01
theorem c_likeliest {u : MU} {s : SU} {a b : Nat} {M : Mem} (hp : CP 1561 u M) (hr : CR 1622 u s M) (ha : a < uN u) (hb : b < uN u) : P_0_likeliest_0 (nI a) (nI b) M ∧ ∃ M', F_0_likeliest_0 (nI a) (nI b) M = (lN (qL u s a 9 b), M') ∧ Kp cQ M M' := by
  have hu := hp.1
  have hn := hu.1
  rw [P_0_likeliest_0, F_0_likeliest_0]
  have v2 : vp_in (nI b) 10 := (vp_iff (by omega)).mpr (by omega)
  have mono9 : ∀ k r, qL u s a k r ≤ qL u s a (k + 1) r := fun k r => qS_ge _
  have second : ∀ M1, Kp cQ M M1 → LV 1602 (qL u s a 0) M1 → P_0_likeliest_35 FU (nI b) 1 0 M1 ∧ ∃ M', F_0_likeliest_35 FU (nI b) 1 0 M1 = (lN (qL u s a 9 b), M') ∧ Kp cQ M M' := by
    intro M1 hK1 hf1
    have up9 : ∀ k r, qL u s a 0 r ≤ qL u s a k r := by
      intro k r
      induction k with
      | zero => exact Nat.le_refl _
      | succ k ih => exact Nat.le_trans ih (mono9 k r)
    refine lq (S := Int32 × Mem) (F := fun n i q => F_0_likeliest_35 n (nI b) q.1 i q.2) (P := fun n i q => P_0_likeliest_35 n (nI b) q.1 i q.2) (Q := fun z => ∃ M', z = (lN (qL u s a 9 b), M') ∧ Kp cQ M M') (10) (fun i q => Kp cQ M q.2 ∧ ∃ f, LV 1602 f q.2 ∧ GS u s a i f ∧ (q.1 = 0 ∨ q.1 = 1) ∧ (q.1 = 0 → ∀ d, d < uM u → sB s d = false → hpQ u (uG u d) (f (uF u d)) ≤ f (uG u d))) ?_ ?_ FU 0 (1, M1) ⟨hK1, qL u s a 0, hf1, ⟨fun r _ => up9 9 r, fun r _ => Nat.le_refl _⟩, Or.inr rfl, fun z => absurd z i10⟩ (Nat.zero_le _) (FU_ge (by omega))
    · rintro n i ⟨bet, M2⟩ hi ⟨hK2, f, hf, hG, hbe, hfx⟩ ih
      try dsimp only at hK2 hf hbe hfx ih ⊢
      have q1 : ¬ (10 : Int32) ≤ nI i := nI_ge (b := 10) hi (by omega)
      rw [P_0_likeliest_35, F_0_likeliest_35]
      rcases hbe with rfl | rfl
      · simp only [q1, v2, nI_clamp (n := b) (by omega), hf b (by omega), if_true, if_false, true_imp_iff, false_imp_iff, not_true_eq_false, not_false_eq_true, true_and, and_true, implies_true, reduceIte]
        refine ⟨M2, ?_, hK2⟩
        have all : ∀ k r, r < 10 → qL u s a k r ≤ f r := by
          intro k
          induction k with
          | zero => intro r hr; exact Nat.le_trans (up9 i r) (hG.2 r hr)
          | succ k ih =>
            intro r hr
            rcases qS_at (u := u) (s := s) (f := qL u s a k) (r := r) (uM u) with e | ⟨d, h1, h2, h3, h4⟩
            · show qS u s (qL u s a k) (uM u) r ≤ _
              rw [e]; exact ih r hr
            · show qS u s (qL u s a k) (uM u) r ≤ _
              have w := hu.2.2.2.2.1 d h1
              rw [h4, ← h3]
              exact Nat.le_trans (hp_mono (ih (uF u d) (by omega))) (hfx rfl d h1 h2)
        rw [Nat.le_antisymm (hG.1 b (by omega)) (all 9 b (by omega))]
      · simp only [q1, i1_0, if_true, if_false, true_imp_iff, false_imp_iff, not_true_eq_false, not_false_eq_true, true_and, and_true, implies_true, reduceIte]
        exact c_quietIn (Q := fun z => ∃ M', z = (lN (qL u s a 9 b), M') ∧ Kp cQ M M') hp hr hK2 hf hG (fun M3 f' bet h1 h2 h3 h4 h5 => ih (bet, M3) ⟨h1, f', h2, h3, h4, h5⟩)
    · rintro n ⟨bet, M2⟩ ⟨hK2, f, hf, hG, hbe, hfx⟩
      try dsimp only at hK2 hf hbe hfx ⊢
      rw [P_0_likeliest_35, F_0_likeliest_35]
      simp only [(by decide : (10 : Int32) ≤ nI 10), v2, nI_clamp (n := b) (by omega), hf b (by omega), if_true, if_false, true_imp_iff, false_imp_iff, not_true_eq_false, not_false_eq_true, true_and, and_true, implies_true, reduceIte]
      refine ⟨M2, ?_, hK2⟩
      rw [Nat.le_antisymm (hG.1 b (by omega)) (Nat.le_trans (mono9 9 b) (hG.2 b (by omega)))]
  refine lq (S := Mem) (F := fun n i q => F_0_likeliest_2 n (nI a) (nI b) i q) (P := fun n i q => P_0_likeliest_2 n (nI a) (nI b) i q) (Q := fun z => ∃ M', z = (lN (qL u s a 9 b), M') ∧ Kp cQ M M') (10) (fun i q => Kp cQ M q ∧ ∀ r, r < i → rl q 1602 r = lN 0) ?_ ?_ FU 0 M ⟨Kp.rf, fun r h => by omega⟩ (Nat.zero_le _) (FU_ge (by omega))
  · rintro n i M2 hi ⟨hK2, hz⟩ ih
    try dsimp only at ih ⊢
    have q1 : ¬ (10 : Int32) ≤ nI i := nI_ge (b := 10) hi (by omega)
    have v1 : vp_in (nI i) 10 := (vp_iff (by omega)).mpr hi
    rw [P_0_likeliest_2, F_0_likeliest_2]
    simp only [q1, v1, nI_clamp (n := i) (by omega), if_true, if_false, true_imp_iff, false_imp_iff, not_true_eq_false, not_false_eq_true, true_and, and_true, implies_true, reduceIte]
    refine ih _ ⟨hK2.wl rfl, fun r hr => ?_⟩
    rw [rl_wl]
    by_cases e : r = i
    · rw [if_pos ⟨rfl, e⟩]; rfl
    · rw [if_neg (fun z => e z.2)]; exact hz r (by omega)
  · rintro n M2 ⟨hK2, hz⟩
    try dsimp only
    have v1 : vp_in (nI a) 10 := (vp_iff (by omega)).mpr (by omega)
    rw [P_0_likeliest_2, F_0_likeliest_2]
    simp only [(by decide : (10 : Int32) ≤ nI 10), v1, nI_clamp (n := a) (by omega), if_true, if_false, true_imp_iff, false_imp_iff, not_true_eq_false, not_false_eq_true, true_and, and_true, implies_true, reduceIte]
    refine second _ (hK2.wl rfl) (fun r hr => ?_)
    rw [rl_wl]
    show _ = lN (q0 a r)
    unfold q0
    by_cases e : r = a
    · rw [if_pos ⟨rfl, e⟩, if_pos e]; rfl
    · rw [if_neg (fun z => e z.2), if_neg e]; exact hz r hr
