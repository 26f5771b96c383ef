/-! MATHEMATICS 25: the class's first wrong line -/
/-- rooms one may stand in at a line, all before it right -/
def Rt (u : MU) (s : SU) (w : WU) : Nat → Nat → Prop
  | 0, r => r < uN u
  | i + 1, r => ∃ q, Rt u s w i q ∧ uE u q = w.2 i ∧ ed u s q r
theorem Rt_in {u : MU} {s : SU} {w : WU} (hu : UW u) : ∀ {i r}, Rt u s w i r → r < uN u := by
  intro i
  cases i with
  | zero => exact fun h => h
  | succ i => rintro r ⟨q, _, _, h⟩; exact (ed_lt hu h).2.1
/-- the ways whose first wrong line is f, told from f on -/
theorem Rt_to {u : MU} {s : SU} {w : WU} (hw : WW w) : ∀ (f i r m : Nat), i ≤ f → f < w.1 → Rt u s w i r → Wl u s w i r m f → ∃ q, Rt u s w f q ∧ ¬ uE u q = w.2 f ∧ Wl u s w f q m f := by
  have h12 := hw.1
  intro f i
  have : ∀ k i r m, i + k = f → f < w.1 → Rt u s w i r → Wl u s w i r m f → ∃ q, Rt u s w f q ∧ ¬ uE u q = w.2 f ∧ Wl u s w f q m f := by
    intro k
    induction k with
    | zero =>
      intro i r m hi hf hR hW
      have : i = f := by omega
      subst this
      refine ⟨r, hR, fun c => ?_, hW⟩
      by_cases cl : i + 1 = w.1
      · have := ((Wl_last cl).mp hW).2
        unfold fsW at this
        rw [if_pos c] at this
        omega
      · obtain ⟨q, m', f', h1, h2, h3, h4⟩ := (Wl_step (by omega)).mp hW
        unfold fsW at h4
        rw [if_pos c] at h4
        have := (Wl_m hw (show i + 1 < w.1 by omega) h2).2.2.2
        omega
    | succ k ih =>
      intro i r m hi hf hR hW
      obtain ⟨q, m', f', h1, h2, h3, h4⟩ := (Wl_step (by omega)).mp hW
      have c : uE u r = w.2 i := by
        apply Classical.byContradiction
        intro c
        unfold fsW at h4
        rw [if_neg c] at h4
        omega
      unfold fsW slW at *
      rw [if_pos c] at h3 h4
      refine ih (i + 1) q m (by omega) hf ⟨r, hR, c, h1⟩ ?_
      rw [h3, h4]; exact h2
  intro r m h1
  exact this (f - i) i r m (by omega)
theorem Rt_of {u : MU} {s : SU} {w : WU} (hu : UW u) (hw : WW w) : ∀ (i q m f : Nat), i < w.1 → Rt u s w i q → Wl u s w i q m f → ∃ r, r < uN u ∧ Wl u s w 0 r m f := by
  intro i
  induction i with
  | zero => intro q m f _ h1 h2; exact ⟨q, h1, h2⟩
  | succ i ih =>
    rintro q m f hi ⟨p, h1, h2, h3⟩ h4
    refine ih p m f (by omega) h1 ((Wl_step hi).mpr ⟨q, m, f, h3, h4, ?_, ?_⟩)
    · unfold slW; rw [if_pos h2]; rfl
    · unfold fsW; rw [if_pos h2]
/-- a slip of the class's rows -/
def slC (u : MU) (s : SU) (w : WU) (m i : Nat) : Prop := ∃ r f, Rt u s w i r ∧ ¬ uE u r = w.2 i ∧ Wl u s w i r m f
theorem slC_f {u : MU} {s : SU} {w : WU} (hu : UW u) (hw : WW w) {m i : Nat} (hi : i < w.1) (h : slC u s w m i) : ∃ r, r < uN u ∧ Wl u s w 0 r m i := by
  obtain ⟨r, f, h1, h2, h3⟩ := h
  have hf : f = i := by
    by_cases cl : i + 1 = w.1
    · have := ((Wl_last cl).mp h3).2
      unfold fsW at this
      rw [if_neg h2] at this
      exact this
    · obtain ⟨q, m', f', g1, g2, g3, g4⟩ := (Wl_step (by omega)).mp h3
      unfold fsW at g4
      rw [if_neg h2] at g4
      exact g4
  subst hf
  exact Rt_of hu hw f r m f hi h1 h3
theorem c_firstWrong {u : MU} {s : SU} {w : WU} {M : Mem} {a : Int32} (hp : CP 1561 u M) (hg : CG u s M) (hw : CK w M) (hC : ∀ i, i < w.1 → ∀ r, r < uN u → CW u s w M i r) (ha : (∃ m, a = nI m ∧ m ≤ 12 ∧ (∃ r f, r < uN u ∧ Wl u s w 0 r m f) ∧ ∀ r m' f', r < uN u → Wl u s w 0 r m' f' → m ≤ m') ∨ (a = -1 ∧ ∀ r, r < uN u → ∀ m f, ¬ Wl u s w 0 r m f)) (h1 : 1 ≤ w.1) : P_9_firstWrong_0 M a ∧ SLR u s w a (F_9_firstWrong_0 M a) := by
  have hu := hp.1
  have hn := hu.1
  have h12 := hw.1.1
  have eall : F_4_allRooms_0 M = bi (uN u) - 1 := by rw [F_4_allRooms_0, hp.2.1, bi_of]
  have hne : ¬ nI w.1 ≤ 0 := nI_nle h1 (by omega)
  have hFU : FU = 6999 + 1 := rfl
  have stop : a ≤ 0 → P_9_firstWrong_13 M FU a (-1) (bi (uN u) - 1) 0 ∧ F_9_firstWrong_13 M FU a (-1) (bi (uN u) - 1) 0 = -1 := by
    intro h
    rw [hFU, P_9_firstWrong_13, F_9_firstWrong_13, hw.2.1]
    simp only [hne, h, if_true, if_false, true_imp_iff, false_imp_iff, not_true_eq_false, not_false_eq_true, true_and, and_true, implies_true, reduceIte]
  rw [P_9_firstWrong_0, F_9_firstWrong_0, eall]
  rcases ha with ⟨m, rfl, hm12, ⟨r0, f0, hr0, hW0⟩, hmin⟩ | ⟨rfl, hno⟩
  · by_cases c0 : m = 0
    · subst c0
      obtain ⟨s1, s2⟩ := stop (by decide)
      rw [s2]
      refine ⟨s1, Or.inl ⟨0, 12, rfl, by omega, Nat.le_refl _, ⟨r0, hr0, ?_⟩, fun r hr m' f' hm' => ⟨Nat.zero_le _, fun _ => (Wl_m hw.1 (by omega) hm').2.1⟩, by rw [if_pos rfl]⟩⟩
      have := (Wl_m hw.1 (by omega) hW0).2.2.1.mp rfl
      rw [this] at hW0; exact hW0
    · have hpos : ¬ nI m ≤ 0 := nI_nle (by omega) (by omega)
      have hf0 : f0 < w.1 := by have := Wl_m hw.1 (show 0 < w.1 by omega) hW0; omega
      /- the line that is found -/
      have fin : ∀ x2, (∃ l, x2 = nI l ∧ l < w.1 ∧ slC u s w m l ∧ ∀ i, l < i → i < w.1 → ¬ slC u s w m i) → SLR u s w (nI m) x2 := by
        rintro x2 ⟨l, rfl, hl, hs, hmx⟩
        obtain ⟨r, hr, hW⟩ := slC_f hu hw.1 hl hs
        refine Or.inl ⟨m, l, rfl, hm12, by omega, ⟨r, hr, hW⟩, fun q hq m' f' hW' => ⟨hmin q m' f' hq hW', fun e => ?_⟩, by rw [if_neg c0]⟩
        subst e
        have hb := Wl_m hw.1 (show 0 < w.1 by omega) hW'
        have hf' : f' < w.1 := by omega
        obtain ⟨q', t1, t2, t3⟩ := Rt_to hw.1 f' 0 q m' (Nat.zero_le _) hf' hq hW'
        apply Classical.byContradiction
        intro z
        exact hmx f' (by omega) hf' ⟨q', f', t1, t2, t3⟩
      refine lq (S := Int32 × Int32) (F := fun n i q => F_9_firstWrong_13 M n (nI m) q.1 q.2 i) (P := fun n i q => P_9_firstWrong_13 M n (nI m) q.1 q.2 i) (Q := fun z => SLR u s w (nI m) z) (w.1) (fun i q => (∀ r, bt q.2 r = true ↔ if i = 0 then r < uN u else ∃ j, i = j + 1 ∧ Rt u s w j r ∧ uE u r = w.2 j) ∧ ((q.1 = -1 ∧ ∀ j, j < i → ¬ slC u s w m j) ∨ ∃ l, q.1 = nI l ∧ l < i ∧ slC u s w m l ∧ ∀ j, l < j → j < i → ¬ slC u s w m j)) ?_ ?_ FU 0 (-1, bi (uN u) - 1) ⟨fun r => by rw [b_allN hn, decide_eq_true_eq]; simp, Or.inl ⟨rfl, fun j h => by omega⟩⟩ (Nat.zero_le _) (FU_ge (by omega))
      · rintro nn i0 ⟨x2, x3⟩ hi ⟨hx3, hx2⟩ ih
        try dsimp only at hx3 hx2 ih ⊢
        have q1 : ¬ nI w.1 ≤ nI i0 := nI_ge hi (by omega)
        have e0 : (nI i0 = 0) ↔ i0 = 0 := nI_eq (b := 0) (by omega) (by omega)
        have f1 := hw.2.2 i0 hi
        have f2 := hw.1.2 i0 hi
        have v1 : vp_in (nI i0) 12 := (vp_iff (by omega)).mpr (by omega)
        have v2 : vp_in (nI (w.2 i0)) 8 := (vp_iff (by omega)).mpr f2
        obtain ⟨a1, a2⟩ := c_joineda hp hg x3
        have body : ∀ H : Int32, (∀ r, bt H r = true ↔ Rt u s w i0 r) → P_9_firstWrong_43 (P_9_firstWrong_13 M nn) M (nI m) x2 (nI i0) H ∧ SLR u s w (nI m) (F_9_firstWrong_43 (F_9_firstWrong_13 M nn) M (nI m) x2 (nI i0) H) := by
          intro H hH
          rw [P_9_firstWrong_43, F_9_firstWrong_43, nI_clamp (n := i0) (by omega), f1, nI_clamp (n := w.2 i0) (by omega)]
          simp only [v1, v2, if_true, if_false, true_imp_iff, false_imp_iff, not_true_eq_false, not_false_eq_true, true_and, and_true, implies_true, reduceIte]
          have hsl : ∀ r, r < 10 → (bt (H &&& (rd M 1566 (w.2 i0) ^^^ (-1))) r = true ↔ Rt u s w i0 r ∧ ¬ uE u r = w.2 i0) := by
            intro r hr
            have h := hp.2.2.2.2.2.2.2 (w.2 i0) f2 r
            simp only [Nat.reduceAdd] at h
            rw [b_and, b_not (by omega), Bool.and_eq_true, hH, h, Bool.not_eq_true']
            constructor
            · rintro ⟨z1, z2⟩
              refine ⟨z1, fun z3 => ?_⟩
              have := Rt_in hu z1
              simp [this, z3] at z2
            · rintro ⟨z1, z2⟩
              exact ⟨z1, by simp [z2]⟩
          generalize H &&& (rd M 1566 (w.2 i0) ^^^ (-1)) = Sl at hsl
          refine lq (S := Int32) (F := fun n i q => F_9_firstWrong_70 (F_9_firstWrong_13 M nn) M n (nI m) q (nI i0) H Sl i) (P := fun n i q => P_9_firstWrong_70 (P_9_firstWrong_13 M nn) M n (nI m) q (nI i0) H Sl i) (Q := fun z => SLR u s w (nI m) z) (uN u) (fun r q => (q = x2 ∧ ∀ p, p < r → ¬ (Rt u s w i0 p ∧ ¬ uE u p = w.2 i0 ∧ ∃ f, Wl u s w i0 p m f)) ∨ (q = nI i0 ∧ slC u s w m i0)) ?_ ?_ FU 0 x2 (Or.inl ⟨rfl, fun p h => by omega⟩) (Nat.zero_le _) (FU_ge (by omega))
          · intro n r y hr hI ih3
            try dsimp only at ih3 ⊢
            have q2 : ¬ nI (uN u) ≤ nI r := nI_ge hr (by omega)
            have z1 := b_z (x := Sl) (i := r) (by omega)
            obtain ⟨C, h3, h7⟩ := hC i0 hi r hr
            have ex : nI i0 * 10 + nI r = nI (i0 * 10 + r) := by rw [show (10 : Int32) = nI 10 from rfl, pk_mul, nI_add]
            have v3 : vp_in (nI (i0 * 10 + r)) 120 := (vp_iff (by omega)).mpr (by omega)
            have e3 : (nI C = nI m) ↔ C = m := nI_eq (by omega) (by omega)
            have hCm : (Rt u s w i0 r ∧ ∃ f, Wl u s w i0 r m f) → C = m := by
              rintro ⟨z2, f, z3⟩
              rcases h7 with ⟨g1, ⟨f', g2⟩, g3⟩ | ⟨g1, g2⟩
              · have x1 := g3 m f z3
                obtain ⟨r', x2, x3⟩ := Rt_of hu hw.1 i0 r C f' hi z2 g2
                have x4 := hmin r' C f' x2 x3
                omega
              · exact absurd z3 (g2 m f)
            rw [P_9_firstWrong_70, F_9_firstWrong_70, hp.2.1]
            simp only [q2, z1, ex, v3, nI_clamp (n := i0 * 10 + r) (by omega), h3, e3, if_true, if_false, true_imp_iff, false_imp_iff, not_true_eq_false, not_false_eq_true, true_and, and_true, implies_true, reduceIte, P_9_firstWrong_112, F_9_firstWrong_112]
            have keep : ¬ (Rt u s w i0 r ∧ ¬ uE u r = w.2 i0 ∧ ∃ f, Wl u s w i0 r m f) → _ := fun hno => ih3 y (by
              rcases hI with ⟨g1, g2⟩ | g
              · refine Or.inl ⟨g1, fun p hp' => ?_⟩
                by_cases z : p = r
                · subst z; exact hno
                · exact g2 p (by omega)
              · exact Or.inr g)
            cases cs : bt Sl r
            · have := keep (fun z => by rw [(hsl r (by omega)).mpr ⟨z.1, z.2.1⟩] at cs; cases cs)
              simpa using this
            · have hR := (hsl r (by omega)).mp cs
              by_cases cC : C = m
              · have := ih3 (nI i0) (Or.inr ⟨rfl, by
                  rcases h7 with ⟨g1, ⟨f', g2⟩, g3⟩ | ⟨g1, g2⟩
                  · rw [cC] at g2; exact ⟨r, f', hR.1, hR.2, g2⟩
                  · omega⟩)
                simpa [cC] using this
              · have := keep (fun z => cC (hCm ⟨z.1, z.2.2⟩))
                simpa [cC] using this
          · intro n y hI
            try dsimp only
            have q2 : nI (uN u) ≤ nI (uN u) := nI_le (Nat.le_refl _) (by omega)
            rw [P_9_firstWrong_70, F_9_firstWrong_70, hp.2.1, nI_clamp (n := i0) (by omega), f1, nI_clamp (n := w.2 i0) (by omega)]
            simp only [q2, v1, v2, c_see hp f2, if_true, if_false, true_imp_iff, false_imp_iff, not_true_eq_false, not_false_eq_true, true_and, and_true, implies_true, reduceIte]
            refine ih (y, snS u H (w.2 i0)) ⟨fun r => ?_, ?_⟩
            · show bt (snS u H (w.2 i0)) r = true ↔ if i0 + 1 = 0 then _ else _
              rw [if_neg (by omega), b_snS hu, hH]
              constructor
              · rintro ⟨z1, z2, z3⟩; exact ⟨i0, rfl, z2, z3⟩
              · rintro ⟨j, z1, z2, z3⟩
                have : j = i0 := by omega
                subst this
                exact ⟨Rt_in hu z2, z2, z3⟩
            · show (y = -1 ∧ _) ∨ ∃ l, y = nI l ∧ _
              rcases hI with ⟨rfl, g2⟩ | ⟨g1, g2⟩
              · have hn2 : ¬ slC u s w m i0 := fun ⟨r, f, z1, z2, z3⟩ => g2 r (Rt_in hu z1) ⟨z1, z2, f, z3⟩
                rcases hx2 with ⟨z1, z2⟩ | ⟨l, z1, z2, z3, z4⟩
                · refine Or.inl ⟨z1, fun j hj => ?_⟩
                  by_cases e : j = i0
                  · subst e; exact hn2
                  · exact z2 j (by omega)
                · refine Or.inr ⟨l, z1, by omega, z3, fun j hj1 hj2 => ?_⟩
                  by_cases e : j = i0
                  · subst e; exact hn2
                  · exact z4 j hj1 (by omega)
              · exact Or.inr ⟨i0, g1, by omega, g2, fun j h2 h3 => by omega⟩
        rw [P_9_firstWrong_13, F_9_firstWrong_13, hw.2.1]
        simp only [q1, hpos, e0, P_0_oneAhead_0, F_0_oneAhead_0, a1, a2, if_true, if_false, true_imp_iff, false_imp_iff, not_true_eq_false, not_false_eq_true, true_and, and_true, implies_true, reduceIte]
        by_cases ci : i0 = 0
        · have := body x3 (fun r => by rw [hx3, if_pos ci, ci]; rfl)
          simpa [ci] using this
        · have := body (nbA u s x3) (fun r => by
            rw [b_nbA hu]
            obtain ⟨j, rfl⟩ : ∃ j, i0 = j + 1 := ⟨i0 - 1, by omega⟩
            constructor
            · rintro ⟨q, z1, z2⟩
              rw [hx3, if_neg ci] at z1
              obtain ⟨j', y1, y2, y3⟩ := z1
              have : j' = j := by omega
              subst this
              exact ⟨q, y2, y3, z2⟩
            · rintro ⟨q, y2, y3, z2⟩
              exact ⟨q, by rw [hx3, if_neg ci]; exact ⟨j, rfl, y2, y3⟩, z2⟩)
          simpa [ci] using this
      · rintro n ⟨x2, x3⟩ ⟨hx3, hx2⟩
        try dsimp only at hx3 hx2 ⊢
        have q1 : nI w.1 ≤ nI w.1 := nI_le (Nat.le_refl _) (by omega)
        rw [P_9_firstWrong_13, F_9_firstWrong_13, hw.2.1]
        simp only [q1, if_true, if_false, true_imp_iff, false_imp_iff, not_true_eq_false, not_false_eq_true, true_and, and_true, implies_true, reduceIte]
        rcases hx2 with ⟨z1, z2⟩ | ⟨l, z1, z2, z3, z4⟩
        · exfalso
          obtain ⟨q', t1, t2, t3⟩ := Rt_to hw.1 f0 0 r0 m (Nat.zero_le _) hf0 hr0 hW0
          exact z2 f0 hf0 ⟨q', f0, t1, t2, t3⟩
        · exact fin x2 ⟨l, z1, z2, z3, z4⟩
  · obtain ⟨s1, s2⟩ := stop (by decide)
    rw [s2]
    exact ⟨s1, Or.inr ⟨rfl, rfl, hno⟩⟩
