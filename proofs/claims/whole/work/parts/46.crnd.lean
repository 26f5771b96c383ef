/-! MATHEMATICS 16: the class's rounds -/
def cR (c j : Nat) : Prop := (c = 1599 ∧ (j = 8 ∨ j = 9)) ∨ c = 1603 ∨ c = 1604 ∨ c = 1605
def cL (c _ : Nat) : Prop := c = 1605
/-- what later holds, of those gone to so far (G) -/
def LI (u : MU) (s : SU) (E : Nat → Int32) (G : Nat → Nat → Nat → Prop) (M : Mem) : Prop := ∀ T, T < 2 ^ uN u → ∀ r, bt (rd M 1605 T) r = true ↔ bt (E T) r = false ∧ ∃ S q, S < 2 ^ uN u ∧ G S q r ∧ ed u s q r ∧ T = S ||| 2 ^ r
theorem LI.cg {u : MU} {s : SU} {E : Nat → Int32} {G G' : Nat → Nat → Nat → Prop} {M : Mem} (h : LI u s E G M) (hg : ∀ S q r, S < 2 ^ uN u → ed u s q r → (G S q r ↔ G' S q r)) : LI u s E G' M := by
  intro T hT r
  rw [h T hT r]
  refine and_congr Iff.rfl ⟨?_, ?_⟩
  · rintro ⟨S, q, h1, h2, h3, h4⟩; exact ⟨S, q, h1, (hg S q r h1 h3).mp h2, h3, h4⟩
  · rintro ⟨S, q, h1, h2, h3, h4⟩; exact ⟨S, q, h1, (hg S q r h1 h3).mpr h2, h3, h4⟩
/-- what stays while later is filled -/
def CE (u : MU) (s : SU) (E F : Nat → Int32) (M : Mem) : Prop := CP 1561 u M ∧ CG u s M ∧ (∀ T, T < 2 ^ uN u → rd M 1603 T = E T) ∧ ∀ T, T < 2 ^ uN u → rd M 1604 T = F T
theorem CE.k {u : MU} {s : SU} {E F : Nat → Int32} {M M' : Mem} (h : CE u s E F M) (hk : Kp cL M M') : CE u s E F M' := by
  refine ⟨h.1.k hk (fun a j z => by unfold cL at z; omega), h.2.1.k hk (fun a j z => by unfold cL at z; omega), fun T hT => ?_, fun T hT => ?_⟩
  · rw [hk.g (by unfold cL; omega)]; exact h.2.2.1 T hT
  · rw [hk.g (by unfold cL; omega)]; exact h.2.2.2 T hT
theorem c_enter {u : MU} {s : SU} {E F : Nat → Int32} {G : Nat → Nat → Nat → Prop} {M M1 : Mem} {S q : Nat} (hc : CE u s E F M1) (hK : Kp cL M M1) (hS : S < 2 ^ uN u) (hq : q < uN u) (hG : ∀ r, ¬ G S q r) (hL : LI u s E G M1) : P_0_enterFrom_0 (nI S) (nI q) M1 ∧ ∃ M', F_0_enterFrom_0 (nI S) (nI q) M1 = M' ∧ Kp cL M M' ∧ LI u s E (fun X y r => G X y r ∨ (X = S ∧ y = q)) M' := by
  have hu := hc.1.1
  have hn := hu.1
  have h1024 := pow10 hn
  have ea : F_0_aheadOf_0 M1 (nI q) = nbA u s (bi q) := by
    have q10 : ¬ (10 : Int32) ≤ nI q := nI_ge (b := 10) (by omega) (by omega)
    rw [F_0_aheadOf_0, if_neg (nI_pos (by omega)), if_neg q10, nI_clamp (by omega)]
    exact hc.2.1.1 q (by omega)
  have pa : P_0_aheadOf_0 M1 (nI q) := by
    rw [P_0_aheadOf_0]
    exact ⟨fun _ => trivial, fun _ => ⟨fun _ => trivial, fun _ => (vp_iff (by omega)).mpr (by omega)⟩⟩
  have hA : ∀ r, bt (nbA u s (bi q)) r = true ↔ ed u s q r := by
    intro r
    rw [b_nbA hu]
    constructor
    · rintro ⟨c, h1, h2⟩
      rw [b_bi (by omega), decide_eq_true_eq] at h1
      subst h1; exact h2
    · intro h; exact ⟨q, by rw [b_bi (by omega), decide_eq_true_eq], h⟩
  rw [P_0_enterFrom_0, F_0_enterFrom_0, ea]
  suffices h : P_0_enterFrom_9 FU (nI S) (nbA u s (bi q)) 0 M1 ∧ ∃ M', F_0_enterFrom_9 FU (nI S) (nbA u s (bi q)) 0 M1 = M' ∧ Kp cL M M' ∧ LI u s E (fun X y r => G X y r ∨ (X = S ∧ y = q)) M' from ⟨⟨pa, h.1⟩, h.2⟩
  refine lq (S := Int32 × Mem) (F := fun n i q => F_0_enterFrom_9 n (nI S) q.1 i q.2) (P := fun n i q => P_0_enterFrom_9 n (nI S) q.1 i q.2) (Q := fun z => ∃ M', z = M' ∧ Kp cL M M' ∧ LI u s E (fun X y r => G X y r ∨ (X = S ∧ y = q)) M') (10) (fun i w => ∃ p, i ≤ p ∧ Kp cL M w.2 ∧ Kp cL M1 w.2 ∧ (∀ r, bt w.1 r = true ↔ ed u s q r ∧ p ≤ r) ∧ LI u s E (fun X y r => G X y r ∨ (X = S ∧ y = q ∧ r < p)) w.2) ?_ ?_ FU 0 (nbA u s (bi q), M1) ⟨0, Nat.le_refl _, hK, Kp.rf, fun r => by rw [hA]; simp, hL.cg (fun X y r _ _ => by simp)⟩ (Nat.zero_le _) (FU_ge (by omega))
  · rintro n i ⟨x, M2⟩ hi ⟨p, hp, hK2, hK3, hx, hL2⟩ ih
    try dsimp only at hK2 hK3 hx hL2 ih ⊢
    have q1 : ¬ (10 : Int32) ≤ nI i := nI_ge (b := 10) hi (by omega)
    have hc2 := hc.k hK3
    rw [P_0_enterFrom_9, F_0_enterFrom_9]
    by_cases c : x = 0
    · simp only [q1, c, if_true, if_false, true_imp_iff, false_imp_iff, not_true_eq_false, not_false_eq_true, true_and, and_true, implies_true, reduceIte]
      refine ⟨M2, rfl, hK2, hL2.cg (fun X y r hX he => ?_)⟩
      constructor
      · rintro (h | ⟨h1, h2, _⟩)
        · exact Or.inl h
        · exact Or.inr ⟨h1, h2⟩
      · rintro (h | ⟨h1, h2⟩)
        · exact Or.inl h
        · refine Or.inr ⟨h1, h2, Nat.lt_of_not_le (fun z => ?_)⟩
          have := (hx r).mpr ⟨by rw [← h2]; exact he, z⟩
          rw [c, b_0] at this; cases this
    · obtain ⟨t, ht32, htb, htl⟩ := b_least c
      have ht := (hx t).mp htb
      have htN := (ed_lt hu ht.1).2.1
      have low : x &&& -x = nI (2 ^ t) := by rw [b_lowis (by omega) htb htl, bi_nI (by omega)]
      have hT := or_lt (r := t) hS htN
      have q2 : ¬ (1024 : Int32) ≤ nI (S ||| 2 ^ t) := nI_ge (b := 1024) (by omega) (by omega)
      have v1 : vp_in (nI (S ||| 2 ^ t)) 1024 := (vp_iff (by omega)).mpr (by omega)
      have e1 : rd M2 1603 (S ||| 2 ^ t) = E (S ||| 2 ^ t) := hc2.2.2.1 _ hT
      have e2 : (E (S ||| 2 ^ t) &&& nI (2 ^ t) = 0) ↔ bt (E (S ||| 2 ^ t)) t = false := by rw [← bi_nI (by omega), and_bi (by omega)]
      have hx' : ∀ r, bt (x &&& (x - 1)) r = true ↔ ed u s q r ∧ t + 1 ≤ r := by
        intro r
        rw [b_rest, hx]
        constructor
        · rintro ⟨⟨h1, h2⟩, j, h3, h4⟩
          refine ⟨h1, ?_⟩
          apply Classical.byContradiction
          intro z
          have : j < t := by omega
          rw [htl j this] at h4; cases h4
        · rintro ⟨h1, h2⟩
          exact ⟨⟨h1, by omega⟩, t, by omega, htb⟩
      simp only [q1, c, low, nI_orN, q2, v1, nI_clamp (n := S ||| 2 ^ t) (by omega), e1, e2, if_true, if_false, true_imp_iff, false_imp_iff, not_true_eq_false, not_false_eq_true, true_and, and_true, implies_true, reduceIte, P_0_enterFrom_65, F_0_enterFrom_65]
      cases ce : bt (E (S ||| 2 ^ t)) t
      · have hg := ih (x &&& (x - 1), wr M2 1605 (S ||| 2 ^ t) (rd M2 1605 (S ||| 2 ^ t) ||| nI (2 ^ t))) ⟨t + 1, by omega, hK2.w rfl, hK3.w rfl, hx', fun T hT2 r => ?_⟩
        · simpa using hg
        · have er : rd (wr M2 1605 (S ||| 2 ^ t) (rd M2 1605 (S ||| 2 ^ t) ||| nI (2 ^ t))) 1605 T = if T = S ||| 2 ^ t then rd M2 1605 T ||| bi t else rd M2 1605 T := by
            rw [rd_wr, bi_nI (by omega)]
            by_cases e : T = S ||| 2 ^ t
            · rw [if_pos ⟨rfl, e⟩, if_pos e, e]
            · rw [if_neg (fun z => e z.2), if_neg e]
          show bt (rd (wr M2 1605 (S ||| 2 ^ t) (rd M2 1605 (S ||| 2 ^ t) ||| nI (2 ^ t))) 1605 T) r = true ↔ _
          rw [er]
          have h2 := hL2 T hT2 r
          by_cases e : T = S ||| 2 ^ t ∧ r = t
          · obtain ⟨rfl, rfl⟩ := e
            rw [if_pos rfl, b_or, b_bi (by omega), decide_eq_true rfl, Bool.or_true]
            exact ⟨fun _ => ⟨ce, S, q, hS, Or.inr ⟨rfl, rfl, by omega⟩, ht.1, rfl⟩, fun _ => rfl⟩
          · have e3 : bt (if T = S ||| 2 ^ t then rd M2 1605 T ||| bi t else rd M2 1605 T) r = bt (rd M2 1605 T) r := by
              by_cases e4 : T = S ||| 2 ^ t
              · rw [if_pos e4, b_or, b_bi (by omega), decide_eq_false (fun z => e ⟨e4, z⟩), Bool.or_false]
              · rw [if_neg e4]
            rw [e3, h2]
            refine and_congr Iff.rfl ⟨?_, ?_⟩
            · rintro ⟨X, y, h3, h4, h5, h6⟩
              refine ⟨X, y, h3, h4.imp id (fun z => ⟨z.1, z.2.1, by omega⟩), h5, h6⟩
            · rintro ⟨X, y, h3, h4, h5, h6⟩
              refine ⟨X, y, h3, h4.imp id (fun z => ⟨z.1, z.2.1, ?_⟩), h5, h6⟩
              apply Classical.byContradiction
              intro hnp
              have hxr := (hx r).mpr ⟨by rw [← z.2.1]; exact h5, by omega⟩
              have : ¬ r < t := fun hlt => by rw [htl r hlt] at hxr; cases hxr
              have : r = t := by omega
              exact e ⟨by rw [h6, z.1, this], this⟩
      · have hg := ih (x &&& (x - 1), M2) ⟨t + 1, by omega, hK2, hK3, hx', fun T hT2 r => ?_⟩
        · simpa using hg
        · show bt (rd M2 1605 T) r = true ↔ _
          rw [hL2 T hT2 r]
          constructor
          · rintro ⟨h0, X, y, h3, h4, h5, h6⟩
            exact ⟨h0, X, y, h3, h4.imp id (fun z => ⟨z.1, z.2.1, by omega⟩), h5, h6⟩
          · rintro ⟨h0, X, y, h3, h4, h5, h6⟩
            refine ⟨h0, X, y, h3, h4.imp id (fun z => ⟨z.1, z.2.1, ?_⟩), h5, h6⟩
            apply Classical.byContradiction
            intro hnp
            have hxr := (hx r).mpr ⟨by rw [← z.2.1]; exact h5, by omega⟩
            have : ¬ r < t := fun hlt => by rw [htl r hlt] at hxr; cases hxr
            have e5 : r = t := by omega
            rw [h6, z.1, e5, ce] at h0; cases h0
  · rintro n ⟨x, M2⟩ ⟨p, hp, hK2, hK3, hx, hL2⟩
    try dsimp only at hK2 hK3 hx hL2 ⊢
    rw [P_0_enterFrom_9, F_0_enterFrom_9]
    simp only [(by decide : (10 : Int32) ≤ nI 10), if_true, if_false, true_imp_iff, false_imp_iff, not_true_eq_false, not_false_eq_true, true_and, and_true, implies_true, reduceIte]
    refine ⟨M2, rfl, hK2, hL2.cg (fun X y r hX he => ?_)⟩
    constructor
    · rintro (h | ⟨h1, h2, _⟩)
      · exact Or.inl h
      · exact Or.inr ⟨h1, h2⟩
    · rintro (h | ⟨h1, h2⟩)
      · exact Or.inl h
      · have := (ed_lt hu he).2.1
        exact Or.inr ⟨h1, h2, by omega⟩
theorem c_goIn {u : MU} {s : SU} {E F : Nat → Int32} {M M1 : Mem} {S : Nat} {x1 : Int32} (hc : CE u s E F M) (hK : Kp cL M M1) (hS : S < 2 ^ uN u) (hF : ∀ T, T < 2 ^ uN u → ∀ r, bt (F T) r = true → r < uN u) (hL : LI u s E (fun X y _ => X < S ∧ bt (F X) y = true) M1) {k2 : Int32 → Int32 → Mem → Mem} {pk2 : Int32 → Int32 → Mem → Prop} {Q : Mem → Prop}
    (hn' : ∀ M2, Kp cL M M2 → LI u s E (fun X y _ => X < S + 1 ∧ bt (F X) y = true) M2 → pk2 x1 (nI S + 1) M2 ∧ Q (k2 x1 (nI S + 1) M2)) : P_0_goOneDoor_24 pk2 FU x1 (nI S) (F S) 0 M1 ∧ Q (F_0_goOneDoor_24 k2 FU x1 (nI S) (F S) 0 M1) := by
  have hu := hc.1.1
  have hn := hu.1
  refine lq (S := Int32 × Mem) (F := fun n i q => F_0_goOneDoor_24 k2 n x1 (nI S) q.1 i q.2) (P := fun n i q => P_0_goOneDoor_24 pk2 n x1 (nI S) q.1 i q.2) (Q := Q) (10) (fun i w => ∃ p, i ≤ p ∧ Kp cL M w.2 ∧ (∀ r, bt w.1 r = true ↔ bt (F S) r = true ∧ p ≤ r) ∧ LI u s E (fun X y _ => (X < S ∧ bt (F X) y = true) ∨ (X = S ∧ bt (F S) y = true ∧ y < p)) w.2) ?_ ?_ FU 0 (F S, M1) ⟨0, Nat.le_refl _, hK, fun r => by simp, hL.cg (fun X y r _ _ => by simp)⟩ (Nat.zero_le _) (FU_ge (by omega))
  · rintro n i ⟨x, M2⟩ hi ⟨p, hp, hK2, hx, hL2⟩ ih
    try dsimp only at hK2 hx hL2 ih ⊢
    have q1 : ¬ (10 : Int32) ≤ nI i := nI_ge (b := 10) hi (by omega)
    rw [P_0_goOneDoor_24, F_0_goOneDoor_24]
    by_cases c : x = 0
    · simp only [q1, c, if_true, if_false, true_imp_iff, false_imp_iff, not_true_eq_false, not_false_eq_true, true_and, and_true, implies_true, reduceIte, P_0_goOneDoor_56, F_0_goOneDoor_56]
      refine hn' M2 hK2 (hL2.cg (fun X y r hX he => ?_))
      constructor
      · rintro (⟨h1, h2⟩ | ⟨h1, h2, h3⟩)
        · exact ⟨by omega, h2⟩
        · exact ⟨by omega, by rw [h1]; exact h2⟩
      · rintro ⟨h1, h2⟩
        by_cases e : X = S
        · subst e
          refine Or.inr ⟨rfl, h2, Nat.lt_of_not_le (fun z => ?_)⟩
          have := (hx y).mpr ⟨h2, z⟩
          rw [c, b_0] at this; cases this
        · exact Or.inl ⟨by omega, h2⟩
    · obtain ⟨t, ht32, htb, htl⟩ := b_least c
      have ht := (hx t).mp htb
      have htN := hF S hS t ht.1
      have elow : F_11_lowest_0 M2 x = nI t := lowest_eq _ (by omega) htb htl
      obtain ⟨a1, M3, a2, a3, a4⟩ := c_enter (M := M) (hc.k hK2) hK2 hS htN (fun r z => by omega) hL2
      simp only [q1, c, elow, a1, a2, if_true, if_false, true_imp_iff, false_imp_iff, not_true_eq_false, not_false_eq_true, true_and, and_true, implies_true, reduceIte, P_0_goOneDoor_44, F_0_goOneDoor_44]
      refine ih (x &&& (x - 1), M3) ⟨t + 1, by omega, a3, fun r => ?_, a4.cg (fun X y r hX he => ?_)⟩
      · show bt (x &&& (x - 1)) r = true ↔ _
        rw [b_rest, hx]
        constructor
        · rintro ⟨⟨h1, h2⟩, j, h3, h4⟩
          refine ⟨h1, ?_⟩
          apply Classical.byContradiction
          intro z
          have : j < t := by omega
          rw [htl j this] at h4; cases h4
        · rintro ⟨h1, h2⟩
          exact ⟨⟨h1, by omega⟩, t, by omega, htb⟩
      · constructor
        · rintro ((h | ⟨h1, h2, h3⟩) | ⟨h1, h2⟩)
          · exact Or.inl h
          · exact Or.inr ⟨h1, h2, by omega⟩
          · exact Or.inr ⟨h1, by rw [h2]; exact ht.1, by omega⟩
        · rintro (h | ⟨h1, h2, h3⟩)
          · exact Or.inl (Or.inl h)
          · by_cases e : y = t
            · exact Or.inr ⟨h1, e⟩
            · refine Or.inl (Or.inr ⟨h1, h2, Nat.lt_of_not_le (fun z => ?_)⟩)
              have hxr := (hx y).mpr ⟨h2, z⟩
              rw [htl y (by omega)] at hxr; cases hxr
  · rintro n ⟨x, M2⟩ ⟨p, hp, hK2, hx, hL2⟩
    try dsimp only at hK2 hx hL2 ⊢
    rw [P_0_goOneDoor_24, F_0_goOneDoor_24]
    simp only [(by decide : (10 : Int32) ≤ nI 10), if_true, if_false, true_imp_iff, false_imp_iff, not_true_eq_false, not_false_eq_true, true_and, and_true, implies_true, reduceIte, P_0_goOneDoor_56, F_0_goOneDoor_56]
    refine hn' M2 hK2 (hL2.cg (fun X y r hX he => ?_))
    constructor
    · rintro (⟨h1, h2⟩ | ⟨h1, h2, h3⟩)
      · exact ⟨by omega, h2⟩
      · exact ⟨by omega, by rw [h1]; exact h2⟩
    · rintro ⟨h1, h2⟩
      by_cases e : X = S
      · subst e
        have := hF X hX y h2
        exact Or.inr ⟨rfl, h2, by omega⟩
      · exact Or.inl ⟨by omega, h2⟩
/-- how far one has come after k doors -/
def FE (u : MU) (s : SU) (a k : Nat) (E F : Nat → Int32) : Prop := (∀ S, S < 2 ^ uN u → ∀ r, bt (F S) r = true ↔ wkR (ed u s) a k S r ∧ ∀ j, j < k → ¬ wkR (ed u s) a j S r) ∧ ∀ S, S < 2 ^ uN u → ∀ r, bt (E S) r = true ↔ ∃ j, j ≤ k ∧ wkR (ed u s) a j S r
def cR3 (c _ : Nat) : Prop := c = 1603 ∨ c = 1604 ∨ c = 1605
theorem c_goOne {u : MU} {s : SU} {a k : Nat} {E F : Nat → Int32} {M : Mem} (ha : a < uN u) (hc : CE u s E F M) (hfe : FE u s a k E F) (h0 : ∀ T, T < 2 ^ uN u → rd M 1605 T = 0) : P_0_goOneDoor_0 (nI (2 ^ uN u - 1)) M ∧ ∃ M', F_0_goOneDoor_0 (nI (2 ^ uN u - 1)) M = M' ∧ Kp cR3 M M' ∧ ∃ E' F', CE u s E' F' M' ∧ FE u s a (k + 1) E' F' ∧ ∀ T, T < 2 ^ uN u → rd M' 1605 T = 0 := by
  have hu := hc.1.1
  have hn := hu.1
  have h1024 := pow10 hn
  have hpos := Nat.two_pow_pos (uN u)
  have hF : ∀ T, T < 2 ^ uN u → ∀ r, bt (F T) r = true → r < uN u := fun T hT r h => (wk_in hu ha ((hfe.1 T hT r).mp h).1).2.1
  have tz : ∀ {j r}, ¬ wkR (ed u s) a j 0 r := fun h => by have := (wk_in hu ha h).2.2; rw [Nat.zero_testBit] at this; cases this
  have F0 : F 0 = 0 := b_ext (fun i _ => by
    rw [b_0]; apply Bool.eq_false_iff.mpr; intro z; exact tz ((hfe.1 0 hpos i).mp z).1)
  have E0 : E 0 = 0 := b_ext (fun i _ => by
    rw [b_0]; apply Bool.eq_false_iff.mpr; intro z; obtain ⟨j, _, h⟩ := (hfe.2 0 hpos i).mp z; exact tz h)
  rw [P_0_goOneDoor_0, F_0_goOneDoor_0]
  have second : ∀ M1, Kp cL M M1 → LI u s E (fun X y _ => X < 2 ^ uN u ∧ bt (F X) y = true) M1 → P_0_goOneDoor_62 (nI (2 ^ uN u - 1)) M1 ∧ ∃ M', F_0_goOneDoor_62 (nI (2 ^ uN u - 1)) M1 = M' ∧ Kp cR3 M M' ∧ ∃ E' F', CE u s E' F' M' ∧ FE u s a (k + 1) E' F' ∧ ∀ T, T < 2 ^ uN u → rd M' 1605 T = 0 := by
    intro M1 hK1 hL1
    have hc1 := hc.k hK1
    have Lb : ∀ T, T < 2 ^ uN u → ∀ r, bt (rd M1 1605 T) r = true ↔ wkR (ed u s) a (k + 1) T r ∧ ∀ j, j < k + 1 → ¬ wkR (ed u s) a j T r := by
      intro T hT r
      rw [hL1 T hT r]
      have hE : bt (E T) r = false ↔ ∀ j, j < k + 1 → ¬ wkR (ed u s) a j T r := by
        constructor
        · intro h j hj hw
          rw [(hfe.2 T hT r).mpr ⟨j, by omega, hw⟩] at h; cases h
        · intro h
          apply Bool.eq_false_iff.mpr
          intro z
          obtain ⟨j, h1, h2⟩ := (hfe.2 T hT r).mp z
          exact h j (by omega) h2
      rw [hE]
      constructor
      · rintro ⟨h1, S, q, h2, ⟨h3, h4⟩, h5, h6⟩
        exact ⟨⟨S, q, ((hfe.1 S h2 q).mp h4).1, h5, h6⟩, h1⟩
      · rintro ⟨⟨S, q, h1, h2, h3⟩, h4⟩
        have hS := (wk_in hu ha h1).1
        refine ⟨h4, S, q, hS, ⟨hS, (hfe.1 S hS q).mpr ⟨h1, fun j hj hw => ?_⟩⟩, h2, h3⟩
        exact h4 (j + 1) (by omega) ⟨S, q, hw, h2, h3⟩
    have L0 : rd M1 1605 0 = 0 := b_ext (fun i _ => by
      rw [b_0]; apply Bool.eq_false_iff.mpr; intro z; exact tz ((Lb 0 hpos i).mp z).1)
    rw [P_0_goOneDoor_62, F_0_goOneDoor_62]
    refine lq (S := Mem) (F := fun n i q => F_0_goOneDoor_64 n (nI (2 ^ uN u - 1)) i q) (P := fun n i q => P_0_goOneDoor_64 n (nI (2 ^ uN u - 1)) i q) (Q := fun z => ∃ M', z = M' ∧ Kp cR3 M M' ∧ ∃ E' F', CE u s E' F' M' ∧ FE u s a (k + 1) E' F' ∧ ∀ T, T < 2 ^ uN u → rd M' 1605 T = 0) (2 ^ uN u) (fun i q => Kp cR3 M q ∧ ∀ T, T < 2 ^ uN u → (T < i → rd q 1604 T = rd M1 1605 T ∧ rd q 1603 T = E T ||| rd M1 1605 T ∧ rd q 1605 T = 0) ∧ (i ≤ T → rd q 1603 T = E T ∧ rd q 1605 T = rd M1 1605 T)) ?_ ?_ FU 1 M1 ⟨hK1.mono (fun c j z => Or.inr (Or.inr z)), fun T hT => ⟨fun h => ?_, fun _ => ⟨hc1.2.2.1 T hT, rfl⟩⟩⟩ hpos (FU_ge (by omega))
    · rintro n i M2 hi ⟨hK2, hI⟩ ih
      try dsimp only at ih ⊢
      have q1 : ¬ nI (2 ^ uN u - 1) < nI i := nI_nlt (by omega) (by omega)
      have q2 : ¬ (1024 : Int32) ≤ nI i := nI_ge (b := 1024) (by omega) (by omega)
      have v1 : vp_in (nI i) 1024 := (vp_iff (by omega)).mpr (by omega)
      obtain ⟨g1, g2⟩ := (hI i hi).2 (Nat.le_refl _)
      rw [P_0_goOneDoor_64, F_0_goOneDoor_64]
      simp only [q1, q2, v1, nI_clamp (n := i) (by omega), if_true, if_false, true_imp_iff, false_imp_iff, not_true_eq_false, not_false_eq_true, true_and, and_true, implies_true, reduceIte]
      have e1 : ∀ v, rd (wr M2 1604 i v) 1603 i = rd M2 1603 i := fun v => rd_c (by decide)
      have e2 : ∀ v, rd (wr M2 1604 i v) 1605 i = rd M2 1605 i := fun v => rd_c (by decide)
      rw [e1, e2, g1, g2]
      refine ih _ ⟨((hK2.w (Or.inr (Or.inl rfl))).w (Or.inl rfl)).w (Or.inr (Or.inr rfl)), fun T hT => ?_⟩
      by_cases e : T = i
      · subst e
        refine ⟨fun _ => ⟨?_, ?_, ?_⟩, fun h => by omega⟩
        · rw [rd_c (by decide), rd_c (by decide), rd_s]
        · rw [rd_c (by decide), rd_s]
        · rw [rd_s]
      · rw [rd_i e, rd_i e, rd_i e, rd_i e, rd_i e, rd_i e, rd_i e, rd_i e, rd_i e]
        exact ⟨fun h => (hI T hT).1 (by omega), fun h => (hI T hT).2 (by omega)⟩
    · rintro n M2 ⟨hK2, hI⟩
      try dsimp only
      have q1 : nI (2 ^ uN u - 1) < nI (2 ^ uN u) := nI_lt (by omega) (by omega)
      rw [P_0_goOneDoor_64, F_0_goOneDoor_64]
      simp only [q1, if_true, if_false, true_imp_iff, false_imp_iff, not_true_eq_false, not_false_eq_true, true_and, and_true, implies_true, reduceIte]
      refine ⟨M2, rfl, hK2, fun T => E T ||| rd M1 1605 T, fun T => rd M1 1605 T, ⟨hc.1.k hK2 (fun a j z => by unfold cR3 at z; omega), hc.2.1.k hK2 (fun a j z => by unfold cR3 at z; omega), fun T hT => ((hI T hT).1 hT).2.1, fun T hT => ((hI T hT).1 hT).1⟩, ⟨fun S hS r => Lb S hS r, fun S hS r => ?_⟩, fun T hT => ((hI T hT).1 hT).2.2⟩
      show bt (E S ||| rd M1 1605 S) r = true ↔ _
      rw [b_or, Bool.or_eq_true, Lb S hS, hfe.2 S hS]
      constructor
      · rintro (⟨j, h1, h2⟩ | ⟨h1, h2⟩)
        · exact ⟨j, by omega, h2⟩
        · exact ⟨k + 1, Nat.le_refl _, h1⟩
      · rintro ⟨j, h1, h2⟩
        by_cases e : ∃ i, i ≤ k ∧ wkR (ed u s) a i S r
        · exact Or.inl e
        · have : j = k + 1 := Classical.byContradiction (fun z => e ⟨j, by omega, h2⟩)
          subst this
          exact Or.inr ⟨h2, fun i hi hw => e ⟨i, by omega, hw⟩⟩
    · have : T = 0 := by omega
      subst this
      rw [hc1.2.2.2 0 hpos, hc1.2.2.1 0 hpos, L0, F0, E0]
      exact ⟨rfl, (or_0 _).symm, rfl⟩
  refine lq (S := Mem) (F := fun n i q => F_0_goOneDoor_2 n (nI (2 ^ uN u - 1)) i q) (P := fun n i q => P_0_goOneDoor_2 n (nI (2 ^ uN u - 1)) i q) (Q := fun z => ∃ M', z = M' ∧ Kp cR3 M M' ∧ ∃ E' F', CE u s E' F' M' ∧ FE u s a (k + 1) E' F' ∧ ∀ T, T < 2 ^ uN u → rd M' 1605 T = 0) (2 ^ uN u) (fun i q => Kp cL M q ∧ LI u s E (fun X y _ => X < i ∧ bt (F X) y = true) q) ?_ ?_ FU 1 M ⟨Kp.rf, fun T hT r => ?_⟩ hpos (FU_ge (by omega))
  · rintro n i M2 hi ⟨hK2, hL2⟩ ih
    try dsimp only at ih ⊢
    have q1 : ¬ nI (2 ^ uN u - 1) < nI i := nI_nlt (by omega) (by omega)
    have q2 : ¬ (1024 : Int32) ≤ nI i := nI_ge (b := 1024) (by omega) (by omega)
    have v1 : vp_in (nI i) 1024 := (vp_iff (by omega)).mpr (by omega)
    rw [P_0_goOneDoor_2, F_0_goOneDoor_2]
    simp only [q1, q2, v1, nI_clamp (n := i) (by omega), (hc.k hK2).2.2.2 i hi, if_true, if_false, true_imp_iff, false_imp_iff, not_true_eq_false, not_false_eq_true, true_and, and_true, implies_true, reduceIte]
    exact c_goIn (Q := fun z => ∃ M', z = M' ∧ Kp cR3 M M' ∧ ∃ E' F', CE u s E' F' M' ∧ FE u s a (k + 1) E' F' ∧ ∀ T, T < 2 ^ uN u → rd M' 1605 T = 0) hc hK2 hi hF hL2 (fun M3 h1 h2 => ih M3 ⟨h1, h2⟩)
  · rintro n M2 ⟨hK2, hL2⟩
    try dsimp only
    have q1 : nI (2 ^ uN u - 1) < nI (2 ^ uN u) := nI_lt (by omega) (by omega)
    rw [P_0_goOneDoor_2, F_0_goOneDoor_2]
    simp only [q1, if_true, if_false, true_imp_iff, false_imp_iff, not_true_eq_false, not_false_eq_true, true_and, and_true, implies_true, reduceIte]
    exact second M2 hK2 hL2
  · rw [h0 T hT, b_0]
    constructor
    · intro z; cases z
    · rintro ⟨_, S, q, _, ⟨h1, h2⟩, _, _⟩
      rw [show S = 0 by omega, F0, b_0] at h2; cases h2
theorem wk_reach {u : MU} {s : SU} (hu : UW u) {a : Nat} (ha : a < uN u) : ∀ {k S r}, wkR (ed u s) a k S r → bt (rkF (nbA u s) (bi a) k) r = true ∧ ∀ i, S.testBit i = true → bt (rkF (nbA u s) (bi a) k) i = true := by
  have hn := hu.1
  intro k
  induction k with
  | zero =>
    rintro S r ⟨rfl, rfl⟩
    have h0 : bt (rkF (nbA u s) (bi r) 0) r = true := by rw [show rkF (nbA u s) (bi r) 0 = bi r from rfl, b_bi (by omega), decide_eq_true_eq]
    refine ⟨h0, fun i hi => ?_⟩
    rw [Nat.testBit_two_pow, decide_eq_true_eq] at hi
    rw [← hi]; exact h0
  | succ k ih =>
    rintro S r ⟨T, q, h1, h2, rfl⟩
    obtain ⟨h3, h4⟩ := ih h1
    have h5 : bt (rkF (nbA u s) (bi a) (k + 1)) r = true := by
      rw [rkF, b_or, Bool.or_eq_true]; exact Or.inr ((b_nbA hu).mpr ⟨q, h3, h2⟩)
    refine ⟨h5, fun i hi => ?_⟩
    rw [tb_or, Bool.or_eq_true, decide_eq_true_eq] at hi
    rcases hi with hi | hi
    · exact rk_mono (h4 i hi) 1
    · rw [← hi]; exact h5
theorem c_goRound {u : MU} {s : SU} {a : Nat} {M : Mem} (hp : CP 1561 u M) (hg : CG u s M) (ha : a < uN u) : P_0_goRound_0 (nI a) M ∧ ∃ M', F_0_goRound_0 (nI a) M = M' ∧ Kp cR M M' ∧ RES u s a (rd M' 1599 8) (rd M' 1599 9) := by
  have hu := hp.1
  have hn := hu.1
  have h1024 := pow10 hn
  have hpos := Nat.two_pow_pos (uN u)
  have hal : 2 ^ a < 2 ^ uN u := Nat.pow_lt_pow_right (by decide) ha
  have k0 : Kp cR M (wr (wr M 1599 8 (-1)) 1599 9 (-1)) := (Kp.rf.w (Or.inl ⟨rfl, Or.inl rfl⟩)).w (Or.inl ⟨rfl, Or.inr rfl⟩)
  have r8 : rd (wr (wr M 1599 8 (-1)) 1599 9 (-1)) 1599 8 = -1 := by rw [rd_i (by decide), rd_s]
  have r9 : rd (wr (wr M 1599 8 (-1)) 1599 9 (-1)) 1599 9 = -1 := rd_s _ _ _ _
  rw [P_0_goRound_0, F_0_goRound_0]
  generalize wr (wr M 1599 8 (-1)) 1599 9 (-1) = M0 at k0 r8 r9
  have hp0 : CP 1561 u M0 := hp.k k0 (fun a j z => by unfold cR at z; omega)
  have hg0 : CG u s M0 := hg.k k0 (fun a j z => by unfold cR at z; omega)
  have eall : F_4_allRooms_0 M0 = bi (uN u) - 1 := by rw [F_4_allRooms_0, hp0.2.1, bi_of]
  obtain ⟨a1, a2⟩ := c_closurea hp0 hg0 (bi a)
  rw [P_0_reachFrom_0, F_0_reachFrom_0, bi_of, a2, eall]
  by_cases c : rkF (nbA u s) (bi a) 10 = bi (uN u) - 1
  · simp only [a1, c, if_true, if_false, true_imp_iff, false_imp_iff, not_true_eq_false, not_false_eq_true, true_and, and_true, implies_true, reduceIte]
    rw [all_num _ (by omega)]
    have third : ∀ M1 E F, Kp cR M M1 → CE u s E F M1 → FE u s a 0 E F → (∀ T, T < 2 ^ uN u → rd M1 1605 T = 0) → rd M1 1599 8 = -1 ∧ rd M1 1599 9 = -1 → P_0_goRound_95 FU (nI (2 ^ uN u - 1)) 0 M1 ∧ ∃ M', F_0_goRound_95 FU (nI (2 ^ uN u - 1)) 0 M1 = M' ∧ Kp cR M M' ∧ RES u s a (rd M' 1599 8) (rd M' 1599 9) := by
      intro M1 E F hK1 hc1 hfe1 hz1 h89
      refine lq (S := Mem) (F := fun n i q => F_0_goRound_95 n (nI (2 ^ uN u - 1)) i q) (P := fun n i q => P_0_goRound_95 n (nI (2 ^ uN u - 1)) i q) (Q := fun z => ∃ M', z = M' ∧ Kp cR M M' ∧ RES u s a (rd M' 1599 8) (rd M' 1599 9)) (101) (fun k q => Kp cR M q ∧ (∃ E F, CE u s E F q ∧ FE u s a k E F) ∧ (∀ T, T < 2 ^ uN u → rd q 1605 T = 0) ∧ (rd q 1599 8 = -1 ∧ rd q 1599 9 = -1) ∧ ∀ j, j < k → ∀ r, ¬ wkR (ed u s) a j (2 ^ uN u - 1) r) ?_ ?_ FU 0 M1 ⟨hK1, ⟨E, F, hc1, hfe1⟩, hz1, h89, fun j h => by omega⟩ (Nat.zero_le _) (FU_ge (by omega))
      · rintro n k M2 hk ⟨hK2, ⟨E2, F2, hc2, hfe2⟩, hz2, h892, hno⟩ ih
        try dsimp only at ih ⊢
        have q1 : ¬ (100 : Int32) < nI k := fun z => by have := (nI_ltI (a := 100) (by omega) (by omega)).mp z; omega
        have v1 : vp_in (nI (2 ^ uN u - 1)) 1024 := (vp_iff (by omega)).mpr (by omega)
        have e1 : rd M2 1604 (2 ^ uN u - 1) = F2 (2 ^ uN u - 1) := hc2.2.2.2 _ (by omega)
        have hb := hfe2.1 (2 ^ uN u - 1) (by omega)
        rw [P_0_goRound_95, F_0_goRound_95]
        simp only [q1, v1, nI_clamp (n := 2 ^ uN u - 1) (by omega), e1, if_true, if_false, true_imp_iff, false_imp_iff, not_true_eq_false, not_false_eq_true, true_and, and_true, implies_true, reduceIte]
        by_cases cz : F2 (2 ^ uN u - 1) = 0
        · obtain ⟨b1, M3, b2, b3, E3, F3, b4, b5, b6⟩ := c_goOne ha hc2 hfe2 hz2
          simp only [cz, b1, b2, if_true, if_false, true_imp_iff, false_imp_iff, not_true_eq_false, not_false_eq_true, true_and, and_true, implies_true, reduceIte, P_0_goRound_134, F_0_goRound_134]
          refine ih M3 ⟨hK2.tr (b3.mono (fun c j z => Or.inr z)), ⟨E3, F3, b4, b5⟩, b6, ?_, fun j hj r hw => ?_⟩
          · rw [b3.g (by unfold cR3; omega), b3.g (by unfold cR3; omega)]; exact h892
          · by_cases e : j = k
            · subst e
              have := (hb r).mpr ⟨hw, fun i hi => hno i hi r⟩
              rw [cz, b_0] at this; cases this
            · exact hno j (by omega) r hw
        · simp only [cz, if_true, if_false, true_imp_iff, false_imp_iff, not_true_eq_false, not_false_eq_true, true_and, and_true, implies_true, reduceIte]
          obtain ⟨r, hr32, hrb, hrl⟩ := b_least cz
          have hr := (hb r).mp hrb
          have hrN := (wk_in hu ha hr.1).2.1
          have elow : F_11_lowest_0 (wr M2 1599 8 (nI k)) (rd (wr M2 1599 8 (nI k)) 1604 (2 ^ uN u - 1)) = nI r := by
            rw [rd_c (by decide), e1]
            exact lowest_eq _ (by omega) hrb hrl
          refine ⟨_, rfl, (hK2.w (Or.inl ⟨rfl, Or.inl rfl⟩)).w (Or.inl ⟨rfl, Or.inr rfl⟩), Or.inl ⟨k, r, by omega, hrN, by rw [rd_i (by decide), rd_s], by rw [rd_s, elow], hr.1, hno, fun q hq hw => ?_⟩⟩
          have := (hb q).mpr ⟨hw, fun i hi => hno i hi q⟩
          rw [hrl q hq] at this; cases this
      · rintro n M2 ⟨hK2, _, _, h892, hno⟩
        try dsimp only
        rw [P_0_goRound_95, F_0_goRound_95]
        simp only [(by decide : (100 : Int32) < nI 101), if_true, if_false, true_imp_iff, false_imp_iff, not_true_eq_false, not_false_eq_true, true_and, and_true, implies_true, reduceIte]
        exact ⟨M2, rfl, hK2, Or.inr ⟨h892.1, h892.2, fun k r hk => hno k (by omega) r⟩⟩
    have second : ∀ M1, Kp cR M M1 → (∀ T, T < 2 ^ uN u → rd M1 1603 T = 0 ∧ rd M1 1604 T = 0 ∧ rd M1 1605 T = 0) → rd M1 1599 8 = -1 ∧ rd M1 1599 9 = -1 → P_0_goRound_71 (nI a) (nI (2 ^ uN u - 1)) M1 ∧ ∃ M', F_0_goRound_71 (nI a) (nI (2 ^ uN u - 1)) M1 = M' ∧ Kp cR M M' ∧ RES u s a (rd M' 1599 8) (rd M' 1599 9) := by
      intro M1 hK1 hz1 h89
      have v1 : vp_in (nI (2 ^ a)) 1024 := (vp_iff (by omega)).mpr (by omega)
      rw [P_0_goRound_71, F_0_goRound_71, bi_of, bi_nI (by omega), nI_clamp (n := 2 ^ a) (by omega)]
      have hK2 : Kp cR M (wr (wr M1 1603 (2 ^ a) (nI (2 ^ a))) 1604 (2 ^ a) (nI (2 ^ a))) := (hK1.w (Or.inr (Or.inl rfl))).w (Or.inr (Or.inr (Or.inl rfl)))
      have hh := third _ (fun T => if T = 2 ^ a then nI (2 ^ a) else 0) (fun T => if T = 2 ^ a then nI (2 ^ a) else 0) hK2 ⟨hp.k hK2 (fun a j z => by unfold cR at z; omega), hg.k hK2 (fun a j z => by unfold cR at z; omega), fun T hT => ?_, fun T hT => ?_⟩ ⟨fun S hS r => ?_, fun S hS r => ?_⟩ (fun T hT => ?_) ?_
      · exact ⟨⟨v1, hh.1⟩, hh.2⟩
      · show _ = if T = 2 ^ a then nI (2 ^ a) else 0
        rw [rd_c (by decide), rd_wr]
        by_cases e : T = 2 ^ a
        · rw [if_pos ⟨rfl, e⟩, if_pos e]
        · rw [if_neg (fun z => e z.2), if_neg e]; exact (hz1 T hT).1
      · show _ = if T = 2 ^ a then nI (2 ^ a) else 0
        rw [rd_wr]
        by_cases e : T = 2 ^ a
        · rw [if_pos ⟨rfl, e⟩, if_pos e]
        · rw [if_neg (fun z => e z.2), if_neg e, rd_c (by decide)]; exact (hz1 T hT).2.1
      · show bt (if S = 2 ^ a then nI (2 ^ a) else 0) r = true ↔ _
        by_cases e : S = 2 ^ a
        · rw [if_pos e, ← bi_nI (by omega), b_bi (by omega), decide_eq_true_eq]
          exact ⟨fun h => ⟨⟨e, h⟩, fun j hj => by omega⟩, fun h => h.1.2⟩
        · rw [if_neg e, b_0]
          exact ⟨fun h => (by cases h), fun h => absurd h.1.1 e⟩
      · show bt (if S = 2 ^ a then nI (2 ^ a) else 0) r = true ↔ _
        by_cases e : S = 2 ^ a
        · rw [if_pos e, ← bi_nI (by omega), b_bi (by omega), decide_eq_true_eq]
          exact ⟨fun h => ⟨0, Nat.le_refl _, e, h⟩, fun ⟨j, h1, h2⟩ => by rw [show j = 0 by omega] at h2; exact h2.2⟩
        · rw [if_neg e, b_0]
          exact ⟨fun h => (by cases h), fun ⟨j, h1, h2⟩ => by rw [show j = 0 by omega] at h2; exact absurd h2.1 e⟩
      · rw [rd_c (by decide), rd_c (by decide)]; exact (hz1 T hT).2.2
      · rw [rd_c (by decide), rd_c (by decide), rd_c (by decide), rd_c (by decide)]; exact h89
    refine lq (S := Mem) (F := fun n i q => F_0_goRound_32 n (nI a) (nI (2 ^ uN u - 1)) i q) (P := fun n i q => P_0_goRound_32 n (nI a) (nI (2 ^ uN u - 1)) i q) (Q := fun z => ∃ M', z = M' ∧ Kp cR M M' ∧ RES u s a (rd M' 1599 8) (rd M' 1599 9)) (2 ^ uN u) (fun i q => Kp cR M q ∧ (∀ T, T < i → rd q 1603 T = 0 ∧ rd q 1604 T = 0 ∧ rd q 1605 T = 0) ∧ rd q 1599 8 = -1 ∧ rd q 1599 9 = -1) ?_ ?_ FU 0 M0 ⟨k0, fun T h => by omega, r8, r9⟩ (Nat.zero_le _) (FU_ge (by omega))
    · rintro n i M2 hi ⟨hK2, hz, h8, h9⟩ ih
      try dsimp only at ih ⊢
      have q1 : ¬ nI (2 ^ uN u - 1) < nI i := nI_nlt (by omega) (by omega)
      have q2 : ¬ (1024 : Int32) ≤ nI i := nI_ge (b := 1024) (by omega) (by omega)
      have v1 : vp_in (nI i) 1024 := (vp_iff (by omega)).mpr (by omega)
      rw [P_0_goRound_32, F_0_goRound_32]
      simp only [q1, q2, v1, nI_clamp (n := i) (by omega), if_true, if_false, true_imp_iff, false_imp_iff, not_true_eq_false, not_false_eq_true, true_and, and_true, implies_true, reduceIte]
      refine ih _ ⟨((hK2.w (Or.inr (Or.inl rfl))).w (Or.inr (Or.inr (Or.inl rfl)))).w (Or.inr (Or.inr (Or.inr rfl))), fun T hT => ?_, by rw [rd_c (by decide), rd_c (by decide), rd_c (by decide)]; exact h8, by rw [rd_c (by decide), rd_c (by decide), rd_c (by decide)]; exact h9⟩
      by_cases e : T = i
      · subst e
        exact ⟨by rw [rd_c (by decide), rd_c (by decide), rd_s], by rw [rd_c (by decide), rd_s], rd_s _ _ _ _⟩
      · rw [rd_i e, rd_i e, rd_i e, rd_i e, rd_i e, rd_i e, rd_i e, rd_i e, rd_i e]
        exact hz T (by omega)
    · rintro n M2 ⟨hK2, hz, h8, h9⟩
      try dsimp only
      have q1 : nI (2 ^ uN u - 1) < nI (2 ^ uN u) := nI_lt (by omega) (by omega)
      rw [P_0_goRound_32, F_0_goRound_32]
      simp only [q1, if_true, if_false, true_imp_iff, false_imp_iff, not_true_eq_false, not_false_eq_true, true_and, and_true, implies_true, reduceIte]
      exact second M2 hK2 hz ⟨h8, h9⟩
  · simp only [a1, c, if_true, if_false, true_imp_iff, false_imp_iff, not_true_eq_false, not_false_eq_true, true_and, and_true, implies_true, reduceIte]
    refine ⟨M0, rfl, k0, Or.inr ⟨r8, r9, fun k r hk hw => c ?_⟩⟩
    apply b_ext'
    intro i
    rw [b_allN hn, decide_eq_true_eq]
    constructor
    · exact rk_in hu ha 10
    · intro hi
      have h1 := (wk_reach hu ha hw).2 i (by rw [tb_all, decide_eq_true hi])
      rcases Nat.lt_or_ge k 10 with h | h
      · exact rk_mono' h1 (by omega)
      · rw [rk_stab (low_A hu) (low_bi (by omega)) h] at h1; exact h1
