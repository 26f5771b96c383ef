/-! MATHEMATICS 10: the reference's matrix of ways -/
theorem rk_comp {f : Int32 → Int32} {x : Int32} (i : Nat) : ∀ j, rkF f (rkF f x i) j = rkF f x (i + j) := by
  intro j
  induction j with
  | zero => rfl
  | succ j ih => rw [rkF, ih, ← Nat.add_assoc, rkF]
theorem rk_trans {R : Nat → Nat → Prop} {f : Int32 → Int32} (hf : StR R f) {x : Int32} {i j c b : Nat} (h1 : bt (rkF f x i) c = true) (h2 : bt (rkF f (bi c) j) b = true) : bt (rkF f x (i + j)) b = true := by
  rw [← rk_comp, rk_add hf]
  exact ⟨c, h1, h2⟩
def rW (c _ : Nat) : Prop := 497 ≤ c ∧ c < 507
def FR (f : Nat → Nat → Nat) (M : Mem) : Prop := ∀ a b, a < 10 → b < 10 → rd M (497 + a) b = nI (f a b)
def bsW (u : MU) (s : SU) : Nat → Nat → Nat → Nat
  | 0, a, b => if a = b then 0 else 999
  | i + 1, a, b => if sB s i = false ∧ uF u i = a ∧ uG u i = b then 1 else bsW u s i a b
def fwS (k : Nat) (f : Nat → Nat → Nat) (a b : Nat) : Nat := if f a k + f k b < f a b then f a k + f k b else f a b
def fwK (f : Nat → Nat → Nat) : Nat → Nat → Nat → Nat
  | 0 => f
  | k + 1 => fwS k (fwK f k)
def FJ (u : MU) (s : SU) (k : Nat) (f : Nat → Nat → Nat) : Prop := (∀ a b, a < 10 → b < 10 → f a b ≤ 999) ∧ (∀ a b, a < 10 → b < 10 → f a b < 999 → bt (rkF (nbA u s) (bi a) (f a b)) b = true) ∧ (∀ a, a < 10 → f a a = 0) ∧ (∀ a b, a < 10 → b < 10 → ed u s a b → f a b ≤ 1) ∧ ∀ a i b, a < 10 → i < k → b < 10 → f a b ≤ f a i + f i b
theorem bsW_J {u : MU} {s : SU} (hu : UW u) : FJ u s 0 (bsW u s (uM u)) := by
  have hn := hu.1
  have p1 : ∀ k a b, bsW u s k a b ≤ 999 := by
    intro k
    induction k with
    | zero => intro a b; rw [bsW]; split <;> omega
    | succ k ih => intro a b; rw [bsW]; have := ih a b; split <;> omega
  have p2 : ∀ k, k ≤ uM u → ∀ a b, a < 10 → bsW u s k a b < 999 → bt (rkF (nbA u s) (bi a) (bsW u s k a b)) b = true := by
    intro k
    induction k with
    | zero =>
      intro _ a b ha h
      rw [bsW] at h ⊢
      by_cases e : a = b
      · subst e
        rw [if_pos rfl, show rkF (nbA u s) (bi a) 0 = bi a from rfl, b_bi (by omega), decide_eq_true_eq]
      · rw [if_neg e] at h; omega
    | succ k ih =>
      intro hk a b ha h
      rw [bsW] at h ⊢
      by_cases e : sB s k = false ∧ uF u k = a ∧ uG u k = b
      · rw [if_pos e, show (1 : Nat) = 0 + 1 from rfl, rkF, b_or, Bool.or_eq_true]
        right
        exact (b_nbA hu).mpr ⟨a, by rw [show rkF (nbA u s) (bi a) 0 = bi a from rfl, b_bi (by omega), decide_eq_true_eq], k, by omega, e.1, e.2.1, e.2.2⟩
      · rw [if_neg e] at h ⊢
        exact ih (by omega) a b ha h
  have p3 : ∀ k, k ≤ uM u → ∀ a, bsW u s k a a = 0 := by
    intro k
    induction k with
    | zero => intro _ a; rw [bsW, if_pos rfl]
    | succ k ih =>
      intro hk a
      have w := hu.2.2.2.2.1 k (by omega)
      rw [bsW, if_neg (fun z => w.2.2.1 (z.2.1.trans z.2.2.symm))]
      exact ih (by omega) a
  have p4 : ∀ k, ∀ d, d < k → sB s d = false → bsW u s k (uF u d) (uG u d) ≤ 1 := by
    intro k
    induction k with
    | zero => intro d h; omega
    | succ k ih =>
      intro d h1 h2
      rw [bsW]
      split
      · exact Nat.le_refl _
      · rename_i hn
        by_cases e : d = k
        · subst e; exact absurd ⟨h2, rfl, rfl⟩ hn
        · exact ih d (by omega) h2
  exact ⟨fun a b _ _ => p1 _ a b, fun a b ha _ => p2 _ (Nat.le_refl _) a b ha, fun a _ => p3 _ (Nat.le_refl _) a, fun a b _ _ ⟨d, h1, h2, h3, h4⟩ => by rw [← h3, ← h4]; exact p4 _ d h1 h2, fun a i b _ h => by omega⟩
theorem fwS_J {u : MU} {s : SU} (hu : UW u) {k : Nat} (hk : k < 10) {f : Nat → Nat → Nat} (h : FJ u s k f) : FJ u s (k + 1) (fwS k f) := by
  obtain ⟨h1, h2, h3, h4, h5⟩ := h
  have le : ∀ a b, fwS k f a b ≤ f a b ∧ fwS k f a b ≤ f a k + f k b := fun a b => by unfold fwS; split <;> omega
  refine ⟨fun a b ha hb => Nat.le_trans (le a b).1 (h1 a b ha hb), fun a b ha hb hl => ?_, fun a ha => ?_, fun a b ha hb he => Nat.le_trans (le a b).1 (h4 a b ha hb he), fun a i b ha hi hb => ?_⟩
  · unfold fwS at hl ⊢
    split
    · rename_i c
      rw [if_pos c] at hl
      exact rk_trans (stA hu) (h2 a k ha hk (by omega)) (h2 k b hk hb (by omega))
    · rename_i c
      rw [if_neg c] at hl
      exact h2 a b ha hb hl
  · have := (le a a).1
    rw [h3 a ha] at this
    omega
  · have e3 := h3 k hk
    by_cases e : i = k
    · subst e
      have := (le a b).2
      have q1 : fwS i f a i = f a i := by unfold fwS; rw [if_neg (by omega)]
      have q2 : fwS i f i b = f i b := by unfold fwS; rw [if_neg (by omega)]
      omega
    · have t1 := h5 a i b ha (by omega) hb
      have t2 := h5 k i b hk (by omega) hb
      have t3 := h5 a i k ha (by omega) hk
      have l1 := (le a b).1
      have l2 := (le a b).2
      have q1 : fwS k f a i = f a i ∨ fwS k f a i = f a k + f k i := by unfold fwS; split <;> simp
      have q2 : fwS k f i b = f i b ∨ fwS k f i b = f i k + f k b := by unfold fwS; split <;> simp
      omega
theorem fwK_J {u : MU} {s : SU} (hu : UW u) : ∀ k, k ≤ 10 → FJ u s k (fwK (bsW u s (uM u)) k) := by
  intro k
  induction k with
  | zero => intro _; exact bsW_J hu
  | succ k ih => intro hk; exact fwS_J hu (by omega) (ih (by omega))
def farW (u : MU) (s : SU) : Nat → Nat → Nat := fwK (bsW u s (uM u)) 10
theorem farW_FW {u : MU} {s : SU} (hu : UW u) : FW u s (farW u s) := by
  obtain ⟨h1, h2, h3, h4, h5⟩ := fwK_J (s := s) hu 10 (Nat.le_refl _)
  exact ⟨h1, h2, h3, h4, fun a b c ha hb hc => h5 a b c ha hb hc⟩
theorem r_less {M : Mem} {a b : Nat} (ha : a < 2 ^ 31) (hb : b < 2 ^ 31) : F_12_less_0 M (nI a) (nI b) = nI (if b < a then b else a) := by
  rw [F_12_less_0]
  by_cases h : b ≤ a
  · rw [if_pos ((nI_leI hb ha).mpr h)]
    by_cases e : b < a
    · rw [if_pos e]
    · rw [if_neg e, show a = b by omega]
  · rw [if_neg (fun z => h ((nI_leI hb ha).mp z)), if_neg (by omega)]
theorem wr_FR {M : Mem} {i j : Nat} {v : Int32} (a b : Nat) : rd (wr M (497 + i) j v) (497 + a) b = if a = i ∧ b = j then v else rd M (497 + a) b := by
  rw [rd_wr]
  by_cases e : a = i ∧ b = j
  · rw [if_pos e, if_pos ⟨by omega, e.2⟩]
  · rw [if_neg e, if_neg (fun z => e ⟨by omega, z.2⟩)]
/-- one pass -/
theorem w_in {k102 : Int32 → Mem → Mem} {pk102 : Int32 → Mem → Prop} {k110 : Int32 → Int32 → Mem → Mem} {pk110 : Int32 → Int32 → Mem → Prop} {Q : Mem → Prop} {M M1 : Mem} {f : Nat → Nat → Nat} {k a : Nat} (hk : k < 10) (ha : a < 10) (h9 : ∀ a b, a < 10 → b < 10 → f a b ≤ 999) (h0 : f k k = 0) (hK : Kp rW M M1) (hI : ∀ x y, x < 10 → y < 10 → rd M1 (497 + x) y = nI (if x < a then fwS k f x y else f x y))
    (hn : ∀ M2, Kp rW M M2 → (∀ x y, x < 10 → y < 10 → rd M2 (497 + x) y = nI (if x < a + 1 then fwS k f x y else f x y)) → pk110 (nI k) (nI a + 1) M2 ∧ Q (k110 (nI k) (nI a + 1) M2)) : P_12_laysWays_118 pk102 pk110 FU (nI k) (nI a) 0 M1 ∧ Q (F_12_laysWays_118 k102 k110 FU (nI k) (nI a) 0 M1) := by
  have q1 : ∀ x, fwS k f x k = f x k := fun x => by unfold fwS; rw [if_neg (by omega)]
  have q2 : ∀ y, fwS k f k y = f k y := fun y => by unfold fwS; rw [if_neg (by omega)]
  refine lq (S := Mem) (F := fun n i q => F_12_laysWays_118 k102 k110 n (nI k) (nI a) i q) (P := fun n i q => P_12_laysWays_118 pk102 pk110 n (nI k) (nI a) i q) (Q := Q) (10) (fun j q => Kp rW M q ∧ ∀ x y, x < 10 → y < 10 → rd q (497 + x) y = nI (if x < a ∨ (x = a ∧ y < j) then fwS k f x y else f x y)) ?_ ?_ FU 0 M1 ⟨hK, fun x y hx hy => by rw [hI x y hx hy]; simp⟩ (Nat.zero_le _) (FU_ge (by omega))
  · intro n j M2 hj hI2 ih
    obtain ⟨hK2, hI2⟩ := hI2
    try dsimp only at ih ⊢
    have c1 : ¬ (10 : Int32) ≤ nI j := nI_ge (b := 10) hj (by omega)
    have v1 : vp_in (nI a) 10 := (vp_iff (by omega)).mpr ha
    have v2 : vp_in (nI k) 10 := (vp_iff (by omega)).mpr hk
    have v3 : vp_in (nI j) 10 := (vp_iff (by omega)).mpr hj
    have r1 : rd M2 (497 + a) j = nI (f a j) := by rw [hI2 a j ha hj, if_neg (by omega)]
    have r2 : rd M2 (497 + a) k = nI (f a k) := by rw [hI2 a k ha hk, q1]; simp
    have r3 : rd M2 (497 + k) j = nI (f k j) := by rw [hI2 k j hk hj, q2]; simp
    have b1 := h9 a j ha hj
    have b2 := h9 a k ha hk
    have b3 := h9 k j hk hj
    rw [P_12_laysWays_118, F_12_laysWays_118]
    simp only [c1, v1, v2, v3, nI_clamp (n := a) (by omega), nI_clamp (n := k) (by omega), nI_clamp (n := j) (by omega), r1, r2, r3, nI_add, if_true, if_false, true_imp_iff, false_imp_iff, not_true_eq_false, not_false_eq_true, true_and, and_true, implies_true, reduceIte]
    rw [r_less (by omega) (by omega)]
    refine ih _ ⟨hK2.w ⟨by omega, by omega⟩, fun x y hx hy => ?_⟩
    rw [wr_FR, hI2 x y hx hy]
    by_cases e : x = a ∧ y = j
    · obtain ⟨rfl, rfl⟩ := e
      rw [if_pos ⟨rfl, rfl⟩, if_pos (Or.inr ⟨rfl, Nat.lt_succ_self _⟩ : x < x ∨ x = x ∧ y < y + 1)]
      rfl
    · rw [if_neg e]
      by_cases e2 : x < a ∨ x = a ∧ y < j
      · rw [if_pos e2, if_pos (by omega)]
      · rw [if_neg e2, if_neg (by omega)]
  · intro n M2 hI2
    obtain ⟨hK2, hI2⟩ := hI2
    try dsimp only
    rw [P_12_laysWays_118, F_12_laysWays_118]
    simp only [(by decide : (10 : Int32) ≤ nI 10), if_true, if_false, true_imp_iff, false_imp_iff, not_true_eq_false, not_false_eq_true, true_and, and_true, implies_true, reduceIte]
    refine hn M2 hK2 (fun x y hx hy => ?_)
    rw [hI2 x y hx hy]
    by_cases e2 : x < a + 1
    · rw [if_pos e2, if_pos (by omega)]
    · rw [if_neg e2, if_neg (by omega)]
theorem w_mid {k102 : Int32 → Mem → Mem} {pk102 : Int32 → Mem → Prop} {Q : Mem → Prop} {M M1 : Mem} {f : Nat → Nat → Nat} {k : Nat} (hk : k < 10) (h9 : ∀ a b, a < 10 → b < 10 → f a b ≤ 999) (h0 : f k k = 0) (hK : Kp rW M M1) (hI : FR f M1)
    (hn : ∀ M2, Kp rW M M2 → FR (fwS k f) M2 → pk102 (nI k + 1) M2 ∧ Q (k102 (nI k + 1) M2)) : P_12_laysWays_110 pk102 FU (nI k) 0 M1 ∧ Q (F_12_laysWays_110 k102 FU (nI k) 0 M1) := by
  refine lq (S := Mem) (F := fun n i q => F_12_laysWays_110 k102 n (nI k) i q) (P := fun n i q => P_12_laysWays_110 pk102 n (nI k) i q) (Q := Q) (10) (fun a q => Kp rW M q ∧ ∀ x y, x < 10 → y < 10 → rd q (497 + x) y = nI (if x < a then fwS k f x y else f x y)) ?_ ?_ FU 0 M1 ⟨hK, fun x y hx hy => by rw [hI x y hx hy]; simp⟩ (Nat.zero_le _) (FU_ge (by omega))
  · intro n a M2 ha hI2 ih
    obtain ⟨hK2, hI2⟩ := hI2
    try dsimp only at ih ⊢
    have c1 : ¬ (10 : Int32) ≤ nI a := nI_ge (b := 10) ha (by omega)
    rw [P_12_laysWays_110, F_12_laysWays_110]
    simp only [c1, if_true, if_false, true_imp_iff, false_imp_iff, not_true_eq_false, not_false_eq_true, true_and, and_true, implies_true, reduceIte]
    exact w_in hk ha h9 h0 hK2 hI2 (fun M3 h1 h2 => ih M3 ⟨h1, h2⟩)
  · intro n M2 hI2
    obtain ⟨hK2, hI2⟩ := hI2
    try dsimp only
    rw [P_12_laysWays_110, F_12_laysWays_110]
    simp only [(by decide : (10 : Int32) ≤ nI 10), if_true, if_false, true_imp_iff, false_imp_iff, not_true_eq_false, not_false_eq_true, true_and, and_true, implies_true, reduceIte]
    exact hn M2 hK2 (fun x y hx hy => by rw [hI2 x y hx hy, if_pos hx])
theorem r_laysWays {u : MU} {s : SU} {M : Mem} (hp : RP u M) (hr : RR u s (rd M 20)) : P_12_laysWays_0 M ∧ ∃ M', F_12_laysWays_0 M = M' ∧ Kp rW M M' ∧ FR (farW u s) M' := by
  have hu := hp.1
  have hm := hu.2.1
  have hn := hu.1
  have third : ∀ M1, Kp rW M M1 → FR (bsW u s (uM u)) M1 → P_12_laysWays_102 FU 0 M1 ∧ ∃ M', F_12_laysWays_102 FU 0 M1 = M' ∧ Kp rW M M' ∧ FR (farW u s) M' := by
    intro M1 hk1 hz
    refine lq (S := Mem) (F := fun n i q => F_12_laysWays_102 n i q) (P := fun n i q => P_12_laysWays_102 n i q) (Q := fun a => ∃ M', a = M' ∧ Kp rW M M' ∧ FR (farW u s) M') (10) (fun i q => Kp rW M q ∧ FR (fwK (bsW u s (uM u)) i) q) ?_ ?_ FU 0 M1 ⟨hk1, hz⟩ (Nat.zero_le _) (FU_ge (by omega))
    · intro n k M2 hk hI ih
      obtain ⟨hK, hI⟩ := hI
      try dsimp only at ih ⊢
      have c1 : ¬ (10 : Int32) ≤ nI k := nI_ge (b := 10) hk (by omega)
      have j := fwK_J (s := s) hu k (by omega)
      rw [P_12_laysWays_102, F_12_laysWays_102]
      simp only [c1, if_true, if_false, true_imp_iff, false_imp_iff, not_true_eq_false, not_false_eq_true, true_and, and_true, implies_true, reduceIte]
      exact w_mid (Q := fun a => ∃ M', a = M' ∧ Kp rW M M' ∧ FR (farW u s) M') hk j.1 (j.2.2.1 k hk) hK hI (fun M3 h1 h2 => ih M3 ⟨h1, h2⟩)
    · intro n M2 hI
      obtain ⟨hK, hI⟩ := hI
      try dsimp only
      rw [P_12_laysWays_102, F_12_laysWays_102]
      simp only [(by decide : (10 : Int32) ≤ nI 10), if_true, if_false, true_imp_iff, false_imp_iff, not_true_eq_false, not_false_eq_true, true_and, and_true, implies_true, reduceIte]
      exact ⟨M2, rfl, hK, hI⟩
  have second : ∀ M1, Kp rW M M1 → FR (bsW u s 0) M1 → P_12_laysWays_50 FU 0 M1 ∧ ∃ M', F_12_laysWays_50 FU 0 M1 = M' ∧ Kp rW M M' ∧ FR (farW u s) M' := by
    intro M1 hk1 hz
    refine lq (S := Mem) (F := fun n i q => F_12_laysWays_50 n i q) (P := fun n i q => P_12_laysWays_50 n i q) (Q := fun a => ∃ M', a = M' ∧ Kp rW M M' ∧ FR (farW u s) M') (uM u) (fun i q => Kp rW M q ∧ FR (bsW u s i) q) ?_ ?_ FU 0 M1 ⟨hk1, hz⟩ (Nat.zero_le _) (FU_ge (by omega))
    · intro n i M2 hi hI ih
      obtain ⟨hK, hI⟩ := hI
      try dsimp only at ih ⊢
      have hp1 := hp.k hK (fun a j z => by unfold rW at z; omega)
      have hr1 : RR u s (rd M2 20) := by rw [hK.row (c := 20) (fun j z => by unfold rW at z; omega)]; exact hr
      have q : ¬ nI (uM u) ≤ nI i := nI_ge hi (by omega)
      have w := hu.2.2.2.2.1 i hi
      obtain ⟨f1, f2, _, _⟩ := hp1.2.2.2.2.2.1 i hi
      obtain ⟨b1, b2⟩ := r_isBarred hi hu hr1
      have v1 : vp_in (nI i) 24 := (vp_iff (by omega)).mpr (by omega)
      have v2 : vp_in (nI (uF u i)) 10 := (vp_iff (by omega)).mpr (by omega)
      have v3 : vp_in (nI (uG u i)) 10 := (vp_iff (by omega)).mpr (by omega)
      rw [P_12_laysWays_50, F_12_laysWays_50, cl1, cl0, hp1.2.2.1]
      simp only [q, v1, v2, v3, b1, b2, ib0, nI_clamp (n := i) (by omega), f1, f2, if_true, if_false, true_imp_iff, false_imp_iff, not_true_eq_false, not_false_eq_true, true_and, and_true, implies_true, reduceIte, P_12_laysWays_94, F_12_laysWays_94, nI_clamp (n := uF u i) (by omega), nI_clamp (n := uG u i) (by omega)]
      cases hB : sB s i
      · have hg := ih (wr M2 (497 + uF u i) (uG u i) 1) ⟨hK.w ⟨by omega, by omega⟩, fun x y hx hy => by
          rw [wr_FR, hI x y hx hy, bsW]
          by_cases e : x = uF u i ∧ y = uG u i
          · rw [if_pos e, if_pos ⟨hB, e.1.symm, e.2.symm⟩]; rfl
          · rw [if_neg e, if_neg (fun z => e ⟨z.2.1.symm, z.2.2.symm⟩)]⟩
        simpa using hg
      · have hg := ih M2 ⟨hK, fun x y hx hy => by rw [hI x y hx hy, bsW, if_neg (by rw [hB]; simp)]⟩
        simpa using hg
    · intro n M2 hI
      obtain ⟨hK, hI⟩ := hI
      try dsimp only
      have hp1 := hp.k hK (fun a j z => by unfold rW at z; omega)
      have q : nI (uM u) ≤ nI (uM u) := nI_le (Nat.le_refl _) (by omega)
      rw [P_12_laysWays_50, F_12_laysWays_50, cl1, hp1.2.2.1]
      simp only [q, if_true, if_false, true_imp_iff, false_imp_iff, not_true_eq_false, not_false_eq_true, true_and, and_true, implies_true, reduceIte]
      exact third M2 hK hI
  rw [P_12_laysWays_0, F_12_laysWays_0]
  refine lq (S := Mem) (F := fun n i q => F_12_laysWays_2 n i q) (P := fun n i q => P_12_laysWays_2 n i q) (Q := fun a => ∃ M', a = M' ∧ Kp rW M M' ∧ FR (farW u s) M') (10) (fun i q => Kp rW M q ∧ ∀ a b, a < i → b < 10 → rd q (497 + a) b = nI (bsW u s 0 a b)) ?_ ?_ FU 0 M ⟨Kp.rf, fun a b h => by omega⟩ (Nat.zero_le _) (FU_ge (by omega))
  · intro nn a M2 ha hI ih
    obtain ⟨hK, hI⟩ := hI
    try dsimp only at ih ⊢
    have c1 : ¬ (10 : Int32) ≤ nI a := nI_ge (b := 10) ha (by omega)
    rw [P_12_laysWays_2, F_12_laysWays_2]
    simp only [c1, if_true, if_false, true_imp_iff, false_imp_iff, not_true_eq_false, not_false_eq_true, true_and, and_true, implies_true, reduceIte]
    refine lq (S := Mem) (F := fun n i q => F_12_laysWays_10 (F_12_laysWays_2 nn) n (nI a) i q) (P := fun n i q => P_12_laysWays_10 (P_12_laysWays_2 nn) n (nI a) i q) (Q := fun a => ∃ M', a = M' ∧ Kp rW M M' ∧ FR (farW u s) M') (10) (fun j q => Kp rW M q ∧ (∀ x b, x < a → b < 10 → rd q (497 + x) b = nI (bsW u s 0 x b)) ∧ ∀ b, b < j → rd q (497 + a) b = nI (bsW u s 0 a b)) ?_ ?_ FU 0 M2 ⟨hK, hI, fun b h => by omega⟩ (Nat.zero_le _) (FU_ge (by omega))
    · intro m j M3 hj hI3 ih3
      obtain ⟨hK3, hI3, hJ3⟩ := hI3
      try dsimp only at ih3 ⊢
      have c2 : ¬ (10 : Int32) ≤ nI j := nI_ge (b := 10) hj (by omega)
      have v1 : vp_in (nI a) 10 := (vp_iff (by omega)).mpr ha
      have v3 : vp_in (nI j) 10 := (vp_iff (by omega)).mpr hj
      have e1 : (nI a = nI j) ↔ a = j := nI_eq (by omega) (by omega)
      have hg : ∀ v, v = nI (bsW u s 0 a j) → _ := fun v hv => ih3 (wr M3 (497 + a) j v) ⟨hK3.w ⟨by omega, by omega⟩, fun x b hx hb => by rw [wr_FR, if_neg (by omega)]; exact hI3 x b hx hb, fun b hb => by
        rw [wr_FR]
        by_cases e : b = j
        · subst e; rw [if_pos ⟨rfl, rfl⟩]; exact hv
        · rw [if_neg (fun z => e z.2)]; exact hJ3 b (by omega)⟩
      rw [P_12_laysWays_10, F_12_laysWays_10]
      simp only [c2, v1, v3, e1, nI_clamp (n := a) (by omega), nI_clamp (n := j) (by omega), ha, if_true, if_false, true_imp_iff, false_imp_iff, not_true_eq_false, not_false_eq_true, true_and, and_true, implies_true, reduceIte, P_12_laysWays_35, F_12_laysWays_35]
      by_cases e : a = j
      · have := hg 0 (by rw [bsW, if_pos e]; rfl)
        simpa [e] using this
      · have := hg 999 (by rw [bsW, if_neg e]; rfl)
        simpa [e] using this
    · intro m M3 hI3
      obtain ⟨hK3, hI3, hJ3⟩ := hI3
      try dsimp only
      rw [P_12_laysWays_10, F_12_laysWays_10]
      simp only [(by decide : (10 : Int32) ≤ nI 10), if_true, if_false, true_imp_iff, false_imp_iff, not_true_eq_false, not_false_eq_true, true_and, and_true, implies_true, reduceIte]
      refine ih M3 ⟨hK3, fun x b hx hb => ?_⟩
      by_cases e : x = a
      · subst e; exact hJ3 b hb
      · exact hI3 x b (by omega) hb
  · intro n M2 hI
    obtain ⟨hK, hI⟩ := hI
    try dsimp only
    rw [P_12_laysWays_2, F_12_laysWays_2]
    simp only [(by decide : (10 : Int32) ≤ nI 10), if_true, if_false, true_imp_iff, false_imp_iff, not_true_eq_false, not_false_eq_true, true_and, and_true, implies_true, reduceIte]
    exact second M2 hK (fun a b ha hb => hI a b ha hb)
