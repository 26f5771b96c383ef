/-! MATHEMATICS 11: the reference's askings by its matrix -/
def orN (v : Nat) : Int32 := if v < 999 then nI v else -1
theorem r_orNone {M : Mem} {v : Nat} (hv : v < 2 ^ 31) : F_12_orNone_0 M (nI v) = orN v := by
  rw [F_12_orNone_0, orN]
  have : (nI v < 999) ↔ v < 999 := nI_ltI (b := 999) hv (by omega)
  by_cases h : v < 999
  · rw [if_pos h, if_pos (this.mpr h)]
  · rw [if_neg h, if_neg (fun z => h (this.mp z))]
def mnF (p : Nat → Bool) (g : Nat → Nat) : Nat → Nat
  | 0 => 999
  | k + 1 => if p k = true then (if g k < mnF p g k then g k else mnF p g k) else mnF p g k
theorem mnF_le {p : Nat → Bool} {g : Nat → Nat} : ∀ n, mnF p g n ≤ 999 := by
  intro n
  induction n with
  | zero => exact Nat.le_refl _
  | succ n ih =>
    rw [mnF]
    split
    · split <;> omega
    · exact ih
theorem mnF_iff {p : Nat → Bool} {g : Nat → Nat} {j : Nat} (hj : j < 999) : ∀ n, mnF p g n ≤ j ↔ ∃ k, k < n ∧ p k = true ∧ g k ≤ j := by
  intro n
  induction n with
  | zero =>
    rw [mnF]
    constructor
    · intro h; omega
    · rintro ⟨k, h, _⟩; omega
  | succ n ih =>
    rw [mnF]
    constructor
    · intro h
      by_cases c : p n = true
      · rw [if_pos c] at h
        by_cases e : g n < mnF p g n
        · rw [if_pos e] at h; exact ⟨n, by omega, c, h⟩
        · rw [if_neg e] at h
          obtain ⟨k, h1, h2⟩ := ih.mp h
          exact ⟨k, by omega, h2⟩
      · rw [if_neg c] at h
        obtain ⟨k, h1, h2⟩ := ih.mp h
        exact ⟨k, by omega, h2⟩
    · rintro ⟨k, h1, h2, h3⟩
      by_cases e : k = n
      · subst e
        rw [if_pos h2]
        split <;> omega
      · have := ih.mpr ⟨k, by omega, h2, h3⟩
        split
        · split <;> omega
        · exact this
theorem r_isExit {u : MU} {M : Mem} (hp : RP u M) {r : Nat} (hr : r < 32) : P_12_isExit_0 M (nI r) ∧ F_12_isExit_0 M (nI r) = if bt (uX u) r = true then 1 else 0 := by
  rw [P_12_isExit_0, F_12_isExit_0, cl3, hp.2.2.2.2.1, r_has M _ hr]
  refine ⟨?_, rfl⟩
  cases bt (uX u) r <;> rfl
/-- what stringTo works out, ahead of NONE -/
def stT (u : MU) (f : Nat → Nat → Nat) (r : Nat) : Nat := mnF (bt (uX u)) (fun e => f e r) (uN u)
def otT (u : MU) (f : Nat → Nat → Nat) (r : Nat) : Nat := mnF (bt (uX u)) (fun e => f r e) (uN u)
theorem r_stringTo {u : MU} {f : Nat → Nat → Nat} {M : Mem} (hp : RP u M) (hf : FR f M) (h9 : ∀ a b, a < 10 → b < 10 → f a b ≤ 999) {r : Nat} (hr : r < 10) : P_12_stringTo_0 M (nI r) ∧ F_12_stringTo_0 M (nI r) = orN (stT u f r) := by
  rw [P_12_stringTo_0, F_12_stringTo_0]
  have hn := hp.1.1
  refine lq (S := Int32) (F := fun n i q => F_12_stringTo_6 M n (nI r) q i) (P := fun n i q => P_12_stringTo_6 M n (nI r) q i) (Q := fun a => a = orN (stT u f r)) (uN u) (fun i q => q = nI (mnF (bt (uX u)) (fun e => f e r) i)) ?_ ?_ FU 0 999 rfl (Nat.zero_le _) (FU_ge (by omega))
  · intro n i q hi hI ih
    try dsimp only at hI ih ⊢
    have q1 : ¬ nI (uN u) ≤ nI i := nI_ge hi (by omega)
    obtain ⟨x1, x2⟩ := r_isExit hp (r := i) (by omega)
    have v1 : vp_in (nI i) 10 := (vp_iff (by omega)).mpr (by omega)
    have v2 : vp_in (nI r) 10 := (vp_iff (by omega)).mpr hr
    have hl := mnF_le (p := bt (uX u)) (g := fun e => f e r) i
    have h99 := h9 i r (by omega) hr
    have hg := ih (nI (mnF (bt (uX u)) (fun e => f e r) (i + 1))) rfl
    rw [mnF] at hg
    rw [P_12_stringTo_6, F_12_stringTo_6, cl0, hp.2.1]
    simp only [q1, x1, x2, ib0, v1, v2, nI_clamp (n := i) (by omega), nI_clamp (n := r) (by omega), hf i r (by omega) hr, hI, if_true, if_false, true_imp_iff, false_imp_iff, not_true_eq_false, not_false_eq_true, true_and, and_true, implies_true, reduceIte, P_12_stringTo_40, F_12_stringTo_40, r_less (M := M) (a := mnF (bt (uX u)) (fun e => f e r) i) (b := f i r) (by omega) (by omega)]
    cases hb : bt (uX u) i <;> simpa [hb] using hg
  · intro n q hI
    try dsimp only at hI ⊢
    have q1 : nI (uN u) ≤ nI (uN u) := nI_le (Nat.le_refl _) (by omega)
    rw [P_12_stringTo_6, F_12_stringTo_6, cl0, hp.2.1]
    simp only [q1, if_true, if_false, true_imp_iff, false_imp_iff, not_true_eq_false, not_false_eq_true, true_and, and_true, implies_true, reduceIte]
    have hl := mnF_le (p := bt (uX u)) (g := fun e => f e r) (uN u)
    rw [hI, r_orNone (by omega)]
    rfl
theorem r_more {M : Mem} {a b : Nat} (ha : a < 2 ^ 31) (hb : b < 2 ^ 31) : F_12_more_0 M (nI a) (nI b) = nI (if a < b then b else a) := by
  rw [F_12_more_0]
  by_cases h : a ≤ b
  · rw [if_pos ((nI_leI ha hb).mpr h)]
    by_cases e : a < b
    · rw [if_pos e]
    · rw [if_neg e, show a = b by omega]
  · rw [if_neg (fun z => h ((nI_leI ha hb).mp z)), if_neg (by omega)]
/-- the longest: how long and where -/
def lgB (t : Nat → Nat) : Nat → Option (Nat × Nat)
  | 0 => none
  | k + 1 => match lgB t k with
    | none => if t k < 999 then some (t k, k) else none
    | some (m, r) => if t k < 999 ∧ m < t k then some (t k, k) else some (m, r)
def lgM (o : Option (Nat × Nat)) : Int32 := match o with
  | none => -1
  | some (m, _) => nI m
def lgR (o : Option (Nat × Nat)) : Int32 := match o with
  | none => -1
  | some (_, r) => nI r
theorem m1_lt {k : Nat} (h : k < 2 ^ 31) : (-1 : Int32) < nI k := by
  rw [Int32.lt_iff_toInt_lt, nI_toInt h]
  have : ((-1 : Int32)).toInt = -1 := by decide
  omega
theorem lt_m1 {k : Nat} (h : k < 2 ^ 31) : ¬ nI k < (-1 : Int32) := by
  rw [Int32.lt_iff_toInt_lt, nI_toInt h]
  have : ((-1 : Int32)).toInt = -1 := by decide
  omega
theorem m1_irr : ¬ (-1 : Int32) < -1 := by decide
theorem lgB_lt {t : Nat → Nat} : ∀ {n m r}, lgB t n = some (m, r) → m < 999 ∧ r < n ∧ t r = m := by
  intro n
  induction n with
  | zero => intro m r h; cases h
  | succ n ih =>
    intro m r h
    rw [lgB] at h
    cases e : lgB t n with
    | none =>
      rw [e] at h
      by_cases c : t n < 999
      · simp only [c, if_true] at h; cases h; exact ⟨c, by omega, rfl⟩
      · simp only [c, if_false] at h; cases h
    | some p =>
      obtain ⟨m1, r1⟩ := p
      rw [e] at h
      have := ih e
      by_cases c : t n < 999 ∧ m1 < t n
      · simp only [c, and_self, if_true] at h; cases h; exact ⟨c.1, by omega, rfl⟩
      · simp only [c, if_false] at h; cases h; exact ⟨this.1, by omega, this.2.2⟩
theorem r_longest {u : MU} {f : Nat → Nat → Nat} {M : Mem} (hp : RP u M) (hf : FR f M) (h9 : ∀ a b, a < 10 → b < 10 → f a b ≤ 999) (w : Int32) : P_12_longest_38 w (-1) (-1) M ∧ F_12_longest_38 w (-1) (-1) M = (if w = 0 then lgM (lgB (stT u f) (uN u)) else lgR (lgB (stT u f) (uN u)), M) := by
  rw [P_12_longest_38, F_12_longest_38]
  have hn := hp.1.1
  refine lq (S := Int32 × Int32) (F := fun n i q => F_12_longest_41 n w q.1 q.2 i M) (P := fun n i q => P_12_longest_41 n w q.1 q.2 i M) (Q := fun a => a = (if w = 0 then lgM (lgB (stT u f) (uN u)) else lgR (lgB (stT u f) (uN u)), M)) (uN u) (fun i q => q.1 = lgM (lgB (stT u f) i) ∧ q.2 = lgR (lgB (stT u f) i)) ?_ ?_ FU 0 (-1, -1) ⟨rfl, rfl⟩ (Nat.zero_le _) (FU_ge (by omega))
  · rintro n i ⟨q, r⟩ hi ⟨h1, h2⟩ ih
    try dsimp only at h1 h2 ih ⊢
    have q1 : ¬ nI (uN u) ≤ nI i := nI_ge hi (by omega)
    obtain ⟨x1, x2⟩ := r_stringTo hp hf h9 (r := i) (by omega)
    have hg := ih (lgM (lgB (stT u f) (i + 1)), lgR (lgB (stT u f) (i + 1))) ⟨rfl, rfl⟩
    rw [lgB] at hg
    rw [P_12_longest_41, F_12_longest_41, cl0, hp.2.1]
    simp only [q1, x1, x2, if_true, if_false, true_imp_iff, false_imp_iff, not_true_eq_false, not_false_eq_true, true_and, and_true, implies_true, reduceIte, P_12_longest_75, F_12_longest_75]
    cases e : lgB (stT u f) i with
    | none =>
      rw [e] at h1 h2 hg
      simp only [lgM, lgR] at h1 h2 hg
      rw [h1, h2]
      by_cases c : stT u f i < 999
      · have := m1_lt (k := stT u f i) (by omega)
        simpa [lgM, lgR, orN, c, this] using hg
      · simpa [lgM, lgR, orN, c, m1_irr] using hg
    | some p =>
      obtain ⟨m1, r1⟩ := p
      have b := lgB_lt e
      rw [e] at h1 h2 hg
      simp only [lgM, lgR] at h1 h2 hg
      rw [h1, h2]
      by_cases c : stT u f i < 999
      · have e2 : (nI m1 < nI (stT u f i)) ↔ m1 < stT u f i := nI_ltI (by omega) (by omega)
        by_cases c2 : m1 < stT u f i
        · simpa [lgM, lgR, orN, c, e2, c2] using hg
        · simpa [lgM, lgR, orN, c, e2, c2] using hg
      · simpa [lgM, lgR, orN, c, lt_m1 (k := m1) (by omega)] using hg
  · rintro n ⟨q, r⟩ ⟨h1, h2⟩
    try dsimp only at h1 h2 ⊢
    have q1 : nI (uN u) ≤ nI (uN u) := nI_le (Nat.le_refl _) (by omega)
    rw [P_12_longest_41, F_12_longest_41, cl0, hp.2.1]
    simp only [q1, if_true, if_false, true_imp_iff, false_imp_iff, not_true_eq_false, not_false_eq_true, true_and, and_true, implies_true, reduceIte]
    rw [h1, h2]
    by_cases c : w = 0 <;> simp [c]
/-- lost and caught -/
def lsT (u : MU) (f : Nat → Nat → Nat) (k : Nat) : Int32 := orD (fun r => if stT u f r < 999 then 0 else bi r) k
def cgT (u : MU) (f : Nat → Nat → Nat) (k : Nat) : Int32 := orD (fun r => if otT u f r < 999 then 0 else bi r) k
theorem orN_m1 {v : Nat} : orN v = -1 ↔ ¬ v < 999 := by
  unfold orN
  by_cases c : v < 999
  · rw [if_pos c]
    exact ⟨fun z => absurd z (nI_m1 (by omega)), fun z => absurd c z⟩
  · rw [if_neg c]
    exact ⟨fun _ => c, fun _ => rfl⟩
theorem r_lost {u : MU} {f : Nat → Nat → Nat} {M : Mem} (hp : RP u M) (hf : FR f M) (h9 : ∀ a b, a < 10 → b < 10 → f a b ≤ 999) (w : Int32) : P_12_lost_38 w 0 0 M ∧ F_12_lost_38 w 0 0 M = (if w = 0 then lsT u f (uN u) else if w = 1 then cgT u f (uN u) else lsT u f (uN u) &&& cgT u f (uN u), M) := by
  rw [P_12_lost_38, F_12_lost_38]
  have hn := hp.1.1
  refine lq (S := Int32 × Int32) (F := fun n i q => F_12_lost_41 n w q.1 q.2 i M) (P := fun n i q => P_12_lost_41 n w q.1 q.2 i M) (Q := fun a => a = (if w = 0 then lsT u f (uN u) else if w = 1 then cgT u f (uN u) else lsT u f (uN u) &&& cgT u f (uN u), M)) (uN u) (fun i q => q.1 = lsT u f i ∧ q.2 = cgT u f i) ?_ ?_ FU 0 (0, 0) ⟨rfl, rfl⟩ (Nat.zero_le _) (FU_ge (by omega))
  · rintro nn r ⟨qq, qr⟩ hr ⟨h1, h2⟩ ih
    try dsimp only at h1 h2 ih ⊢
    have q1 : ¬ nI (uN u) ≤ nI r := nI_ge hr (by omega)
    rw [P_12_lost_41, F_12_lost_41, cl0, hp.2.1]
    simp only [q1, if_true, if_false, true_imp_iff, false_imp_iff, not_true_eq_false, not_false_eq_true, true_and, and_true, implies_true, reduceIte]
    refine lq (S := Int32) (F := fun n i q => F_12_lost_60 (F_12_lost_41 nn) n w qq qr (nI r) q i M) (P := fun n i q => P_12_lost_60 (P_12_lost_41 nn) n w qq qr (nI r) q i M) (Q := fun a => a = (if w = 0 then lsT u f (uN u) else if w = 1 then cgT u f (uN u) else lsT u f (uN u) &&& cgT u f (uN u), M)) (uN u) (fun i q => q = nI (mnF (bt (uX u)) (fun e => f r e) i)) ?_ ?_ FU 0 999 rfl (Nat.zero_le _) (FU_ge (by omega))
    · intro m i x hi hI ih3
      try dsimp only at hI ih3 ⊢
      have q2 : ¬ nI (uN u) ≤ nI i := nI_ge hi (by omega)
      obtain ⟨x1, x2⟩ := r_isExit hp (r := i) (by omega)
      have v1 : vp_in (nI i) 10 := (vp_iff (by omega)).mpr (by omega)
      have v2 : vp_in (nI r) 10 := (vp_iff (by omega)).mpr (by omega)
      have hl := mnF_le (p := bt (uX u)) (g := fun e => f r e) i
      have h99 := h9 r i (by omega) (by omega)
      have hg := ih3 (nI (mnF (bt (uX u)) (fun e => f r e) (i + 1))) rfl
      rw [mnF] at hg
      rw [P_12_lost_60, F_12_lost_60, cl0, hp.2.1]
      simp only [q2, x1, x2, ib0, v1, v2, nI_clamp (n := i) (by omega), nI_clamp (n := r) (by omega), hf r i (by omega) (by omega), hI, if_true, if_false, true_imp_iff, false_imp_iff, not_true_eq_false, not_false_eq_true, true_and, and_true, implies_true, reduceIte, P_12_lost_100, F_12_lost_100, r_less (M := M) (a := mnF (bt (uX u)) (fun e => f r e) i) (b := f r i) (by omega) (by omega)]
      cases hb : bt (uX u) i <;> simpa [hb] using hg
    · intro m x hI
      try dsimp only at hI ⊢
      have q2 : nI (uN u) ≤ nI (uN u) := nI_le (Nat.le_refl _) (by omega)
      obtain ⟨x1, x2⟩ := r_stringTo hp hf h9 (r := r) (by omega)
      have hl := mnF_le (p := bt (uX u)) (g := fun e => f r e) (uN u)
      have e2 : (nI (mnF (bt (uX u)) (fun e => f r e) (uN u)) < 999) ↔ otT u f r < 999 := nI_ltI (b := 999) (by omega) (by omega)
      have hg := ih (lsT u f (r + 1), cgT u f (r + 1)) ⟨rfl, rfl⟩
      rw [lsT, cgT, orD, orD] at hg
      rw [P_12_lost_60, F_12_lost_60, cl0, hp.2.1]
      simp only [q2, x1, x2, hI, e2, orN_m1, h1, h2, bi_of, if_true, if_false, true_imp_iff, false_imp_iff, not_true_eq_false, not_false_eq_true, true_and, and_true, implies_true, reduceIte, P_12_lost_127, P_12_lost_146, F_12_lost_127, F_12_lost_146]
      by_cases c1 : stT u f r < 999 <;> by_cases c2 : otT u f r < 999 <;> simpa [c1, c2, lsT, cgT] using hg
  · rintro n ⟨q, r⟩ ⟨h1, h2⟩
    try dsimp only at h1 h2 ⊢
    have q1 : nI (uN u) ≤ nI (uN u) := nI_le (Nat.le_refl _) (by omega)
    rw [P_12_lost_41, F_12_lost_41, cl0, hp.2.1]
    simp only [q1, if_true, if_false, true_imp_iff, false_imp_iff, not_true_eq_false, not_false_eq_true, true_and, and_true, implies_true, reduceIte]
    rw [h1, h2]
    by_cases c : w = 0
    · simp [c]
    · by_cases c2 : w = 1 <;> simp [c, c2]
def wgT (f : Nat → Nat → Nat) (r k : Nat) : Int32 := orD (fun s => if f r s < 999 ∧ f s r < 999 then bi s else 0) k
theorem r_wingOf {u : MU} {f : Nat → Nat → Nat} {M : Mem} (hp : RP u M) (hf : FR f M) (h9 : ∀ a b, a < 10 → b < 10 → f a b ≤ 999) {r : Nat} (hr : r < 10) : P_12_wingOf_0 M (nI r) ∧ F_12_wingOf_0 M (nI r) = wgT f r (uN u) := by
  rw [P_12_wingOf_0, F_12_wingOf_0]
  have hn := hp.1.1
  refine lq (S := Int32) (F := fun n i q => F_12_wingOf_4 M n (nI r) q i) (P := fun n i q => P_12_wingOf_4 M n (nI r) q i) (Q := fun a => a = wgT f r (uN u)) (uN u) (fun i q => q = wgT f r i) ?_ ?_ FU 0 0 rfl (Nat.zero_le _) (FU_ge (by omega))
  · intro n i q hi hI ih
    try dsimp only at hI ih ⊢
    have q1 : ¬ nI (uN u) ≤ nI i := nI_ge hi (by omega)
    have v1 : vp_in (nI i) 10 := (vp_iff (by omega)).mpr (by omega)
    have v2 : vp_in (nI r) 10 := (vp_iff (by omega)).mpr hr
    have a1 := h9 i r (by omega) hr
    have a2 := h9 r i hr (by omega)
    have e1 : ((999 : Int32) ≤ nI (f r i)) ↔ ¬ f r i < 999 := ⟨fun z => by have := (nI_leI (a := 999) (by omega) (by omega)).mp z; omega, fun z => (nI_leI (a := 999) (by omega) (by omega)).mpr (by omega)⟩
    have e2 : ((999 : Int32) ≤ nI (f i r)) ↔ ¬ f i r < 999 := ⟨fun z => by have := (nI_leI (a := 999) (by omega) (by omega)).mp z; omega, fun z => (nI_leI (a := 999) (by omega) (by omega)).mpr (by omega)⟩
    have hg := ih (wgT f r (i + 1)) rfl
    rw [wgT, orD] at hg
    rw [P_12_wingOf_4, F_12_wingOf_4, cl0, hp.2.1]
    simp only [q1, v1, v2, nI_clamp (n := i) (by omega), nI_clamp (n := r) (by omega), hf i r (by omega) hr, hf r i hr (by omega), e1, e2, hI, bi_of, if_true, if_false, true_imp_iff, false_imp_iff, not_true_eq_false, not_false_eq_true, true_and, and_true, implies_true, reduceIte, P_12_wingOf_49, P_12_wingOf_50, F_12_wingOf_49, F_12_wingOf_50]
    by_cases c1 : f r i < 999 <;> by_cases c2 : f i r < 999 <;> simpa [c1, c2, wgT] using hg
  · intro n q hI
    try dsimp only at hI ⊢
    have q1 : nI (uN u) ≤ nI (uN u) := nI_le (Nat.le_refl _) (by omega)
    rw [P_12_wingOf_4, F_12_wingOf_4, cl0, hp.2.1]
    simp only [q1, if_true, if_false, true_imp_iff, false_imp_iff, not_true_eq_false, not_false_eq_true, true_and, and_true, implies_true, reduceIte]
    exact hI
/-- where two meet -/
def mtB (f : Nat → Nat → Nat) (a b : Nat) : Nat → Nat × Int32
  | 0 => (999, -1)
  | k + 1 => if (if f a k < f b k then f b k else f a k) < (mtB f a b k).1 then ((if f a k < f b k then f b k else f a k), nI k) else mtB f a b k
theorem mtB_le {f : Nat → Nat → Nat} {a b : Nat} : ∀ k, (mtB f a b k).1 ≤ 999 := by
  intro k
  induction k with
  | zero => exact Nat.le_refl _
  | succ k ih =>
    rw [mtB]
    by_cases c : (if f a k < f b k then f b k else f a k) < (mtB f a b k).1
    · rw [if_pos c]
      have : (if f a k < f b k then f b k else f a k) ≤ 999 := by omega
      exact this
    · rw [if_neg c]; exact ih
theorem r_meet {u : MU} {f : Nat → Nat → Nat} {M : Mem} (hp : RP u M) (hf : FR f M) (h9 : ∀ a b, a < 10 → b < 10 → f a b ≤ 999) (w : Int32) {a b : Nat} (ha : a < 10) (hb : b < 10) : P_12_meet_72 (nI a) (nI b) w 999 (-1) M ∧ F_12_meet_72 (nI a) (nI b) w 999 (-1) M = (if w = 0 then orN (mtB f a b (uN u)).1 else (mtB f a b (uN u)).2, M) := by
  rw [P_12_meet_72, F_12_meet_72]
  have hn := hp.1.1
  refine lq (S := Int32 × Int32) (F := fun n i q => F_12_meet_75 n (nI a) (nI b) w q.1 q.2 i M) (P := fun n i q => P_12_meet_75 n (nI a) (nI b) w q.1 q.2 i M) (Q := fun z => z = (if w = 0 then orN (mtB f a b (uN u)).1 else (mtB f a b (uN u)).2, M)) (uN u) (fun i q => q.1 = nI (mtB f a b i).1 ∧ q.2 = (mtB f a b i).2) ?_ ?_ FU 0 (999, -1) ⟨rfl, rfl⟩ (Nat.zero_le _) (FU_ge (by omega))
  · rintro n i ⟨q, r⟩ hi ⟨h1, h2⟩ ih
    try dsimp only at h1 h2 ih ⊢
    have q1 : ¬ nI (uN u) ≤ nI i := nI_ge hi (by omega)
    have v1 : vp_in (nI i) 10 := (vp_iff (by omega)).mpr (by omega)
    have v2 : vp_in (nI a) 10 := (vp_iff (by omega)).mpr ha
    have v3 : vp_in (nI b) 10 := (vp_iff (by omega)).mpr hb
    have a1 := h9 a i ha (by omega)
    have a2 := h9 b i hb (by omega)
    have hl := mtB_le (f := f) (a := a) (b := b) i
    have e2 : (nI (if f a i < f b i then f b i else f a i) < nI (mtB f a b i).1) ↔ (if f a i < f b i then f b i else f a i) < (mtB f a b i).1 := nI_ltI (by split <;> omega) (by omega)
    have hg := ih (nI (mtB f a b (i + 1)).1, (mtB f a b (i + 1)).2) ⟨rfl, rfl⟩
    rw [mtB] at hg
    rw [P_12_meet_75, F_12_meet_75, cl0, hp.2.1]
    simp only [q1, v1, v2, v3, nI_clamp (n := i) (by omega), nI_clamp (n := a) (by omega), nI_clamp (n := b) (by omega), hf a i ha (by omega), hf b i hb (by omega), r_more (M := M) (a := f a i) (b := f b i) (by omega) (by omega), h1, h2, e2, if_true, if_false, true_imp_iff, false_imp_iff, not_true_eq_false, not_false_eq_true, true_and, and_true, implies_true, reduceIte, P_12_meet_127, F_12_meet_127]
    by_cases c : (if f a i < f b i then f b i else f a i) < (mtB f a b i).1
    · rw [if_pos c] at hg
      simpa [c] using hg
    · rw [if_neg c] at hg
      simpa [c] using hg
  · rintro n ⟨q, r⟩ ⟨h1, h2⟩
    try dsimp only at h1 h2 ⊢
    have q1 : nI (uN u) ≤ nI (uN u) := nI_le (Nat.le_refl _) (by omega)
    have hl := mtB_le (f := f) (a := a) (b := b) (uN u)
    rw [P_12_meet_75, F_12_meet_75, cl0, hp.2.1]
    simp only [q1, if_true, if_false, true_imp_iff, false_imp_iff, not_true_eq_false, not_false_eq_true, true_and, and_true, implies_true, reduceIte]
    rw [h1, h2, r_orNone (by omega)]
    by_cases c : w = 0 <;> simp [c]
/-- the shortest way back -/
def lpT (u : MU) (s : SU) (f : Nat → Nat → Nat) (a k : Nat) : Nat := mnF (fun d => decide (uF u d = a) && !sB s d) (fun d => 1 + f (uG u d) a) k
theorem r_loop {u : MU} {s : SU} {f : Nat → Nat → Nat} {M : Mem} (hp : RP u M) (hr : RR u s (rd M 20)) (hf : FR f M) (h9 : ∀ a b, a < 10 → b < 10 → f a b ≤ 999) {a : Nat} (ha : a < 10) : P_12_loop_37 (nI a) 999 M ∧ F_12_loop_37 (nI a) 999 M = (orN (lpT u s f a (uM u)), M) := by
  rw [P_12_loop_37, F_12_loop_37]
  have hu := hp.1
  have hn := hu.1
  have hm := hu.2.1
  refine lq (S := Int32) (F := fun n i q => F_12_loop_39 n (nI a) q i M) (P := fun n i q => P_12_loop_39 n (nI a) q i M) (Q := fun z => z = (orN (lpT u s f a (uM u)), M)) (uM u) (fun i q => q = nI (lpT u s f a i)) ?_ ?_ FU 0 999 rfl (Nat.zero_le _) (FU_ge (by omega))
  · intro n i q hi hI ih
    try dsimp only at hI ih ⊢
    have q1 : ¬ nI (uM u) ≤ nI i := nI_ge hi (by omega)
    have w := hu.2.2.2.2.1 i hi
    obtain ⟨f1, f2, _, _⟩ := hp.2.2.2.2.2.1 i hi
    obtain ⟨b1, b2⟩ := r_isBarred hi hu hr
    have v1 : vp_in (nI i) 24 := (vp_iff (by omega)).mpr (by omega)
    have v2 : vp_in (nI a) 10 := (vp_iff (by omega)).mpr ha
    have v3 : vp_in (nI (uG u i)) 10 := (vp_iff (by omega)).mpr (by omega)
    have e1 : (nI (uF u i) = nI a) ↔ uF u i = a := nI_eq (by omega) (by omega)
    have a1 := h9 (uG u i) a (by omega) ha
    have hl : lpT u s f a i ≤ 999 := mnF_le i
    have p1 : (1 : Int32) + nI (f (uG u i) a) = nI (1 + f (uG u i) a) := nI_add 1 _
    have hg := ih (nI (lpT u s f a (i + 1))) rfl
    rw [lpT, mnF] at hg
    rw [P_12_loop_39, F_12_loop_39, cl0, cl1, hp.2.2.1]
    simp only [q1, v1, v2, v3, b1, b2, ib0, e1, nI_clamp (n := i) (by omega), nI_clamp (n := a) (by omega), nI_clamp (n := uG u i) (by omega), f1, f2, hf (uG u i) a (by omega) ha, hI, p1, if_true, if_false, true_imp_iff, false_imp_iff, not_true_eq_false, not_false_eq_true, true_and, and_true, implies_true, reduceIte, P_12_loop_97, P_12_loop_96, F_12_loop_97, F_12_loop_96, r_less (M := M) (a := lpT u s f a i) (b := 1 + f (uG u i) a) (by omega) (by omega)]
    by_cases c1 : uF u i = a
    · cases c2 : sB s i <;> (simp [c1, c2, lpT] at hg ⊢; exact hg)
    · simpa [c1, lpT] using hg
  · intro n q hI
    try dsimp only at hI ⊢
    have q1 : nI (uM u) ≤ nI (uM u) := nI_le (Nat.le_refl _) (by omega)
    have hl : lpT u s f a (uM u) ≤ 999 := mnF_le _
    rw [P_12_loop_39, F_12_loop_39, cl1, hp.2.2.1]
    simp only [q1, if_true, if_false, true_imp_iff, false_imp_iff, not_true_eq_false, not_false_eq_true, true_and, and_true, implies_true, reduceIte]
    rw [hI, r_orNone (by omega)]
/-- the first door of a shortest way -/
def nxP (u : MU) (s : SU) (f : Nat → Nat → Nat) (a b d : Nat) : Bool := !sB s d && decide (uF u d = a) && decide (f (uG u d) b + 1 = f a b)
theorem r_next {u : MU} {s : SU} {f : Nat → Nat → Nat} {M : Mem} (hp : RP u M) (hr : RR u s (rd M 20)) (hf : FR f M) (h9 : ∀ a b, a < 10 → b < 10 → f a b ≤ 999) {a b : Nat} (ha : a < 10) (hb : b < 10) (hex : ∃ d, d < uM u ∧ nxP u s f a b d = true) : P_12_next_64 FU (nI a) (nI b) 0 M ∧ F_12_next_64 FU (nI a) (nI b) 0 M = (orM (fst? (nxP u s f a b) (uM u) 0), M) := by
  have hu := hp.1
  have hn := hu.1
  have hm := hu.2.1
  refine lq (S := Unit) (F := fun n i q => F_12_next_64 n (nI a) (nI b) i M) (P := fun n i q => P_12_next_64 n (nI a) (nI b) i M) (Q := fun z => z = (orM (fst? (nxP u s f a b) (uM u) 0), M)) (uM u) (fun i _ => fst? (nxP u s f a b) (uM u) 0 = fst? (nxP u s f a b) (uM u - i) i) ?_ ?_ FU 0 () rfl (Nat.zero_le _) (FU_ge (by omega))
  · intro n i _ hi hI ih
    try dsimp only at hI ih ⊢
    have w := hu.2.2.2.2.1 i hi
    obtain ⟨f1, f2, _, _⟩ := hp.2.2.2.2.2.1 i hi
    obtain ⟨b1, b2⟩ := r_isBarred hi hu hr
    have v1 : vp_in (nI i) 24 := (vp_iff (by omega)).mpr (by omega)
    have v2 : vp_in (nI a) 10 := (vp_iff (by omega)).mpr ha
    have v4 : vp_in (nI b) 10 := (vp_iff (by omega)).mpr hb
    have v3 : vp_in (nI (uG u i)) 10 := (vp_iff (by omega)).mpr (by omega)
    have e1 : (nI (uF u i) = nI a) ↔ uF u i = a := nI_eq (by omega) (by omega)
    have a1 := h9 (uG u i) b (by omega) hb
    have a2 := h9 a b ha hb
    have e2 : (nI (f (uG u i) b) + 1 = nI (f a b)) ↔ f (uG u i) b + 1 = f a b := by rw [nI_1]; exact nI_eq (by omega) (by omega)
    have hg : nxP u s f a b i = false → _ := fun hx => ih () (by rw [hI, show uM u - i = (uM u - (i + 1)) + 1 by omega, fst_f hx])
    rw [P_12_next_64, F_12_next_64, cl0, cl1]
    simp only [v1, v2, v3, v4, b1, b2, ib0, e1, nI_clamp (n := i) (by omega), nI_clamp (n := a) (by omega), nI_clamp (n := b) (by omega), nI_clamp (n := uG u i) (by omega), f1, f2, hf (uG u i) b (by omega) hb, hf a b ha hb, e2, if_true, if_false, true_imp_iff, false_imp_iff, not_true_eq_false, not_false_eq_true, true_and, and_true, implies_true, reduceIte, P_12_next_115, F_12_next_115]
    by_cases c : nxP u s f a b i = true
    · have c' := c
      simp only [nxP, Bool.and_eq_true, Bool.not_eq_true', decide_eq_true_eq] at c'
      obtain ⟨⟨c1, c2⟩, c3⟩ := c'
      simp only [c1, c2, c3, if_true, if_false, true_imp_iff, false_imp_iff, not_true_eq_false, not_false_eq_true, true_and, and_true, implies_true, reduceIte]
      rw [hI, show uM u - i = (uM u - (i + 1)) + 1 by omega, fst_t c]
      simp [orM]
    · have c0 := Bool.eq_false_iff.mpr c
      have hg := hg c0
      cases c1 : sB s i
      · by_cases c2 : uF u i = a
        · by_cases c3 : f (uG u i) b + 1 = f a b
          · simp [nxP, c1, c2, c3] at c0
          · simpa [c1, c2, c3] using hg
        · simpa [c1, c2] using hg
      · simpa [c1] using hg
  · intro n _ hI
    try dsimp only at hI ⊢
    obtain ⟨d, h1, h2⟩ := hex
    rw [Nat.sub_self] at hI
    have := (fst_none (n := uM u) (i := 0)).mp hI d (by omega) (by omega)
    rw [h2] at this
    cases this
