/-! MATHEMATICS 28: texts: tokens, as such and in the reference -/
def nxE (P : Nat → Bool) (tb : Nat → Nat) (n i : Nat) : Nat := (fst? (fun j => !(decide (j < n) && P (tb j))) (n + 1 - i) i).getD i
theorem nxE_s {P : Nat → Bool} {tb : Nat → Nat} {n i : Nat} (h : i < n) (hp : P (tb i) = true) : nxE P tb n i = nxE P tb n (i + 1) := by
  unfold nxE
  rw [show n + 1 - i = (n + 1 - (i + 1)) + 1 by omega, fst_f (by simp [h, hp])]
  have hex : ∃ k, fst? (fun j => !(decide (j < n) && P (tb j))) (n + 1 - (i + 1)) (i + 1) = some k := by
    cases e : fst? (fun j => !(decide (j < n) && P (tb j))) (n + 1 - (i + 1)) (i + 1) with
    | none =>
      have := fst_none.mp e n (by omega) (by omega)
      simp at this
    | some k => exact ⟨k, rfl⟩
  obtain ⟨k, hk⟩ := hex
  rw [hk]; rfl
theorem nxE_e {P : Nat → Bool} {tb : Nat → Nat} {n i : Nat} (h : ¬ (i < n ∧ P (tb i) = true)) : nxE P tb n i = i := by
  unfold nxE
  by_cases c : i ≤ n
  · rw [show n + 1 - i = (n - i) + 1 by omega, fst_t]
    · rfl
    · cases e : P (tb i)
      · simp
      · have : ¬ i < n := fun z => h ⟨z, e⟩
        simp [this]
  · rw [show n + 1 - i = 0 by omega]; rfl
theorem nxE_b {P : Nat → Bool} {tb : Nat → Nat} {n : Nat} : ∀ (k i : Nat), i + k = n → i ≤ nxE P tb n i ∧ nxE P tb n i ≤ n ∧ ¬ (nxE P tb n i < n ∧ P (tb (nxE P tb n i)) = true) ∧ ∀ m, i ≤ m → m < nxE P tb n i → P (tb m) = true := by
  intro k
  induction k with
  | zero =>
    intro i h
    rw [nxE_e (by omega)]
    exact ⟨Nat.le_refl _, by omega, by omega, fun m h1 h2 => by omega⟩
  | succ k ih =>
    intro i h
    by_cases c : P (tb i) = true
    · rw [nxE_s (by omega) c]
      obtain ⟨h1, h2, h3, h4⟩ := ih (i + 1) (by omega)
      refine ⟨by omega, h2, h3, fun m hm1 hm2 => ?_⟩
      by_cases e : m = i
      · subst e; exact c
      · exact h4 m (by omega) hm2
    · rw [nxE_e (fun z => c z.2)]
      exact ⟨Nat.le_refl _, by omega, fun z => c z.2, fun m h1 h2 => by omega⟩
def blP (b : Nat) : Bool := decide (b = 32)
def dgP (b : Nat) : Bool := decide (48 ≤ b ∧ b ≤ 57)
def smP (b : Nat) : Bool := decide (97 ≤ b ∧ b ≤ 122)
def skT (tb : Nat → Nat) (n i : Nat) : Nat := nxE blP tb n i
def chT (tb : Nat → Nat) (n i : Nat) : Int32 := if i < n then nI (tb i) else -1
/-- a number's value from q on, k digits -/
def nvT (tb : Nat → Nat) (q : Nat) : Nat → Nat
  | 0 => 0
  | k + 1 => if 100000 < 10 * nvT tb q k + (tb (q + k) - 48) then 100000 else 10 * nvT tb q k + (tb (q + k) - 48)
theorem nvT_le {tb : Nat → Nat} {q : Nat} : ∀ k, nvT tb q k ≤ 100000 := by
  intro k
  cases k with
  | zero => exact Nat.zero_le _
  | succ k => rw [nvT]; split <;> omega
/-- a number's end and value -/
def neT (tb : Nat → Nat) (n q : Nat) : Nat := nxE dgP tb n q
def vlT (tb : Nat → Nat) (n q : Nat) : Nat := nvT tb q (neT tb n q - q)
abbrev TRs (α : Type) : Type := (Nat × Nat) ⊕ α
def tkN (tb : Nat → Nat) (n p lo hi : Nat) : TRs (Nat × Nat) :=
  if skT tb n p < n ∧ dgP (tb (skT tb n p)) = true then (if lo ≤ vlT tb n (skT tb n p) ∧ vlT tb n (skT tb n p) < hi then .inr (vlT tb n (skT tb n p), neT tb n (skT tb n p)) else .inl (2, skT tb n p)) else .inl (1, skT tb n p)
def tkS (c : Nat) (tb : Nat → Nat) (n p : Nat) : TRs Nat := if skT tb n p < n ∧ tb (skT tb n p) = c then .inr (skT tb n p + 1) else .inl (1, skT tb n p)
/-- words -/
def weT (tb : Nat → Nat) (n q : Nat) : Nat := nxE smP tb n q
def isW (w : List Nat) (tb : Nat → Nat) (n q : Nat) : Bool := decide (weT tb n q - q = w.length) && decide (∀ i, i < w.length → tb (q + i) = w.getD i 0)
def cdT (a : Nat → Nat) : Nat → Nat
  | 0 => 0
  | k + 1 => 27 * cdT a k + a k
theorem cdT_inj {a b : Nat → Nat} : ∀ (k m : Nat), (∀ i, i < k → 1 ≤ a i ∧ a i ≤ 26) → (∀ i, i < m → 1 ≤ b i ∧ b i ≤ 26) → cdT a k = cdT b m → k = m ∧ ∀ i, i < k → a i = b i := by
  intro k
  induction k with
  | zero =>
    intro m _ hb h
    cases m with
    | zero => exact ⟨rfl, fun i h => by omega⟩
    | succ m =>
      have := hb m (by omega)
      rw [cdT, cdT] at h
      omega
  | succ k ih =>
    intro m ha hb h
    cases m with
    | zero =>
      have := ha k (by omega)
      rw [cdT, cdT] at h
      omega
    | succ m =>
      have h1 := ha k (by omega)
      have h2 := hb m (by omega)
      rw [cdT, cdT] at h
      have e1 : a k = b m := by omega
      have e2 : cdT a k = cdT b m := by omega
      obtain ⟨g1, g2⟩ := ih m (fun i hi => ha i (by omega)) (fun i hi => hb i (by omega)) e2
      subst g1
      refine ⟨rfl, fun i hi => ?_⟩
      by_cases e : i = k
      · subst e; exact e1
      · exact g2 i (by omega)
theorem cdT_cg {a b : Nat → Nat} {k : Nat} (h : ∀ i, i < k → a i = b i) : cdT a k = cdT b k := by
  induction k with
  | zero => rfl
  | succ k ih => rw [cdT, cdT, ih (fun i hi => h i (by omega)), h k (by omega)]
theorem cdT_lt {a : Nat → Nat} : ∀ k, (∀ i, i < k → a i ≤ 26) → cdT a k < 27 ^ k := by
  intro k
  induction k with
  | zero => intro _; exact Nat.one_pos
  | succ k ih =>
    intro h
    have := ih (fun i hi => h i (by omega))
    have := h k (by omega)
    rw [cdT, Nat.pow_succ]
    omega
/-! the reference's view of a text -/
def Tx (tb : Nat → Nat) (n : Nat) (M : Mem) : Prop := n ≤ 600 ∧ rd M 0 2 = nI n ∧ ∀ i, i < n → rd M 1 i = nI (tb i) ∧ tb i < 256
def rT (c j : Nat) : Prop := c = 0 ∧ (j = 4 ∨ j = 5 ∨ j = 6)
theorem Tx.k {p : Nat → Nat → Prop} {tb : Nat → Nat} {n : Nat} {M M' : Mem} (h : Tx tb n M) (hk : Kp p M M') (hp : ∀ c j, p c j → c ≠ 1 ∧ ¬ (c = 0 ∧ j = 2)) : Tx tb n M' := by
  obtain ⟨h1, h2, h3⟩ := h
  refine ⟨h1, by rw [hk.g (fun z => (hp _ _ z).2 ⟨rfl, rfl⟩)]; exact h2, fun i hi => ?_⟩
  rw [hk.g (fun z => (hp _ _ z).1 rfl)]
  exact h3 i hi
theorem r_byte {tb : Nat → Nat} {n : Nat} {M : Mem} (h : Tx tb n M) {i : Nat} (hi : i < 2 ^ 31) : P_12_byteAt_0 M (nI i) ∧ F_12_byteAt_0 M (nI i) = chT tb n i := by
  obtain ⟨h1, h2, h3⟩ := h
  have e1 : (nI i < nI n) ↔ i < n := nI_ltI hi (by omega)
  rw [P_12_byteAt_0, F_12_byteAt_0, h2]
  simp only [e1]
  unfold chT
  by_cases c : i < n
  · rw [if_pos c, if_pos c, nI_clamp hi, (h3 i c).1]
    exact ⟨⟨fun _ => (vp_iff hi).mpr (by omega), fun _ => trivial⟩, rfl⟩
  · rw [if_neg c, if_neg c]
    exact ⟨⟨fun z => absurd z c, fun _ => trivial⟩, rfl⟩
theorem ch_eq {tb : Nat → Nat} {n i c : Nat} (hb : i < n → tb i < 256) (hc : c < 256) : (chT tb n i = nI c) ↔ (i < n ∧ tb i = c) := by
  unfold chT
  by_cases h : i < n
  · have := hb h
    rw [if_pos h, nI_eq (by omega) (by omega)]
    exact ⟨fun z => ⟨h, z⟩, fun z => z.2⟩
  · rw [if_neg h]
    exact ⟨fun z => absurd z (nI_m1' (by omega)), fun z => absurd z.1 h⟩
theorem ch_dg {tb : Nat → Nat} {n i : Nat} (hb : i < n → tb i < 256) {M : Mem} : F_12_isDigit_0 M (chT tb n i) = if i < n ∧ dgP (tb i) = true then 1 else 0 := by
  rw [F_12_isDigit_0, F_12_isDigit_16]
  unfold chT dgP
  by_cases h : i < n
  · have := hb h
    have e1 : (nI (tb i) < 48) ↔ tb i < 48 := nI_ltI (b := 48) (by omega) (by omega)
    have e2 : ((57 : Int32) < nI (tb i)) ↔ 57 < tb i := nI_ltI (a := 57) (by omega) (by omega)
    simp only [h, if_true, e1, e2, true_and, decide_eq_true_eq]
    by_cases c1 : tb i < 48
    · rw [if_pos c1, if_neg (by omega)]
    · by_cases c2 : 57 < tb i
      · rw [if_neg c1, if_pos c2, if_neg (by omega)]
      · rw [if_neg c1, if_neg c2, if_pos (by omega)]
  · simp only [h, if_false, false_and]
    rfl
theorem ch_sm {tb : Nat → Nat} {n i : Nat} (hb : i < n → tb i < 256) {M : Mem} : F_12_isSmall_0 M (chT tb n i) = if i < n ∧ smP (tb i) = true then 1 else 0 := by
  rw [F_12_isSmall_0, F_12_isSmall_16]
  unfold chT smP
  by_cases h : i < n
  · have := hb h
    have e1 : (nI (tb i) < 97) ↔ tb i < 97 := nI_ltI (b := 97) (by omega) (by omega)
    have e2 : ((122 : Int32) < nI (tb i)) ↔ 122 < tb i := nI_ltI (a := 122) (by omega) (by omega)
    simp only [h, if_true, e1, e2, true_and, decide_eq_true_eq]
    by_cases c1 : tb i < 97
    · rw [if_pos c1, if_neg (by omega)]
    · by_cases c2 : 122 < tb i
      · rw [if_neg c1, if_pos c2, if_neg (by omega)]
      · rw [if_neg c1, if_neg c2, if_pos (by omega)]
  · simp only [h, if_false, false_and]
    rfl
theorem if10 {c : Prop} [Decidable c] : ((if c then (1 : Int32) else 0) = 0) ↔ ¬ c := by
  by_cases h : c
  · simp [h, i10]
  · simp [h]
def r4 (c j : Nat) : Prop := c = 0 ∧ j = 4
theorem r_blanks {tb : Nat → Nat} {n : Nat} : ∀ (k p : Nat) (M : Mem), Tx tb n M → rd M 0 4 = nI p → p ≤ n → n - p < k → P_12_blanks_0 k M ∧ ∃ M', F_12_blanks_0 k M = M' ∧ rd M' 0 4 = nI (skT tb n p) ∧ Kp r4 M M' := by
  intro k
  induction k with
  | zero => intro p M _ _ _ h; omega
  | succ k ih =>
    intro p M ht hp hpn hk
    have h6 := ht.1
    obtain ⟨b1, b2⟩ := r_byte ht (i := p) (by omega)
    have e1 := ch_eq (tb := tb) (n := n) (i := p) (c := 32) (fun h => (ht.2.2 p h).2) (by omega)
    have e1' : (chT tb n p = 32) ↔ (p < n ∧ tb p = 32) := e1
    rw [P_12_blanks_0, F_12_blanks_0, hp, b2]
    simp only [b1, e1', if_true, if_false, true_imp_iff, false_imp_iff, not_true_eq_false, not_false_eq_true, true_and, and_true, implies_true, reduceIte]
    by_cases c : p < n ∧ tb p = 32
    · have hs : skT tb n p = skT tb n (p + 1) := nxE_s c.1 (by simp [blP, c.2])
      have hK : Kp r4 M (wr M 0 4 (nI p + 1)) := Kp.rf.w ⟨rfl, rfl⟩
      obtain ⟨g1, M', g2, g3, g4⟩ := ih (p + 1) (wr M 0 4 (nI p + 1)) (ht.k hK (fun c j z => by unfold r4 at z; omega)) (by rw [rd_s, nI_1]) (by omega) (by omega)
      simp only [c, and_self, if_true, if_false, true_imp_iff, false_imp_iff, not_true_eq_false, not_false_eq_true, true_and, and_true, implies_true, reduceIte]
      exact ⟨g1, M', g2, by rw [hs]; exact g3, hK.tr g4⟩
    · have hs : skT tb n p = p := nxE_e (by simp only [blP, decide_eq_true_eq]; exact c)
      simp only [c, if_true, if_false, true_imp_iff, false_imp_iff, not_true_eq_false, not_false_eq_true, true_and, and_true, implies_true, reduceIte]
      exact ⟨M, rfl, by rw [hs]; exact hp, Kp.rf⟩
theorem r_skipWord {tb : Nat → Nat} {n : Nat} : ∀ (k p : Nat) (M : Mem), Tx tb n M → rd M 0 4 = nI p → p ≤ n → n - p < k → P_12_skipWord_0 k M ∧ ∃ M', F_12_skipWord_0 k M = M' ∧ rd M' 0 4 = nI (weT tb n p) ∧ Kp r4 M M' := by
  intro k
  induction k with
  | zero => intro p M _ _ _ h; omega
  | succ k ih =>
    intro p M ht hp hpn hk
    have h6 := ht.1
    obtain ⟨b1, b2⟩ := r_byte ht (i := p) (by omega)
    have e1 := ch_sm (tb := tb) (n := n) (i := p) (M := M) (fun h => (ht.2.2 p h).2)
    rw [P_12_skipWord_0, F_12_skipWord_0, hp, b2, e1]
    simp only [b1, if10, if_true, if_false, true_imp_iff, false_imp_iff, not_true_eq_false, not_false_eq_true, true_and, and_true, implies_true, reduceIte]
    by_cases c : p < n ∧ smP (tb p) = true
    · have hs : weT tb n p = weT tb n (p + 1) := nxE_s c.1 c.2
      have hK : Kp r4 M (wr M 0 4 (nI p + 1)) := Kp.rf.w ⟨rfl, rfl⟩
      obtain ⟨g1, M', g2, g3, g4⟩ := ih (p + 1) (wr M 0 4 (nI p + 1)) (ht.k hK (fun c j z => by unfold r4 at z; omega)) (by rw [rd_s, nI_1]) (by omega) (by omega)
      simp only [c, and_self, not_true_eq_false, if_true, if_false, true_imp_iff, false_imp_iff, not_true_eq_false, not_false_eq_true, true_and, and_true, implies_true, reduceIte]
      exact ⟨g1, M', g2, by rw [hs]; exact g3, hK.tr g4⟩
    · have hs : weT tb n p = p := nxE_e c
      simp only [c, not_false_eq_true, if_true, if_false, true_imp_iff, false_imp_iff, not_true_eq_false, not_false_eq_true, true_and, and_true, implies_true, reduceIte]
      exact ⟨M, rfl, by rw [hs]; exact hp, Kp.rf⟩
/-- reading, no fault yet, at p -/
def RT (tb : Nat → Nat) (n p : Nat) (M : Mem) : Prop := Tx tb n M ∧ rd M 0 4 = nI p ∧ p ≤ n ∧ rd M 0 5 = 0
/-- a fault -/
def RE (e : Nat × Nat) (M : Mem) : Prop := rd M 0 5 = nI e.1 ∧ rd M 0 6 = nI e.2 ∧ 1 ≤ e.1 ∧ e.1 ≤ 3 ∧ e.2 ≤ 600
theorem RE.ne {e : Nat × Nat} {M : Mem} (h : RE e M) : ¬ rd M 0 5 = 0 := by
  rw [h.1]; exact nI_ne0 (by have := h.2.2.1; omega) (by have := h.2.2.2.1; omega)
theorem RT.k {p : Nat → Nat → Prop} {tb : Nat → Nat} {n q : Nat} {M M' : Mem} (h : RT tb n q M) (hk : Kp p M M') (hp : ∀ c j, p c j → c ≠ 1 ∧ ¬ (c = 0 ∧ (j = 2 ∨ j = 4 ∨ j = 5))) : RT tb n q M' := by
  refine ⟨h.1.k hk (fun c j z => ?_), ?_, h.2.2.1, ?_⟩
  · have := hp c j z; omega
  · rw [hk.g (fun z => (hp _ _ z).2 ⟨rfl, by omega⟩)]; exact h.2.1
  · rw [hk.g (fun z => (hp _ _ z).2 ⟨rfl, by omega⟩)]; exact h.2.2.2
theorem RE.k {p : Nat → Nat → Prop} {e : Nat × Nat} {M M' : Mem} (h : RE e M) (hk : Kp p M M') (hp : ∀ c j, p c j → ¬ (c = 0 ∧ (j = 5 ∨ j = 6))) : RE e M' := by
  refine ⟨?_, ?_, h.2.2⟩
  · rw [hk.g (fun z => hp _ _ z ⟨rfl, by omega⟩)]; exact h.1
  · rw [hk.g (fun z => hp _ _ z ⟨rfl, by omega⟩)]; exact h.2.1
theorem r_bl {tb : Nat → Nat} {n p : Nat} {M : Mem} (h : RT tb n p M) : P_12_blanks_0 FU M ∧ ∃ M', F_12_blanks_0 FU M = M' ∧ RT tb n (skT tb n p) M' ∧ Kp r4 M M' := by
  obtain ⟨g1, M', g2, g3, g4⟩ := r_blanks FU p M h.1 h.2.1 h.2.2.1 (by have := h.1.1; unfold FU; omega)
  refine ⟨g1, M', g2, ⟨h.1.k g4 (fun c j z => by unfold r4 at z; omega), g3, (nxE_b (n - p) p (by have := h.2.2.1; omega)).2.1, ?_⟩, g4⟩
  rw [g4.g (by unfold r4; omega)]; exact h.2.2.2
theorem r_sw {tb : Nat → Nat} {n p : Nat} {M : Mem} (h : RT tb n p M) : P_12_skipWord_0 FU M ∧ ∃ M', F_12_skipWord_0 FU M = M' ∧ RT tb n (weT tb n p) M' ∧ Kp r4 M M' := by
  obtain ⟨g1, M', g2, g3, g4⟩ := r_skipWord FU p M h.1 h.2.1 h.2.2.1 (by have := h.1.1; unfold FU; omega)
  refine ⟨g1, M', g2, ⟨h.1.k g4 (fun c j z => by unfold r4 at z; omega), g3, (nxE_b (n - p) p (by have := h.2.2.1; omega)).2.1, ?_⟩, g4⟩
  rw [g4.g (by unfold r4; omega)]; exact h.2.2.2
theorem r_wrong {M : Mem} {k q : Nat} (h : rd M 0 5 = 0) (h1 : 1 ≤ k) (h3 : k ≤ 3) (hq : q ≤ 600) : ∃ M', F_12_wrong_0 (nI k) (nI q) M = M' ∧ RE (k, q) M' ∧ Kp rT M M' := by
  rw [F_12_wrong_0, if_pos h]
  refine ⟨_, rfl, ⟨by rw [rd_i (by decide), rd_s], rd_s _ _ _ _, h1, h3, hq⟩, (Kp.rf.w ⟨rfl, by omega⟩).w ⟨rfl, by omega⟩⟩
theorem r_wrong4 {M : Mem} {x y : Int32} : rd (F_12_wrong_0 x y M) 0 4 = rd M 0 4 := by
  rw [F_12_wrong_0]
  split
  · rw [rd_i (by decide), rd_i (by decide)]
  · rfl
theorem r_wrongN {M : Mem} {x y : Int32} (h : ¬ rd M 0 5 = 0) : F_12_wrong_0 x y M = M := by rw [F_12_wrong_0, if_neg h]
def TxE (tb : Nat → Nat) (n : Nat) (M : Mem) : Prop := Tx tb n M ∧ ∃ p, p ≤ n ∧ rd M 0 4 = nI p
/-- what a token leaves -/
def RA (tb : Nat → Nat) (n : Nat) (o : TRs Nat) (M : Mem) : Prop := match o with
  | .inl e => RE e M ∧ TxE tb n M
  | .inr p => RT tb n p M
def fsT (o : TRs (Nat × Nat)) : TRs Nat := match o with
  | .inl e => .inl e
  | .inr q => .inr q.2
def vlO (o : TRs (Nat × Nat)) : Nat := match o with
  | .inl _ => 0
  | .inr q => q.1
theorem sk_b {tb : Nat → Nat} {n p : Nat} (hp : p ≤ n) : p ≤ skT tb n p ∧ skT tb n p ≤ n := ⟨(nxE_b (n - p) p (by omega)).1, (nxE_b (n - p) p (by omega)).2.1⟩
theorem sk_sk {tb : Nat → Nat} {n p : Nat} (hp : p ≤ n) : skT tb n (skT tb n p) = skT tb n p := nxE_e (nxE_b (n - p) p (by omega)).2.2.1
theorem r_sign {tb : Nat → Nat} {n p c : Nat} {M : Mem} (h : RT tb n p M) (hc : c < 256) : P_12_sign_0 (nI c) M ∧ ∃ M', F_12_sign_0 (nI c) M = M' ∧ RA tb n (tkS c tb n p) M' ∧ Kp rT M M' := by
  obtain ⟨g1, M1, g2, g3, g4⟩ := r_bl h
  have h6 := h.1.1
  have hb := sk_b (tb := tb) h.2.2.1
  obtain ⟨b1, b2⟩ := r_byte g3.1 (i := skT tb n p) (by omega)
  have e1 := ch_eq (tb := tb) (n := n) (i := skT tb n p) (c := c) (fun z => (g3.1.2.2 _ z).2) hc
  have k1 : Kp rT M M1 := g4.mono (fun c j z => by unfold r4 at z; unfold rT; omega)
  rw [P_12_sign_0, F_12_sign_0, g2]
  simp only [h.2.2.2, g1, if_true, if_false, true_imp_iff, false_imp_iff, not_true_eq_false, not_false_eq_true, true_and, and_true, implies_true, reduceIte, P_12_sign_12, F_12_sign_12, F_12_sign_46]
  rw [g3.2.1, b2]
  simp only [b1, e1, if_true, if_false, true_imp_iff, false_imp_iff, not_true_eq_false, not_false_eq_true, true_and, and_true, implies_true, reduceIte]
  unfold tkS
  by_cases cc : skT tb n p < n ∧ tb (skT tb n p) = c
  · rw [if_pos cc, if_pos cc]
    refine ⟨_, rfl, ⟨g3.1.k (Kp.rf.w (p := r4) ⟨rfl, rfl⟩) (fun c j z => by unfold r4 at z; omega), by rw [rd_s, nI_1], by omega, by rw [rd_i (by decide)]; exact g3.2.2.2⟩, k1.w ⟨rfl, by omega⟩⟩
  · rw [if_neg cc, if_neg cc]
    obtain ⟨M2, w1, w2, w3⟩ := r_wrong g3.2.2.2 (k := 1) (q := skT tb n p) (by omega) (by omega) (by omega)
    exact ⟨M2, w1, ⟨w2, g3.1.k w3 (fun c j z => by unfold rT at z; omega), skT tb n p, hb.2, by rw [← w1, r_wrong4]; exact g3.2.1⟩, k1.tr w3⟩
theorem r_takesSign {tb : Nat → Nat} {n p c : Nat} {M : Mem} (h : RT tb n p M) (hc : c < 256) : P_12_takesSign_0 (nI c) M ∧ ∃ M', F_12_takesSign_0 (nI c) M = ((if skT tb n p < n ∧ tb (skT tb n p) = c then 1 else 0), M') ∧ RT tb n (if skT tb n p < n ∧ tb (skT tb n p) = c then skT tb n p + 1 else skT tb n p) M' ∧ Kp r4 M M' := by
  obtain ⟨g1, M1, g2, g3, g4⟩ := r_bl h
  have h6 := h.1.1
  have hb := sk_b (tb := tb) h.2.2.1
  obtain ⟨b1, b2⟩ := r_byte g3.1 (i := skT tb n p) (by omega)
  have e1 := ch_eq (tb := tb) (n := n) (i := skT tb n p) (c := c) (fun z => (g3.1.2.2 _ z).2) hc
  rw [P_12_takesSign_0, F_12_takesSign_0, g2]
  simp only [h.2.2.2, g1, if_true, if_false, true_imp_iff, false_imp_iff, not_true_eq_false, not_false_eq_true, true_and, and_true, implies_true, reduceIte, P_12_takesSign_13, F_12_takesSign_13]
  rw [g3.2.1, b2]
  simp only [b1, e1, if_true, if_false, true_imp_iff, false_imp_iff, not_true_eq_false, not_false_eq_true, true_and, and_true, implies_true, reduceIte, P_12_takesSign_30, F_12_takesSign_30, i1_0]
  by_cases cc : skT tb n p < n ∧ tb (skT tb n p) = c
  · simp only [cc, and_self, if_true, if_false, true_imp_iff, false_imp_iff, not_true_eq_false, not_false_eq_true, true_and, and_true, implies_true, reduceIte]
    refine ⟨rfl, _, rfl, ⟨g3.1.k (Kp.rf.w (p := r4) ⟨rfl, rfl⟩) (fun c j z => by unfold r4 at z; omega), by rw [rd_s, g3.2.1, nI_1], by omega, by rw [rd_i (by decide)]; exact g3.2.2.2⟩, g4.w ⟨rfl, rfl⟩⟩
  · simp only [cc, if_true, if_false, true_imp_iff, false_imp_iff, not_true_eq_false, not_false_eq_true, true_and, and_true, implies_true, reduceIte]
    exact ⟨rfl, M1, rfl, g3, g4⟩
theorem r_number {tb : Nat → Nat} {n p lo hi : Nat} {M : Mem} {xl xh : Int32} (h : RT tb n p M) (hin : ∀ v, v ≤ 100000 → ((xl ≤ nI v ∧ nI v ≤ xh) ↔ (lo ≤ v ∧ v < hi))) : P_12_number_0 xl xh M ∧ ∃ M', F_12_number_0 xl xh M = (nI (vlO (tkN tb n p lo hi)), M') ∧ RA tb n (fsT (tkN tb n p lo hi)) M' ∧ Kp rT M M' := by
  obtain ⟨g1, M1, g2, g3, g4⟩ := r_bl h
  have h6 := h.1.1
  have hb := sk_b (tb := tb) h.2.2.1
  have k1 : Kp rT M M1 := g4.mono (fun c j z => by unfold r4 at z; unfold rT; omega)
  obtain ⟨b1, b2⟩ := r_byte g3.1 (i := skT tb n p) (by omega)
  have e1 := ch_dg (tb := tb) (n := n) (i := skT tb n p) (M := M1) (fun z => (g3.1.2.2 _ z).2)
  generalize hq : skT tb n p = q at *
  have loop : ∀ (k j : Nat) (M2 : Mem), Tx tb n M2 → rd M2 0 4 = nI (q + j) → q + j ≤ n → (∀ i, i < j → dgP (tb (q + i)) = true) → n - (q + j) < k → rd M2 0 5 = 0 → Kp rT M M2 → P_12_number_44 k xl xh (nI q) (nI (nvT tb q j)) M2 ∧ ∃ M', F_12_number_44 k xl xh (nI q) (nI (nvT tb q j)) M2 = (if lo ≤ vlT tb n q ∧ vlT tb n q < hi then nI (vlT tb n q) else 0, M') ∧ RA tb n (if lo ≤ vlT tb n q ∧ vlT tb n q < hi then .inr (neT tb n q) else .inl (2, q)) M' ∧ Kp rT M M' := by
    intro k
    induction k with
    | zero => intro j M2 _ _ _ _ h; omega
    | succ k ih =>
      intro j M2 ht h4 hjn hdg hk h5 hK
      obtain ⟨c1, c2⟩ := r_byte ht (i := q + j) (by omega)
      have e2 := ch_dg (tb := tb) (n := n) (i := q + j) (M := M2) (fun z => (ht.2.2 _ z).2)
      have hnv := nvT_le (tb := tb) (q := q) j
      rw [P_12_number_44, F_12_number_44, h4, c2, e2]
      simp only [c1, if10, if_true, if_false, true_imp_iff, false_imp_iff, not_true_eq_false, not_false_eq_true, true_and, and_true, implies_true, reduceIte]
      by_cases cc : q + j < n ∧ dgP (tb (q + j)) = true
      · have hdd : 48 ≤ tb (q + j) ∧ tb (q + j) ≤ 57 := by have := cc.2; simp only [dgP, decide_eq_true_eq] at this; exact this
        have ech : chT tb n (q + j) = nI (tb (q + j)) := if_pos cc.1
        have ev : (10 : Int32) * nI (nvT tb q j) + nI (tb (q + j)) - 48 = nI (10 * nvT tb q j + (tb (q + j) - 48)) := by
          rw [show (10 : Int32) = nI 10 from rfl, pk_mul, nI_add, show (48 : Int32) = nI 48 from rfl, pk_sub (by omega)]
          congr 1
          omega
        have e3 : (nI (10 * nvT tb q j + (tb (q + j) - 48)) ≤ 100000) ↔ ¬ 100000 < 10 * nvT tb q j + (tb (q + j) - 48) := by
          rw [show (100000 : Int32) = nI 100000 from rfl, nI_leI (by omega) (by omega)]; omega
        have hK2 : Kp rT M (wr M2 0 4 (nI (q + j) + 1)) := hK.w ⟨rfl, by omega⟩
        obtain ⟨i1, M3, i2, i3, i4⟩ := ih (j + 1) (wr M2 0 4 (nI (q + j) + 1)) (ht.k (Kp.rf.w (p := r4) ⟨rfl, rfl⟩) (fun c j z => by unfold r4 at z; omega)) (by rw [rd_s, nI_1]; rfl) (by omega) (fun i hi => by
          by_cases e : i = j
          · subst e; exact cc.2
          · exact hdg i (by omega)) (by omega) (by rw [rd_i (by decide)]; exact h5) hK2
        rw [nvT] at i1 i2
        simp only [cc, and_self, not_true_eq_false, ech, ev, e3, if_true, if_false, true_imp_iff, false_imp_iff, not_true_eq_false, not_false_eq_true, true_and, and_true, implies_true, reduceIte, P_12_number_91, F_12_number_91]
        rw [h4]
        by_cases c9 : 100000 < 10 * nvT tb q j + (tb (q + j) - 48)
        · rw [if_pos c9] at i1 i2
          simp only [c9, not_true_eq_false, if_true, if_false, true_imp_iff, false_imp_iff, not_true_eq_false, not_false_eq_true, true_and, and_true, implies_true, reduceIte]
          exact ⟨i1, M3, i2, i3, i4⟩
        · rw [if_neg c9] at i1 i2
          simp only [c9, not_false_eq_true, if_true, if_false, true_imp_iff, false_imp_iff, not_true_eq_false, not_false_eq_true, true_and, and_true, implies_true, reduceIte]
          exact ⟨i1, M3, i2, i3, i4⟩
      · have hne : neT tb n q = q + j := by
          have : ∀ i, i ≤ j → nxE dgP tb n (q + (j - i)) = q + j := by
            intro i
            induction i with
            | zero => intro _; rw [Nat.sub_zero]; exact nxE_e cc
            | succ i ih2 =>
              intro hi
              rw [nxE_s (by omega) (hdg (j - (i + 1)) (by omega)), show q + (j - (i + 1)) + 1 = q + (j - i) by omega]
              exact ih2 (by omega)
          have := this j (Nat.le_refl _)
          rw [Nat.sub_self, Nat.add_zero] at this
          exact this
        have hvl : vlT tb n q = nvT tb q j := by unfold vlT; rw [hne, Nat.add_sub_cancel_left]
        rw [hvl, hne, r_in]
        simp only [cc, not_false_eq_true, hin _ hnv, if_true, if_false, true_imp_iff, false_imp_iff, not_true_eq_false, not_false_eq_true, true_and, and_true, implies_true, reduceIte]
        by_cases cr : lo ≤ nvT tb q j ∧ nvT tb q j < hi
        · simp only [cr, and_self, i1_0, F_12_number_122, h5, if_true, if_false, true_imp_iff, false_imp_iff, not_true_eq_false, not_false_eq_true, true_and, and_true, implies_true, reduceIte]
          exact ⟨M2, rfl, ⟨ht, h4, hjn, h5⟩, hK⟩
        · simp only [cr, if_true, if_false, true_imp_iff, false_imp_iff, not_true_eq_false, not_false_eq_true, true_and, and_true, implies_true, reduceIte, F_12_number_122]
          obtain ⟨M3, w1, w2, w3⟩ := r_wrong h5 (k := 2) (q := q) (by omega) (by omega) (by omega)
          have w1' : F_12_wrong_0 2 (nI q) M2 = M3 := w1
          rw [w1']
          rw [if_neg w2.ne]
          exact ⟨M3, rfl, ⟨w2, ht.k w3 (fun c j z => by unfold rT at z; omega), q + j, hjn, by rw [← w1', r_wrong4]; exact h4⟩, hK.tr w3⟩
  have efs : fsT (tkN tb n p lo hi) = if q < n ∧ dgP (tb q) = true then (if lo ≤ vlT tb n q ∧ vlT tb n q < hi then .inr (neT tb n q) else .inl (2, q)) else .inl (1, q) := by
    unfold tkN
    rw [hq]
    by_cases c1 : q < n ∧ dgP (tb q) = true
    · rw [if_pos c1, if_pos c1]
      by_cases c2 : lo ≤ vlT tb n q ∧ vlT tb n q < hi
      · rw [if_pos c2, if_pos c2]; rfl
      · rw [if_neg c2, if_neg c2]; rfl
    · rw [if_neg c1, if_neg c1]; rfl
  have evl : nI (vlO (tkN tb n p lo hi)) = if q < n ∧ dgP (tb q) = true then (if lo ≤ vlT tb n q ∧ vlT tb n q < hi then nI (vlT tb n q) else 0) else 0 := by
    unfold tkN
    rw [hq]
    by_cases c1 : q < n ∧ dgP (tb q) = true
    · rw [if_pos c1, if_pos c1]
      by_cases c2 : lo ≤ vlT tb n q ∧ vlT tb n q < hi
      · rw [if_pos c2, if_pos c2]; rfl
      · rw [if_neg c2, if_neg c2]; rfl
    · rw [if_neg c1, if_neg c1]; rfl
  rw [P_12_number_0, F_12_number_0, g2, efs, evl]
  simp only [h.2.2.2, g1, if_true, if_false, true_imp_iff, false_imp_iff, not_true_eq_false, not_false_eq_true, true_and, and_true, implies_true, reduceIte, P_12_number_13, F_12_number_13]
  rw [g3.2.1, b2, e1]
  simp only [b1, if10, if_true, if_false, true_imp_iff, false_imp_iff, not_true_eq_false, not_false_eq_true, true_and, and_true, implies_true, reduceIte]
  by_cases c1 : q < n ∧ dgP (tb q) = true
  · simp only [c1, and_self, not_true_eq_false, if_true, if_false, true_imp_iff, false_imp_iff, not_true_eq_false, not_false_eq_true, true_and, and_true, implies_true, reduceIte]
    exact loop FU 0 M1 g3.1 g3.2.1 hb.2 (fun i h => by omega) (by unfold FU; omega) g3.2.2.2 k1
  · simp only [c1, not_false_eq_true, if_true, if_false, true_imp_iff, false_imp_iff, not_true_eq_false, not_false_eq_true, true_and, and_true, implies_true, reduceIte]
    obtain ⟨M2, w1, w2, w3⟩ := r_wrong g3.2.2.2 (k := 1) (q := q) (by omega) (by omega) (by omega)
    have w1' : F_12_wrong_0 1 (nI q) M1 = M2 := w1
    have ht2 : Tx tb n M2 := g3.1.k w3 (fun c j z => by unfold rT at z; omega)
    have h42 : rd M2 0 4 = nI q := by
      rw [← w1', F_12_wrong_0, if_pos g3.2.2.2, rd_i (by decide), rd_i (by decide)]; exact g3.2.1
    have hFU : FU = 6999 + 1 := rfl
    obtain ⟨c3, c4⟩ := r_byte ht2 (i := q) (by omega)
    have e2 := ch_dg (tb := tb) (n := n) (i := q) (M := M2) (fun z => (ht2.2.2 _ z).2)
    rw [w1', hFU, P_12_number_44, F_12_number_44, h42, c4, e2]
    simp only [c3, if10, c1, not_false_eq_true, if_true, if_false, true_imp_iff, false_imp_iff, not_true_eq_false, not_false_eq_true, true_and, and_true, implies_true, reduceIte, F_12_number_122, r_wrongN w2.ne, if_neg w2.ne]
    refine ⟨M2, ?_, ⟨w2, ht2, q, hb.2, h42⟩, k1.tr w3⟩
    split <;> rfl
