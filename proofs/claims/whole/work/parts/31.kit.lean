/-! MATHEMATICS 1: bits, words, memory, loops -/
def bt (x : Int32) (i : Nat) : Bool := x.toBitVec.getLsbD i
theorem b_ext {x y : Int32} (h : ∀ i, i < 32 → bt x i = bt y i) : x = y := Int32.toBitVec_inj.mp (BitVec.eq_of_getLsbD_eq (fun i hi => h i hi))
theorem b_or (x y : Int32) (i : Nat) : bt (x ||| y) i = (bt x i || bt y i) := by unfold bt; rw [Int32.toBitVec_or, BitVec.getLsbD_or]
theorem b_and (x y : Int32) (i : Nat) : bt (x &&& y) i = (bt x i && bt y i) := by unfold bt; rw [Int32.toBitVec_and, BitVec.getLsbD_and]
theorem b_xor (x y : Int32) (i : Nat) : bt (x ^^^ y) i = (bt x i ^^ bt y i) := by unfold bt; rw [Int32.toBitVec_xor, BitVec.getLsbD_xor]
theorem b_big {x : Int32} {i : Nat} (h : 32 ≤ i) : bt x i = false := BitVec.getLsbD_of_ge _ _ h
theorem b_m1 : ∀ i, i < 32 → bt (-1) i = true := by decide +kernel
theorem b_0 (i : Nat) : bt 0 i = false := BitVec.getLsbD_zero
theorem b_1 (i : Nat) : bt 1 i = decide (i = 0) := by
  rcases Nat.lt_or_ge i 32 with h | h
  · exact (by decide +kernel : ∀ i, i < 32 → bt 1 i = decide (i = 0)) i h
  · rw [b_big h, decide_eq_false (by omega)]
theorem s_l : ∀ n, n < 32 → ((nI n &&& 31).toBitVec.smod 32).toNat = n := by decide +kernel
theorem b_shl (n : Nat) (hn : n < 32) (x : Int32) {i : Nat} (hi : i < 32) : bt (x <<< (nI n &&& 31)) i = (decide (n ≤ i) && bt x (i - n)) := by
  unfold bt
  rw [Int32.toBitVec_shiftLeft]
  show (x.toBitVec <<< ((nI n &&& 31).toBitVec.smod 32).toNat).getLsbD i = _
  rw [s_l n hn, BitVec.getLsbD_shiftLeft]
  rcases Nat.lt_or_ge i n with h | h
  · simp [h, Nat.not_le.mpr h]
  · simp [hi, h, Nat.not_lt.mpr h]
theorem b_sshr (n : Nat) (hn : n < 32) (x : Int32) {i : Nat} (hi : i < 32) : bt (x >>> (nI n &&& 31)) i = if n + i < 32 then bt x (n + i) else bt x 31 := by
  unfold bt
  rw [Int32.toBitVec_shiftRight]
  show (x.toBitVec.sshiftRight ((nI n &&& 31).toBitVec.smod 32).toNat).getLsbD i = _
  rw [s_l n hn, BitVec.getLsbD_sshiftRight, BitVec.msb_eq_getLsbD_last]
  simp [hi]
/-- the set of one -/
def bi (n : Nat) : Int32 := (1 : Int32) <<< (nI n &&& 31)
theorem bi_of (n : Nat) : (1 : Int32) <<< (nI n &&& 31) = bi n := rfl
theorem b_bi {n : Nat} (hn : n < 32) (i : Nat) : bt (bi n) i = decide (i = n) := by
  rcases Nat.lt_or_ge i 32 with h | h
  · rw [bi, b_shl n hn _ h, b_1]
    rcases Nat.lt_or_ge i n with q | q
    · rw [decide_eq_false (by omega : ¬ n ≤ i), Bool.false_and, decide_eq_false (by omega)]
    · rw [decide_eq_true q, Bool.true_and]
      exact decide_eq_decide.mpr (by omega)
  · rw [b_big h, decide_eq_false (by omega)]
theorem b_not {x : Int32} {i : Nat} (h : i < 32) : bt (x ^^^ (-1)) i = !bt x i := by rw [b_xor, b_m1 i h, Bool.xor_true]
theorem b_sh1 {x : Int32} {i : Nat} (hi : i < 32) (j : Nat) : bt ((x >>> (nI i &&& 31)) &&& 1) j = (decide (j = 0) && bt x i) := by
  rw [b_and, b_1]
  by_cases h : j = 0
  · subst h
    rw [b_sshr i hi x (by omega), if_pos (by omega), Nat.add_zero, decide_eq_true rfl, Bool.and_true, Bool.true_and]
  · rw [decide_eq_false h, Bool.and_false, Bool.false_and]
theorem b_sh {x : Int32} {i : Nat} (hi : i < 32) : (x >>> (nI i &&& 31)) &&& 1 = if bt x i = true then 1 else 0 := by
  apply b_ext
  intro j _
  rw [b_sh1 hi]
  by_cases h : bt x i = true
  · rw [if_pos h, h, b_1, Bool.and_true]
  · rw [if_neg h, b_0, Bool.eq_false_iff.mpr h, Bool.and_false]
theorem i10 : ¬ (1 : Int32) = 0 := by decide
theorem i01 : ¬ (0 : Int32) = 1 := by decide
theorem b_z {x : Int32} {i : Nat} (hi : i < 32) : ((x >>> (nI i &&& 31)) &&& 1 = 0) ↔ bt x i = false := by
  rw [b_sh hi]
  cases bt x i <;> simp [i10]
theorem b_o {x : Int32} {i : Nat} (hi : i < 32) : ((x >>> (nI i &&& 31)) &&& 1 = 1) ↔ bt x i = true := by
  rw [b_sh hi]
  cases bt x i <;> simp [i01]
theorem b_ne0 {x : Int32} : ¬ x = 0 ↔ ∃ i, i < 32 ∧ bt x i = true := by
  constructor
  · intro h
    apply Classical.byContradiction
    intro hn
    apply h
    apply b_ext
    intro i hi
    rw [b_0]
    apply Bool.eq_false_iff.mpr
    intro h2
    exact hn ⟨i, hi, h2⟩
  · intro ⟨i, _, h⟩ e
    rw [e, b_0] at h
    cases h
theorem b_0iff {x : Int32} : x = 0 ↔ ∀ i, i < 32 → bt x i = false := by
  constructor
  · intro h i _
    rw [h, b_0]
  · intro h
    exact b_ext (fun i hi => by rw [h i hi, b_0])
theorem b_tb (x : Int32) (i : Nat) : bt x i = x.toBitVec.toNat.testBit i := rfl
/-- sets below k are numbers below 2^k -/
theorem b_num {x : Int32} {k : Nat} (hk : k ≤ 30) (h : ∀ i, k ≤ i → i < 32 → bt x i = false) : ∃ n, n < 2 ^ k ∧ x = nI n := by
  refine ⟨x.toBitVec.toNat, ?_, ?_⟩
  · apply Nat.lt_pow_two_of_testBit
    intro i hi
    rw [← b_tb]
    rcases Nat.lt_or_ge i 32 with q | q
    · exact h i hi q
    · exact b_big q
  · apply Int32.toBitVec_inj.mp
    show _ = BitVec.ofNat 32 _
    simp
theorem b_nI {n : Nat} (hn : n < 2 ^ 32) (i : Nat) : bt (nI n) i = n.testBit i := by
  rw [b_tb]
  show (BitVec.ofNat 32 n).toNat.testBit i = _
  rw [BitVec.toNat_ofNat, Nat.mod_eq_of_lt hn]
theorem b_numb {n k : Nat} (hn : n < 2 ^ k) {i : Nat} (h : k ≤ i) : n.testBit i = false := Nat.testBit_lt_two_pow (Nat.lt_of_lt_of_le hn (Nat.pow_le_pow_right (by decide) h))
/-- all below n -/
theorem b_all : ∀ n, n < 31 → ∀ i, i < 32 → bt (bi n - 1) i = decide (i < n) := by decide +kernel
theorem bi_num : ∀ n, n < 31 → bi n = nI (2 ^ n) := by decide +kernel
theorem all_num : ∀ n, n < 31 → bi n - 1 = nI (2 ^ n - 1) := by decide +kernel
/-- the lowest alone; all but the lowest -/
theorem b_neg {x : Int32} (i : Nat) : bt (-x) i = (bt x i ^^ (decide (i < 32) && decide (∃ j, j < i ∧ bt x j = true))) := by
  unfold bt
  rw [Int32.toBitVec_neg, BitVec.getLsbD_neg]
theorem b_low {x : Int32} {i : Nat} : bt (x &&& -x) i = true ↔ bt x i = true ∧ ∀ j, j < i → bt x j = false := by
  rw [b_and, b_neg]
  rcases Nat.lt_or_ge i 32 with h | h
  · rw [decide_eq_true h, Bool.true_and]
    by_cases hx : bt x i = true
    · rw [hx]
      by_cases he : ∃ j, j < i ∧ bt x j = true
      · rw [decide_eq_true he]
        simp only [Bool.xor_true, Bool.not_true, Bool.and_false, Bool.false_eq_true, false_iff, not_and]
        intro _ hn
        obtain ⟨j, hj, hb⟩ := he
        rw [hn j hj] at hb
        cases hb
      · rw [decide_eq_false he]
        simp only [Bool.xor_false, Bool.and_true, true_iff]
        refine ⟨trivial, fun j hj => ?_⟩
        apply Bool.eq_false_iff.mpr
        intro hb
        exact he ⟨j, hj, hb⟩
    · have := Bool.eq_false_iff.mpr hx
      rw [this]
      simp
  · rw [b_big h]
    simp
theorem b_sub1 {x : Int32} {i : Nat} (h : i < 32) : bt (x - 1) i = !(bt x i ^^ decide (∃ j, j < i ∧ bt x j = true)) := by
  have e : x - 1 = (-x) ^^^ (-1) := by
    apply Int32.toBitVec_inj.mp
    rw [Int32.toBitVec_sub, Int32.toBitVec_xor, Int32.toBitVec_neg]
    show x.toBitVec - 1#32 = -x.toBitVec ^^^ BitVec.allOnes 32
    rw [BitVec.xor_allOnes, BitVec.not_neg]
  rw [e, b_not h, b_neg, decide_eq_true h, Bool.true_and]
theorem b_rest {x : Int32} {i : Nat} : bt (x &&& (x - 1)) i = true ↔ bt x i = true ∧ ∃ j, j < i ∧ bt x j = true := by
  rw [b_and]
  rcases Nat.lt_or_ge i 32 with h | h
  · rw [b_sub1 h]
    by_cases hx : bt x i = true
    · rw [hx]
      by_cases he : ∃ j, j < i ∧ bt x j = true
      · rw [decide_eq_true he]
        simp [he]
      · rw [decide_eq_false he]
        simp [he]
    · have := Bool.eq_false_iff.mpr hx
      rw [this]
      simp
  · rw [b_big h]
    simp
/-- the least of those that a set has -/
theorem b_least {x : Int32} (h : ¬ x = 0) : ∃ i, i < 32 ∧ bt x i = true ∧ ∀ j, j < i → bt x j = false := by
  obtain ⟨i, hi, hb⟩ := b_ne0.mp h
  have : ∀ n, ∀ i, i < n → i < 32 → bt x i = true → ∃ i, i < 32 ∧ bt x i = true ∧ ∀ j, j < i → bt x j = false := by
    intro n
    induction n with
    | zero => intro i h; omega
    | succ n ih =>
      intro i h1 h2 h3
      by_cases he : ∃ j, j < i ∧ bt x j = true
      · obtain ⟨j, hj, hb⟩ := he
        exact ih j (by omega) (by omega) hb
      · refine ⟨i, h2, h3, fun j hj => ?_⟩
        apply Bool.eq_false_iff.mpr
        intro hb
        exact he ⟨j, hj, hb⟩
  exact this 32 i hi hi hb
theorem b_lowis {x : Int32} {i : Nat} (hi : i < 32) (h : bt x i = true) (hl : ∀ j, j < i → bt x j = false) : x &&& -x = bi i := by
  apply b_ext
  intro j _
  rw [b_bi hi]
  by_cases e : j = i
  · subst e
    rw [b_low.mpr ⟨h, hl⟩, decide_eq_true rfl]
  · rw [decide_eq_false e]
    apply Bool.eq_false_iff.mpr
    intro hb
    have h2 := b_low.mp hb
    rcases Nat.lt_or_gt_of_ne e with q | q
    · rw [hl j q] at h2
      cases h2.1
    · have := h2.2 i q
      rw [h] at this
      cases this
/-! words -/
theorem l_le {k i : Nat} (hk : k < 2 ^ 31) (hi : i < 2 ^ 31) : ((@OfNat.ofNat Int32 k _) ≤ nI i) ↔ @OfNat.ofNat Nat k _ ≤ i := nI_leI hk hi
theorem l_ge {k i : Nat} (hk : k < 2 ^ 31) (hi : i < 2 ^ 31) : (nI i ≤ (@OfNat.ofNat Int32 k _)) ↔ i ≤ @OfNat.ofNat Nat k _ := nI_leI hi hk
theorem l_lt {k i : Nat} (hk : k < 2 ^ 31) (hi : i < 2 ^ 31) : ((@OfNat.ofNat Int32 k _) < nI i) ↔ @OfNat.ofNat Nat k _ < i := nI_ltI hk hi
theorem l_gt {k i : Nat} (hk : k < 2 ^ 31) (hi : i < 2 ^ 31) : (nI i < (@OfNat.ofNat Int32 k _)) ↔ i < @OfNat.ofNat Nat k _ := nI_ltI hi hk
theorem l_eq {k i : Nat} (hk : k < 2 ^ 31) (hi : i < 2 ^ 31) : (nI i = (@OfNat.ofNat Int32 k _)) ↔ i = @OfNat.ofNat Nat k _ := nI_eq hi hk
theorem l_cl (k : Nat) (hk : k < 2 ^ 31) : (@OfNat.ofNat Int32 k _).toNatClampNeg = @OfNat.ofNat Nat k _ := nI_clamp hk
theorem l_add (k i : Nat) : (@OfNat.ofNat Int32 k _) + nI i = nI (@OfNat.ofNat Nat k _ + i) := nI_add k i
theorem l_adr (k i : Nat) : nI i + (@OfNat.ofNat Int32 k _) = nI (i + @OfNat.ofNat Nat k _) := nI_add i k
theorem l_sub {k i : Nat} (h : k ≤ i) : nI i - (@OfNat.ofNat Int32 k _) = nI (i - @OfNat.ofNat Nat k _) := pk_sub h
theorem l_mul (k i : Nat) : (@OfNat.ofNat Int32 k _) * nI i = nI (@OfNat.ofNat Nat k _ * i) := pk_mul k i
theorem l_rem {a k : Nat} (ha : a < 2 ^ 31) (h0 : 0 < k) (hk : k < 2 ^ 31) : nI a - nI a / (@OfNat.ofNat Int32 k _) * (@OfNat.ofNat Int32 k _) = nI (a % @OfNat.ofNat Nat k _) := pk_rem ha h0 hk
theorem l_div {a k : Nat} (ha : a < 2 ^ 31) (h0 : 0 < k) (hk : k < 2 ^ 31) : nI a / (@OfNat.ofNat Int32 k _) = nI (a / @OfNat.ofNat Nat k _) := pk_div ha h0 hk
theorem l_nI (k : Nat) : (@OfNat.ofNat Int32 k _) = nI (@OfNat.ofNat Nat k _) := rfl
theorem vp_iff {i n : Nat} (hi : i < 2 ^ 31) : vp_in (nI i) n ↔ i < n := by
  unfold vp_in
  rw [nI_clamp hi]
  have := nI_pos hi
  constructor
  · intro h
    apply Classical.byContradiction
    intro h2
    exact h (Or.inr (by omega))
  · intro h q
    rcases q with q | q
    · exact this q
    · omega
theorem nI_m1 {i : Nat} (h : i < 2 ^ 31) : ¬ nI i = -1 := by
  intro e
  have h1 := nI_toInt h
  rw [e] at h1
  have : ((-1 : Int32)).toInt = -1 := by decide
  omega
theorem nI_m1' {i : Nat} (h : i < 2 ^ 31) : ¬ -1 = nI i := fun e => nI_m1 h e.symm
theorem z_le {i : Nat} (h : i < 2 ^ 31) : (nI i ≤ 0) ↔ i = 0 := by
  have := nI_leI (a := i) (b := 0) h (by decide)
  rw [show (0 : Int32) = nI 0 from rfl, this]
  omega
/-! memory -/
theorem rd_wr (M : Mem) (c i : Nat) (v : Int32) (a j : Nat) : rd (wr M c i v) a j = if a = c ∧ j = i then v else rd M a j := rfl
theorem rd_s (M : Mem) (c i : Nat) (v : Int32) : rd (wr M c i v) c i = v := by rw [rd_wr, if_pos ⟨rfl, rfl⟩]
theorem rd_c {M : Mem} {c i : Nat} {v : Int32} {a j : Nat} (h : a ≠ c) : rd (wr M c i v) a j = rd M a j := by rw [rd_wr, if_neg (fun q => h q.1)]
theorem rd_i {M : Mem} {c i : Nat} {v : Int32} {a j : Nat} (h : j ≠ i) : rd (wr M c i v) a j = rd M a j := by rw [rd_wr, if_neg (fun q => h q.2)]
theorem rl_wr (M : Mem) (c i : Nat) (v : Int32) (a j : Nat) : rl (wr M c i v) a j = rl M a j := rfl
theorem rd_wl (M : Mem) (c i : Nat) (v : Int64) (a j : Nat) : rd (wl M c i v) a j = rd M a j := rfl
theorem rl_wl (M : Mem) (c i : Nat) (v : Int64) (a j : Nat) : rl (wl M c i v) a j = if a = c ∧ j = i then v else rl M a j := rfl
/-- M' is M but for what p names -/
def Kp (p : Nat → Nat → Prop) (M M' : Mem) : Prop := ∀ c j, ¬ p c j → rd M' c j = rd M c j ∧ rl M' c j = rl M c j
theorem Kp.rf {p : Nat → Nat → Prop} {M : Mem} : Kp p M M := fun _ _ _ => ⟨rfl, rfl⟩
theorem Kp.tr {p : Nat → Nat → Prop} {M M1 M2 : Mem} (h1 : Kp p M M1) (h2 : Kp p M1 M2) : Kp p M M2 := fun c j h => ⟨(h2 c j h).1.trans (h1 c j h).1, (h2 c j h).2.trans (h1 c j h).2⟩
theorem Kp.mono {p q : Nat → Nat → Prop} {M M1 : Mem} (h : Kp p M M1) (hpq : ∀ c j, p c j → q c j) : Kp q M M1 := fun c j hn => h c j (fun z => hn (hpq c j z))
theorem Kp.w {p : Nat → Nat → Prop} {M M1 : Mem} (h : Kp p M M1) {c i : Nat} {v : Int32} (hp : p c i) : Kp p M (wr M1 c i v) := fun a j hn => by
  refine ⟨?_, (h a j hn).2⟩
  rw [rd_wr, if_neg, (h a j hn).1]
  rintro ⟨rfl, rfl⟩
  exact hn hp
theorem Kp.wl {p : Nat → Nat → Prop} {M M1 : Mem} (h : Kp p M M1) {c i : Nat} {v : Int64} (hp : p c i) : Kp p M (wl M1 c i v) := fun a j hn => by
  refine ⟨(h a j hn).1, ?_⟩
  rw [rl_wl, if_neg, (h a j hn).2]
  rintro ⟨rfl, rfl⟩
  exact hn hp
theorem Kp.g {p : Nat → Nat → Prop} {M M1 : Mem} (h : Kp p M M1) {c j : Nat} (hn : ¬ p c j) : rd M1 c j = rd M c j := (h c j hn).1
/-! loops -/
theorem lp {S R : Type} {F : Nat → Int32 → S → R} {P : Nat → Int32 → S → Prop} {Q : R → Prop} (hi : Nat) (I : Nat → S → Prop) (step : ∀ n i s, i ≤ hi → I i s → (∀ s', i < hi → I (i + 1) s' → P n (nI (i + 1)) s' ∧ Q (F n (nI (i + 1)) s')) → P (n + 1) (nI i) s ∧ Q (F (n + 1) (nI i) s)) : ∀ (n i : Nat) (s : S), I i s → i ≤ hi → hi - i < n → P n (nI i) s ∧ Q (F n (nI i) s) := by
  intro n
  induction n with
  | zero => intro i s _ _ h; omega
  | succ n ih =>
    intro i s hI h1 h2
    exact step n i s h1 hI (fun s' h3 h4 => ih (i + 1) s' h4 (by omega) (by omega))
theorem lm {S R : Type} {F : Nat → S → R} {P : Nat → S → Prop} {Q : R → Prop} (I : S → Prop) (μ : S → Nat) (step : ∀ n s, I s → (∀ s', I s' → μ s' < μ s → P n s' ∧ Q (F n s')) → P (n + 1) s ∧ Q (F (n + 1) s)) : ∀ (n : Nat) (s : S), I s → μ s < n → P n s ∧ Q (F n s) := by
  intro n
  induction n with
  | zero => intro s _ h; omega
  | succ n ih =>
    intro s hI h2
    exact step n s hI (fun s' h3 h4 => ih s' h3 (by omega))
theorem FU_ge {k : Nat} (h : k < 7000) : k < FU := h
/-- how many below k -/
def cnt (p : Nat → Bool) : Nat → Nat
  | 0 => 0
  | k + 1 => cnt p k + (if p k = true then 1 else 0)
theorem cnt_le (p : Nat → Bool) (k : Nat) : cnt p k ≤ k := by
  induction k with
  | zero => exact Nat.le_refl _
  | succ k ih => simp only [cnt]; split <;> omega
theorem cnt_cg {p q : Nat → Bool} {k : Nat} (h : ∀ i, i < k → p i = q i) : cnt p k = cnt q k := by
  induction k with
  | zero => rfl
  | succ k ih => simp only [cnt]; rw [ih (fun i hi => h i (by omega)), h k (by omega)]
