/-! MATHEMATICS 7: the reference's askings by hours -/
def rO (c _ : Nat) : Prop := c = 15 ∨ c = 16
def RV (u : MU) (s : SU) (L : List Int32) (M : Mem) : Prop := RP u M ∧ RR u s (rd M 20) ∧ RL L M
theorem RV.k {p : Nat → Nat → Prop} {u : MU} {s : SU} {L : List Int32} {M M' : Mem} (h : RV u s L M) (hk : Kp p M M') (hp : ∀ c j, p c j → c ≠ 4 ∧ ¬ (54 ≤ c ∧ c < 78) ∧ c ≠ 6 ∧ c ≠ 8 ∧ c ≠ 20 ∧ ¬ (c = 0 ∧ j = 21) ∧ ¬ (78 ≤ c ∧ c < 238)) : RV u s L M' := by
  refine ⟨h.1.k hk (fun c j z => ?_), ?_, h.2.2.k hk (fun c j z => ?_)⟩
  · have := hp c j z; exact ⟨this.1, this.2.1, this.2.2.1, this.2.2.2.1⟩
  · rw [hk.row (c := 20) (fun j z => (hp _ _ z).2.2.2.2.1 rfl)]; exact h.2.1
  · have := hp c j z; exact ⟨this.2.2.2.2.2.1, this.2.2.2.2.2.2⟩
theorem RV.o {u : MU} {s : SU} {L : List Int32} {M M' : Mem} (h : RV u s L M) (hk : Kp rO M M') : RV u s L M' := h.k hk (fun c j z => by unfold rO at z; omega)
theorem r_open {u : MU} {s : SU} {L : List Int32} {d h : Nat} {M : Mem} (hv : RV u s L M) (hd : d < uM u) (hh : h < 4000) : P_12_isOpenIn_0 (nI d) (nI h) M ∧ ∃ M', F_12_isOpenIn_0 (nI d) (nI h) M = (if opn u s L d h = true then 1 else 0, M') ∧ Kp rO M M' := r_isOpenIn hd hh hv.1 hv.2.1 hv.2.2
theorem add0 (x : Int32) : x + 0 = x := Int32.add_zero x
theorem nI_b (k : Nat) (b : Bool) : nI k + (if b = true then 1 else 0) = nI (k + if b = true then 1 else 0) := by cases b <;> simp [nI_1, add0]
def uEn (u : MU) (e d : Nat) : Nat := if e = 0 then uF u d else uG u d
def dOf (u : MU) (s : SU) (L : List Int32) (e r h : Nat) : Nat := cnt (fun d => decide (uEn u e d = r) && opn u s L d h) (uM u)
theorem r_doorsOf {u : MU} {s : SU} {L : List Int32} {M : Mem} (hv : RV u s L M) {r e h : Nat} (hr : r < uN u) (he : e < 2) (hh : h < 4000) : P_12_doorsOf_0 (nI r) (nI e) (nI h) M ∧ ∃ M', F_12_doorsOf_0 (nI r) (nI e) (nI h) M = (nI (dOf u s L e r h), M') ∧ Kp rO M M' := by
  rw [P_12_doorsOf_0, F_12_doorsOf_0]
  have hu := hv.1.1
  have hn := hu.1
  have hm := hu.2.1
  refine lp (S := Int32 × Mem) (F := fun n i q => F_12_doorsOf_6 n (nI r) (nI e) (nI h) q.1 i q.2) (P := fun n i q => P_12_doorsOf_6 n (nI r) (nI e) (nI h) q.1 i q.2) (Q := fun a => ∃ M', a = (nI (dOf u s L e r h), M') ∧ Kp rO M M') (uM u) (fun i q => q.1 = nI (cnt (fun d => decide (uEn u e d = r) && opn u s L d h) i) ∧ Kp rO M q.2) ?_ FU 0 (0, M) ⟨rfl, Kp.rf⟩ (Nat.zero_le _) (FU_ge (by omega))
  rintro n i ⟨acc, M1⟩ hi ⟨hI, hk⟩ ih
  dsimp only at hI hk ih ⊢
  have hv1 := hv.o hk
  rw [P_12_doorsOf_6, F_12_doorsOf_6, cl1, hv1.1.2.2.1]
  by_cases hc : i < uM u
  · have q : ¬ nI (uM u) ≤ nI i := nI_ge hc (by omega)
    obtain ⟨f1, f2, _, _⟩ := hv1.1.2.2.2.2.2.1 i hc
    have w := hu.2.2.2.2.1 i hc
    have v1 : vp_in (nI i) 24 := (vp_iff (by omega)).mpr (by omega)
    have v2 : vp_in (nI e) 4 := (vp_iff (by omega)).mpr (by omega)
    have f3 : rd M1 (54 + i) e = nI (uEn u e i) := by
      unfold uEn
      have : e = 0 ∨ e = 1 := by omega
      rcases this with rfl | rfl
      · simpa using f1
      · simpa using f2
    have wb : uEn u e i < uN u := by unfold uEn; split <;> omega
    have hq : (nI (uEn u e i) = nI r) ↔ uEn u e i = r := nI_eq (by omega) (by omega)
    obtain ⟨o1, M2, o2, o3⟩ := r_open (h := h) hv1 hc hh
    simp only [q, v1, v2, nI_clamp (n := i) (by omega), nI_clamp (n := e) (by omega), f3, hq, o1, o2, if_true, if_false, true_imp_iff, false_imp_iff, not_true_eq_false, not_false_eq_true, true_and, and_true, implies_true, reduceIte, P_12_doorsOf_43, P_12_doorsOf_50, P_12_doorsOf_51, F_12_doorsOf_43, F_12_doorsOf_50, F_12_doorsOf_51, ib0]
    by_cases c1 : uEn u e i = r
    · have hg := ih (acc + (if opn u s L i h = true then 1 else 0), M2) hc ⟨by rw [hI, nI_b]; simp [cnt, c1], hk.tr o3⟩
      rw [← nI_1] at hg
      cases hb : opn u s L i h <;> simpa [c1, hb] using hg
    · have hg := ih (acc + 0, M1) hc ⟨by rw [hI, add0]; simp [cnt, c1], hk⟩
      rw [← nI_1] at hg
      simpa [c1] using hg
  · have e : i = uM u := by omega
    subst e
    have q : nI (uM u) ≤ nI (uM u) := nI_le (Nat.le_refl _) (by omega)
    simp only [q, if_true, if_false, true_imp_iff, false_imp_iff, not_true_eq_false, not_false_eq_true, true_and, and_true, implies_true, reduceIte]
    exact ⟨M1, by rw [hI]; rfl, hk⟩
def opC (u : MU) (s : SU) (L : List Int32) (h : Nat) : Nat := cnt (fun d => opn u s L d h) (uM u)
theorem r_told4 {u : MU} {s : SU} {L : List Int32} {M : Mem} (hv : RV u s L M) : P_12_told_103 FU 0 0 M ∧ ∃ M', F_12_told_103 FU 0 0 M = (nI (opC u s L (sH s)), M') ∧ Kp rO M M' := by
  have hu := hv.1.1
  have hm := hu.2.1
  have hH := hv.2.1.1.1
  refine lp (S := Int32 × Mem) (F := fun n i q => F_12_told_103 n q.1 i q.2) (P := fun n i q => P_12_told_103 n q.1 i q.2) (Q := fun a => ∃ M', a = (nI (opC u s L (sH s)), M') ∧ Kp rO M M') (uM u) (fun i q => q.1 = nI (cnt (fun d => opn u s L d (sH s)) i) ∧ Kp rO M q.2) ?_ FU 0 (0, M) ⟨rfl, Kp.rf⟩ (Nat.zero_le _) (FU_ge (by omega))
  rintro n i ⟨acc, M1⟩ hi ⟨hI, hk⟩ ih
  dsimp only at hI hk ih ⊢
  have hv1 := hv.o hk
  rw [P_12_told_103, F_12_told_103, cl1, cl55, hv1.1.2.2.1, hv1.2.1.2.2.2.2.2]
  by_cases hc : i < uM u
  · have q : ¬ nI (uM u) ≤ nI i := nI_ge hc (by omega)
    obtain ⟨o1, M2, o2, o3⟩ := r_open (h := sH s) hv1 hc (by omega)
    simp only [q, o1, o2, if_true, if_false, true_imp_iff, false_imp_iff, not_true_eq_false, not_false_eq_true, true_and, and_true, implies_true, reduceIte, P_12_told_130, P_12_told_138, F_12_told_130, F_12_told_138, ib0]
    have hg := ih (acc + (if opn u s L i (sH s) = true then 1 else 0), M2) hc ⟨by rw [hI, nI_b]; simp [cnt], hk.tr o3⟩
    rw [← nI_1] at hg
    cases hb : opn u s L i (sH s) <;> simpa [hb] using hg
  · have e : i = uM u := by omega
    subst e
    have q : nI (uM u) ≤ nI (uM u) := nI_le (Nat.le_refl _) (by omega)
    simp only [q, if_true, if_false, true_imp_iff, false_imp_iff, not_true_eq_false, not_false_eq_true, true_and, and_true, implies_true, reduceIte]
    exact ⟨M1, by rw [hI]; rfl, hk⟩
/-- with an hour more -/
def hrf (u : MU) (s : SU) (L : List Int32) (h : Nat) (x : Int32) (d : Nat) : Int32 := if bt x (uF u d) = true ∧ opn u s L d h = true then bi (uG u d) else 0
def hrS (u : MU) (s : SU) (L : List Int32) (h : Nat) (x : Int32) : Int32 := x ||| orD (hrf u s L h x) (uM u)
theorem or_as (x y z : Int32) : x ||| y ||| z = x ||| (y ||| z) := b_ext (fun i _ => by rw [b_or, b_or, b_or, b_or, Bool.or_assoc])
theorem r_behindIn {u : MU} {s : SU} {L : List Int32} {M : Mem} (hv : RV u s L M) (x : Int32) {h : Nat} (hh : h < 4000) : P_12_behindIn_0 x (nI h) M ∧ ∃ M', F_12_behindIn_0 x (nI h) M = (hrS u s L h x, M') ∧ Kp rO M M' := by
  rw [P_12_behindIn_0, F_12_behindIn_0]
  have hu := hv.1.1
  have hn := hu.1
  have hm := hu.2.1
  refine lp (S := Int32 × Mem) (F := fun n i q => F_12_behindIn_5 n x (nI h) q.1 i q.2) (P := fun n i q => P_12_behindIn_5 n x (nI h) q.1 i q.2) (Q := fun a => ∃ M', a = (hrS u s L h x, M') ∧ Kp rO M M') (uM u) (fun i q => q.1 = x ||| orD (hrf u s L h x) i ∧ Kp rO M q.2) ?_ FU 0 (x, M) ⟨(or_0 x).symm, Kp.rf⟩ (Nat.zero_le _) (FU_ge (by omega))
  rintro n i ⟨acc, M1⟩ hi ⟨hI, hk⟩ ih
  dsimp only at hI hk ih ⊢
  have hv1 := hv.o hk
  rw [P_12_behindIn_5, F_12_behindIn_5, cl1, hv1.1.2.2.1]
  by_cases hc : i < uM u
  · have q : ¬ nI (uM u) ≤ nI i := nI_ge hc (by omega)
    obtain ⟨f1, _, _, _⟩ := hv1.1.2.2.2.2.2.1 i hc
    have w := hu.2.2.2.2.1 i hc
    have v1 : vp_in (nI i) 24 := (vp_iff (by omega)).mpr (by omega)
    obtain ⟨o1, M2, o2, o3⟩ := r_open (h := h) hv1 hc hh
    obtain ⟨_, f2, _, _⟩ := (hv1.o o3).1.2.2.2.2.2.1 i hc
    have hh := r_has M1 x (i := uF u i) (by omega)
    simp only [q, v1, nI_clamp (n := i) (by omega), cl0, cl1, f1, f2, hh, o1, o2, if_true, if_false, true_imp_iff, false_imp_iff, not_true_eq_false, not_false_eq_true, true_and, and_true, implies_true, reduceIte, P_12_behindIn_44, P_12_behindIn_61, P_12_behindIn_62, F_12_behindIn_44, F_12_behindIn_61, F_12_behindIn_62, ib0, bi_of]
    by_cases c1 : bt x (uF u i) = true
    · have hg := ih (acc ||| hrf u s L h x i, M2) hc ⟨by rw [hI, orD, or_as], hk.tr o3⟩
      rw [← nI_1] at hg
      unfold hrf at hg
      cases hb : opn u s L i h <;> simpa [c1, hb, or_0] using hg
    · have c1' := Bool.eq_false_iff.mpr c1
      have hg := ih (acc ||| hrf u s L h x i, M1) hc ⟨by rw [hI, orD, or_as], hk⟩
      rw [← nI_1] at hg
      unfold hrf at hg
      simpa [c1', or_0] using hg
  · have e : i = uM u := by omega
    subst e
    have q : nI (uM u) ≤ nI (uM u) := nI_le (Nat.le_refl _) (by omega)
    simp only [q, if_true, if_false, true_imp_iff, false_imp_iff, not_true_eq_false, not_false_eq_true, true_and, and_true, implies_true, reduceIte]
    exact ⟨M1, by rw [hI]; rfl, hk⟩
/-- after k hours -/
def hrK (u : MU) (s : SU) (L : List Int32) (x : Int32) : Nat → Int32
  | 0 => x
  | k + 1 => hrS u s L (sH s + k) (hrK u s L x k)
/-- the first below n with a property, from i on -/
def fst? (p : Nat → Bool) : Nat → Nat → Option Nat
  | 0, _ => none
  | n + 1, i => if p i = true then some i else fst? p n (i + 1)
def orM (o : Option Nat) : Int32 := match o with
  | none => -1
  | some k => nI k
def sonK (u : MU) (s : SU) (L : List Int32) (x y : Int32) : Option Nat := fst? (fun k => !decide (hrK u s L x k &&& y = 0)) 97 0
theorem fst_t {p : Nat → Bool} {n i : Nat} (h : p i = true) : fst? p (n + 1) i = some i := by rw [fst?, if_pos h]
theorem fst_f {p : Nat → Bool} {n i : Nat} (h : p i = false) : fst? p (n + 1) i = fst? p n (i + 1) := by rw [fst?, if_neg (by rw [h]; decide)]
theorem r_soonTo {u : MU} {s : SU} {L : List Int32} {M : Mem} (hv : RV u s L M) {r : Nat} (y : Int32) : P_12_soonTo_0 (nI r) y M ∧ ∃ M', F_12_soonTo_0 (nI r) y M = (orM (sonK u s L (bi r) y), M') ∧ Kp rO M M' := by
  rw [P_12_soonTo_0, F_12_soonTo_0, bi_of]
  have hH := hv.2.1.1.1
  refine lp (S := Int32 × Mem) (F := fun n i q => F_12_soonTo_7 n y q.1 i q.2) (P := fun n i q => P_12_soonTo_7 n y q.1 i q.2) (Q := fun a => ∃ M', a = (orM (sonK u s L (bi r) y), M') ∧ Kp rO M M') 97 (fun i q => q.1 = hrK u s L (bi r) i ∧ sonK u s L (bi r) y = fst? (fun k => !decide (hrK u s L (bi r) k &&& y = 0)) (97 - i) i ∧ Kp rO M q.2) ?_ FU 0 (bi r, M) ⟨rfl, rfl, Kp.rf⟩ (Nat.zero_le _) (FU_ge (by omega))
  rintro n i ⟨x, M1⟩ hi ⟨hI, hf, hk⟩ ih
  dsimp only at hI hf hk ih ⊢
  have hv1 := hv.o hk
  rw [P_12_soonTo_7, F_12_soonTo_7, cl55, hv1.2.1.2.2.2.2.2, nI_add]
  have cc : ((96 : Int32) < nI i) ↔ 96 < i := nI_ltI (a := 96) (by omega) (by omega)
  by_cases hc : i < 97
  · have q : ¬ (96 : Int32) < nI i := fun z => by have := cc.mp z; omega
    obtain ⟨o1, M2, o2, o3⟩ := r_behindIn hv1 x (h := sH s + i) (by omega)
    simp only [q, o1, o2, if_true, if_false, true_imp_iff, false_imp_iff, not_true_eq_false, not_false_eq_true, true_and, and_true, implies_true, reduceIte, P_12_soonTo_38, F_12_soonTo_38]
    by_cases c1 : x &&& y = 0
    · have hg := ih (hrS u s L (sH s + i) x, M2) hc ⟨by rw [hI, hrK], by rw [hf, show 97 - i = (97 - (i + 1)) + 1 by omega, fst_f (by simp [← hI, c1])], hk.tr o3⟩
      rw [← nI_1] at hg
      simpa [c1] using hg
    · simp only [c1, if_true, if_false, true_imp_iff, false_imp_iff, not_true_eq_false, not_false_eq_true, true_and, and_true, implies_true, reduceIte]
      exact ⟨M1, by rw [hf, show 97 - i = (97 - (i + 1)) + 1 by omega, fst_t (by simp [← hI, c1])]; rfl, hk⟩
  · have e : i = 97 := by omega
    subst e
    have q : (96 : Int32) < nI 97 := by decide
    simp only [q, if_true, if_false, true_imp_iff, false_imp_iff, not_true_eq_false, not_false_eq_true, true_and, and_true, implies_true, reduceIte]
    exact ⟨M1, by rw [hf]; rfl, hk⟩
theorem r_within {u : MU} {s : SU} {L : List Int32} {M : Mem} (hv : RV u s L M) {m : Nat} (hm : m ≤ 96) (x : Int32) : P_12_within_60 FU (nI m) x 0 M ∧ ∃ M', F_12_within_60 FU (nI m) x 0 M = (hrK u s L x m, M') ∧ Kp rO M M' := by
  have hH := hv.2.1.1.1
  refine lp (S := Int32 × Mem) (F := fun n i q => F_12_within_60 n (nI m) q.1 i q.2) (P := fun n i q => P_12_within_60 n (nI m) q.1 i q.2) (Q := fun a => ∃ M', a = (hrK u s L x m, M') ∧ Kp rO M M') m (fun i q => q.1 = hrK u s L x i ∧ Kp rO M q.2) ?_ FU 0 (x, M) ⟨rfl, Kp.rf⟩ (Nat.zero_le _) (FU_ge (by omega))
  rintro n i ⟨x1, M1⟩ hi ⟨hI, hk⟩ ih
  dsimp only at hI hk ih ⊢
  have hv1 := hv.o hk
  rw [P_12_within_60, F_12_within_60, cl55, hv1.2.1.2.2.2.2.2, nI_add]
  by_cases hc : i < m
  · have q : ¬ nI m ≤ nI i := nI_ge hc (by omega)
    obtain ⟨o1, M2, o2, o3⟩ := r_behindIn hv1 x1 (h := sH s + i) (by omega)
    have hg := ih (hrS u s L (sH s + i) x1, M2) hc ⟨by rw [hI, hrK], hk.tr o3⟩
    rw [← nI_1] at hg
    simp only [q, o1, o2, if_true, if_false, true_imp_iff, false_imp_iff, not_true_eq_false, not_false_eq_true, true_and, and_true, implies_true, reduceIte, P_12_within_81, F_12_within_81]
    exact hg
  · have e : i = m := by omega
    subst e
    have q : nI i ≤ nI i := nI_le (Nat.le_refl _) (by omega)
    simp only [q, if_true, if_false, true_imp_iff, false_imp_iff, not_true_eq_false, not_false_eq_true, true_and, and_true, implies_true, reduceIte]
    exact ⟨M1, by rw [hI], hk⟩
def sumD (f : Nat → Int32) : Nat → Int32
  | 0 => 0
  | k + 1 => sumD f k + f k
theorem r_sumOf {u : MU} {M : Mem} (hp : RP u M) {b : Nat} (hb : b ≤ 30) : P_12_sumOf_0 M (nI b) ∧ F_12_sumOf_0 M (nI b) = sumD (fun d => rd M 20 (b + d)) (uM u) := by
  rw [P_12_sumOf_0, F_12_sumOf_0]
  have hm := hp.1.2.1
  refine lp (S := Int32) (F := fun n i acc => F_12_sumOf_4 M n (nI b) acc i) (P := fun n i acc => P_12_sumOf_4 M n (nI b) acc i) (Q := fun a => a = sumD (fun d => rd M 20 (b + d)) (uM u)) (uM u) (fun i acc => acc = sumD (fun d => rd M 20 (b + d)) i) ?_ FU 0 0 rfl (Nat.zero_le _) (FU_ge (by omega))
  intro n i acc hi hI ih
  show P_12_sumOf_4 M (n + 1) (nI b) acc (nI i) ∧ F_12_sumOf_4 M (n + 1) (nI b) acc (nI i) = _
  rw [P_12_sumOf_4, F_12_sumOf_4, cl1, hp.2.2.1]
  by_cases h : i < uM u
  · have q : ¬ nI (uM u) ≤ nI i := nI_ge h (by omega)
    have hg := ih (acc + rd M 20 (b + i)) h (by rw [hI, sumD])
    have v1 : vp_in (nI (b + i)) 56 := (vp_iff (by omega)).mpr (by omega)
    rw [← nI_1] at hg
    simp only [q, nI_add, v1, nI_clamp (n := b + i) (by omega), if_true, if_false, true_imp_iff, false_imp_iff, not_true_eq_false, not_false_eq_true, true_and, and_true, implies_true, reduceIte]
    exact hg
  · have e : i = uM u := by omega
    subst e
    have q : nI (uM u) ≤ nI (uM u) := nI_le (Nat.le_refl _) (by omega)
    simp only [q, if_true, if_false, true_imp_iff, false_imp_iff, not_true_eq_false, not_false_eq_true, true_and, and_true, implies_true, reduceIte]
    exact hI
