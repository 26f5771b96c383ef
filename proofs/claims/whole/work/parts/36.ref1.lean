/-! MATHEMATICS 6: the reference's small askings -/
theorem cl0 : (0 : Int32).toNatClampNeg = 0 := rfl
theorem cl1 : (1 : Int32).toNatClampNeg = 1 := rfl
theorem cl2 : (2 : Int32).toNatClampNeg = 2 := rfl
theorem cl3 : (3 : Int32).toNatClampNeg = 3 := rfl
theorem cl4 : (4 : Int32).toNatClampNeg = 4 := rfl
theorem cl5 : (5 : Int32).toNatClampNeg = 5 := rfl
theorem cl6 : (6 : Int32).toNatClampNeg = 6 := rfl
theorem cl7 : (7 : Int32).toNatClampNeg = 7 := rfl
theorem cl54 : (54 : Int32).toNatClampNeg = 54 := rfl
theorem cl55 : (55 : Int32).toNatClampNeg = 55 := rfl
def orD (f : Nat → Int32) : Nat → Int32
  | 0 => 0
  | k + 1 => orD f k ||| f k
theorem b_orD {f : Nat → Int32} {k r : Nat} : bt (orD f k) r = true ↔ ∃ d, d < k ∧ bt (f d) r = true := by
  induction k with
  | zero => simp [orD, b_0]
  | succ k ih =>
    rw [orD, b_or, Bool.or_eq_true, ih]
    constructor
    · rintro (⟨d, h1, h2⟩ | h)
      · exact ⟨d, by omega, h2⟩
      · exact ⟨k, by omega, h⟩
    · rintro ⟨d, h1, h2⟩
      by_cases e : d = k
      · subst e; exact Or.inr h2
      · exact Or.inl ⟨d, by omega, h2⟩
theorem orD_cg {f g : Nat → Int32} {k : Nat} (h : ∀ d, d < k → f d = g d) : orD f k = orD g k := by
  induction k with
  | zero => rfl
  | succ k ih => rw [orD, orD, ih (fun d hd => h d (by omega)), h k (by omega)]
theorem or_0 (x : Int32) : x ||| 0 = x := b_ext (fun i _ => by rw [b_or, b_0, Bool.or_false])
theorem or0_ (x : Int32) : 0 ||| x = x := b_ext (fun i _ => by rw [b_or, b_0, Bool.false_or])
theorem i1_0 : ((1 : Int32) = 0) = False := by simp [i10]
theorem i0_1 : ((0 : Int32) = 1) = False := by simp [i01]
theorem ib0 (b : Bool) : ((if b = true then (1 : Int32) else 0) = 0) ↔ b = false := by cases b <;> simp [i10]
theorem ib1 (b : Bool) : ((if b = true then (1 : Int32) else 0) = 1) ↔ b = true := by cases b <;> simp [i01]
theorem r_has (M : Mem) (x : Int32) {i : Nat} (hi : i < 32) : F_12_has_0 M x (nI i) = if bt x i = true then 1 else 0 := by
  rw [F_12_has_0]
  by_cases h : bt x i = true
  · rw [if_pos h, if_pos ((b_o hi).mpr h)]
  · rw [if_neg h, if_neg (fun z => h ((b_o hi).mp z))]
/-- the rooms one door ahead of a set, by plan -/
def nbf (u : MU) (s : SU) (x : Int32) (d : Nat) : Int32 := if sB s d = false ∧ bt x (uF u d) = true then bi (uG u d) else 0
def nbA (u : MU) (s : SU) (x : Int32) : Int32 := orD (nbf u s x) (uM u)
theorem r_behind {u : MU} {s : SU} {M : Mem} (hp : RP u M) (hr : RR u s (rd M 20)) (x : Int32) : P_12_behind_0 M x ∧ F_12_behind_0 M x = nbA u s x := by
  rw [P_12_behind_0, F_12_behind_0]
  have hu := hp.1
  have hm := hu.2.1
  refine lp (S := Int32) (F := fun n i acc => F_12_behind_4 M n x acc i) (P := fun n i acc => P_12_behind_4 M n x acc i) (Q := fun r => r = nbA u s x) (uM u) (fun i acc => acc = orD (nbf u s x) i) ?_ FU 0 0 rfl (Nat.zero_le _) (FU_ge (by omega))
  intro n i acc hi hI ih
  show P_12_behind_4 M (n + 1) x acc (nI i) ∧ F_12_behind_4 M (n + 1) x acc (nI i) = _
  rw [P_12_behind_4, F_12_behind_4, cl1, hp.2.2.1]
  by_cases h : i < uM u
  · have q : ¬ nI (uM u) ≤ nI i := nI_ge h (by omega)
    obtain ⟨b1, b2⟩ := r_isBarred h hu hr
    obtain ⟨f1, f2, _, _⟩ := hp.2.2.2.2.2.1 i h
    have w := hu.2.2.2.2.1 i h
    have hn := hu.1
    have hg := ih (acc ||| nbf u s x i) h (by rw [hI, orD])
    have v1 : vp_in (nI i) 24 := (vp_iff (by omega)).mpr (by omega)
    have hh := r_has M x (i := uF u i) (by omega)
    rw [← nI_1] at hg
    simp only [q, b1, b2, v1, nI_clamp (n := i) (by omega), cl0, cl1, f1, f2, hh, if_true, if_false, true_imp_iff, false_imp_iff, not_true_eq_false, not_false_eq_true, true_and, and_true, implies_true, reduceIte, P_12_behind_54, P_12_behind_55, F_12_behind_54, F_12_behind_55, bi_of, ib0]
    unfold nbf at hg
    by_cases c1 : sB s i = true
    · simpa [c1, i10, or_0] using hg
    · have c1' := Bool.eq_false_iff.mpr c1
      by_cases c2 : bt x (uF u i) = true
      · simpa [c1', c2, i10, or_0] using hg
      · have c2' := Bool.eq_false_iff.mpr c2
        simpa [c1', c2', i10, or_0] using hg
  · have e : i = uM u := by omega
    subst e
    have q : nI (uM u) ≤ nI (uM u) := nI_le (Nat.le_refl _) (by omega)
    simp only [q, if_true, if_false, true_imp_iff, false_imp_iff, not_true_eq_false, not_false_eq_true, true_and, and_true, implies_true, reduceIte]
    exact hI
def snf (u : MU) (x : Int32) (v r : Nat) : Int32 := if bt x r = true ∧ uE u r = v then bi r else 0
/-- those of a set in which one sees v -/
def snS (u : MU) (x : Int32) (v : Nat) : Int32 := orD (snf u x v) (uN u)
theorem r_seen {u : MU} {M : Mem} (hp : RP u M) (x : Int32) {v : Nat} (hv : v < 100) : P_12_seen_0 M x (nI v) ∧ F_12_seen_0 M x (nI v) = snS u x v := by
  rw [P_12_seen_0, F_12_seen_0]
  have hu := hp.1
  have hn := hu.1
  refine lp (S := Int32) (F := fun n i acc => F_12_seen_5 M n x (nI v) acc i) (P := fun n i acc => P_12_seen_5 M n x (nI v) acc i) (Q := fun r => r = snS u x v) (uN u) (fun i acc => acc = orD (snf u x v) i) ?_ FU 0 0 rfl (Nat.zero_le _) (FU_ge (by omega))
  intro n i acc hi hI ih
  show P_12_seen_5 M (n + 1) x (nI v) acc (nI i) ∧ F_12_seen_5 M (n + 1) x (nI v) acc (nI i) = _
  rw [P_12_seen_5, F_12_seen_5, cl0, hp.2.1]
  by_cases h : i < uN u
  · have q : ¬ nI (uN u) ≤ nI i := nI_ge h (by omega)
    obtain ⟨f1, _⟩ := hp.2.2.2.2.2.2 i h
    have w := hu.2.2.2.2.2 i h
    have hg := ih (acc ||| snf u x v i) h (by rw [hI, orD])
    have v1 : vp_in (nI i) 10 := (vp_iff (by omega)).mpr (by omega)
    have hh := r_has M x (i := i) (by omega)
    rw [← nI_1] at hg
    have he : (nI (uE u i) = nI v) ↔ uE u i = v := nI_eq (by omega) (by omega)
    simp only [q, v1, nI_clamp (n := i) (by omega), f1, hh, he, if_true, if_false, true_imp_iff, false_imp_iff, not_true_eq_false, not_false_eq_true, true_and, and_true, implies_true, reduceIte, P_12_seen_44, P_12_seen_45, F_12_seen_44, F_12_seen_45, bi_of, ib0]
    unfold snf at hg
    by_cases c1 : bt x i = true
    · by_cases c2 : uE u i = v
      · simpa [c1, c2, or_0] using hg
      · simpa [c1, c2, or_0] using hg
    · have c1' := Bool.eq_false_iff.mpr c1
      simpa [c1', or_0] using hg
  · have e : i = uN u := by omega
    subst e
    have q : nI (uN u) ≤ nI (uN u) := nI_le (Nat.le_refl _) (by omega)
    simp only [q, if_true, if_false, true_imp_iff, false_imp_iff, not_true_eq_false, not_false_eq_true, true_and, and_true, implies_true, reduceIte]
    exact hI
/-- where one can be after a walk's first k lines -/
def fitW (u : MU) (s : SU) (w : WU) : Nat → Int32
  | 0 => bi (uN u) - 1
  | k + 1 => snS u (if k = 0 then fitW u s w k else nbA u s (fitW u s w k)) (w.2 k)
theorem r_allRooms {u : MU} {M : Mem} (hp : RP u M) : F_12_allRooms_0 M = bi (uN u) - 1 := by
  rw [F_12_allRooms_0, cl0, hp.2.1, bi_of]
theorem r_fitsNow {u : MU} {s : SU} {w : WU} {M : Mem} (hp : RP u M) (hr : RR u s (rd M 20)) (hw : RK w M) : P_12_fitsNow_0 M ∧ F_12_fitsNow_0 M = fitW u s w w.1 := by
  rw [P_12_fitsNow_0, F_12_fitsNow_0, r_allRooms hp]
  have h12 := hw.1.1
  refine lp (S := Int32) (F := fun n i acc => F_12_fitsNow_7 M n acc i) (P := fun n i acc => P_12_fitsNow_7 M n acc i) (Q := fun r => r = fitW u s w w.1) w.1 (fun i acc => acc = fitW u s w i) ?_ FU 0 _ rfl (Nat.zero_le _) (FU_ge (by omega))
  intro n i acc hi hI ih
  show P_12_fitsNow_7 M (n + 1) acc (nI i) ∧ F_12_fitsNow_7 M (n + 1) acc (nI i) = _
  rw [P_12_fitsNow_7, F_12_fitsNow_7, hw.2.1]
  by_cases h : i < w.1
  · have q : ¬ nI w.1 ≤ nI i := nI_ge h (by omega)
    have f1 := hw.2.2 i h
    have f2 := hw.1.2 i h
    obtain ⟨b1, b2⟩ := r_behind hp hr acc
    obtain ⟨c1, c2⟩ := r_seen hp (if i = 0 then acc else nbA u s acc) (v := w.2 i) (by omega)
    have hg := ih (snS u (if i = 0 then acc else nbA u s acc) (w.2 i)) h (by rw [hI, fitW])
    have v1 : vp_in (nI i) 12 := (vp_iff (by omega)).mpr (by omega)
    have he : (nI i = 0) ↔ i = 0 := nI_eq (b := 0) (by omega) (by omega)
    rw [← nI_1] at hg
    simp only [q, v1, nI_clamp (n := i) (by omega), f1, b1, b2, he, if_true, if_false, true_imp_iff, false_imp_iff, not_true_eq_false, not_false_eq_true, true_and, and_true, implies_true, reduceIte, P_12_fitsNow_29, F_12_fitsNow_29]
    by_cases e : i = 0
    · simp only [e, if_true] at c1 c2 hg
      simp only [e, if_true, if_false, true_imp_iff, false_imp_iff, not_true_eq_false, not_false_eq_true, true_and, and_true, implies_true, reduceIte, c1, c2]
      exact hg
    · simp only [e, if_false] at c1 c2 hg
      simp only [e, if_true, if_false, true_imp_iff, false_imp_iff, not_true_eq_false, not_false_eq_true, true_and, and_true, implies_true, reduceIte, c1, c2]
      exact hg
  · have e : i = w.1 := by omega
    subst e
    have q : nI w.1 ≤ nI w.1 := nI_le (Nat.le_refl _) (by omega)
    simp only [q, if_true, if_false, true_imp_iff, false_imp_iff, not_true_eq_false, not_false_eq_true, true_and, and_true, implies_true, reduceIte]
    exact hI
/-- how many tours stand in a room -/
def trs (u : MU) (s : SU) (r : Nat) : Nat := cnt (fun t => decide (sP s t = r)) (uT u)
theorem r_toursIn {u : MU} {s : SU} {M : Mem} (hp : RP u M) (hr : RR u s (rd M 20)) {r : Nat} (hrr : r < uN u) : P_12_toursIn_0 M (nI r) ∧ F_12_toursIn_0 M (nI r) = nI (trs u s r) := by
  rw [P_12_toursIn_0, F_12_toursIn_0]
  have hn := hp.1.1
  have ht := hp.1.2.2.1
  refine lp (S := Int32) (F := fun n i acc => F_12_toursIn_4 M n (nI r) acc i) (P := fun n i acc => P_12_toursIn_4 M n (nI r) acc i) (Q := fun a => a = nI (trs u s r)) (uT u) (fun i acc => acc = nI (cnt (fun t => decide (sP s t = r)) i)) ?_ FU 0 0 rfl (Nat.zero_le _) (FU_ge (by omega))
  intro n i acc hi hI ih
  show P_12_toursIn_4 M (n + 1) (nI r) acc (nI i) ∧ F_12_toursIn_4 M (n + 1) (nI r) acc (nI i) = _
  rw [P_12_toursIn_4, F_12_toursIn_4, cl2, hp.2.2.2.1]
  by_cases h : i < uT u
  · have q : ¬ nI (uT u) ≤ nI i := nI_ge h (by omega)
    have f1 := hr.2.1 i h
    have f2 := hr.1.2 i h
    have hg := ih (acc + (if sP s i = r then 1 else 0)) h (by
      rw [hI]
      simp only [cnt, decide_eq_true_eq]
      by_cases e : sP s i = r
      · simp only [e, if_true, nI_1]
      · simp only [e, if_false, Nat.add_zero]; exact Int32.add_zero _)
    have v1 : vp_in (nI i) 56 := (vp_iff (by omega)).mpr (by omega)
    have he : (nI (sP s i) = nI r) ↔ sP s i = r := nI_eq (by omega) (by omega)
    rw [← nI_1] at hg
    simp only [q, Int32.zero_add, v1, nI_clamp (n := i) (by omega), f1, he, if_true, if_false, true_imp_iff, false_imp_iff, not_true_eq_false, not_false_eq_true, true_and, and_true, implies_true, reduceIte, P_12_toursIn_32, F_12_toursIn_32]
    by_cases e : sP s i = r
    · simpa [e] using hg
    · simpa [e] using hg
  · have e : i = uT u := by omega
    subst e
    have q : nI (uT u) ≤ nI (uT u) := nI_le (Nat.le_refl _) (by omega)
    simp only [q, if_true, if_false, true_imp_iff, false_imp_iff, not_true_eq_false, not_false_eq_true, true_and, and_true, implies_true, reduceIte]
    exact hI
