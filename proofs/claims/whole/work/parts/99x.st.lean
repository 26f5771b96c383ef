/-! THE START: the invariant holds of the memory at the start -/
def d00 : ID := (d0U.1, s0U d0U, [-1], w0U, (0, fun _ => s0U d0U), (0, fun _ => (0, s0U d0U, fun _ => s0U d0U)), (0, fun _ => 0), -1, 0, 0, 0)
theorem bt00 (i : Nat) : bt (0 : Int32) i = false := by
  simp [bt]
theorem UW00 : UW d0U.1 := ⟨Nat.zero_le _, Nat.zero_le _, Nat.zero_le _, fun i _ => bt00 i, fun d h => absurd h (Nat.not_lt_zero _), fun d h => absurd h (Nat.not_lt_zero _)⟩
theorem SW00 : SW d0U.1 (s0U d0U) := ⟨Nat.zero_le _, fun d h => absurd h (Nat.not_lt_zero _)⟩
theorem RI00 : RI d00 M0 := by
  refine ⟨⟨⟨UW00, rfl, rfl, rfl, rfl, fun d h => absurd h (Nat.not_lt_zero _), fun d h => absurd h (Nat.not_lt_zero _)⟩, ⟨SW00, fun d h => absurd h (Nat.not_lt_zero _), fun d h => absurd h (Nat.not_lt_zero _), fun d h => absurd h (Nat.not_lt_zero _), rfl, rfl⟩, LW1, Or.inl ⟨rfl, rfl⟩⟩, ⟨WW0, rfl, fun d h => absurd h (Nat.not_lt_zero _)⟩, ⟨Nat.zero_le _, rfl, fun d h => absurd h (Nat.not_lt_zero _)⟩, ⟨Nat.zero_le _, rfl, fun d h => absurd h (Nat.not_lt_zero _)⟩, ⟨Nat.zero_le _, rfl, fun d h => absurd h (Nat.not_lt_zero _)⟩, rfl, rfl, rfl, rfl⟩
theorem CI00 : CI d00 M0 := by
  refine ⟨⟨⟨UW00, rfl, rfl, rfl, rfl, fun d h => absurd h (Nat.not_lt_zero _), fun d h => absurd h (Nat.not_lt_zero _), fun v hv r => ?_⟩, ⟨SW00, rfl, rfl, fun d => ?_, fun d h => absurd h (Nat.not_lt_zero _), fun d _ _ => rfl, fun d h => absurd h (Nat.not_lt_zero _)⟩, ⟨LW1, rfl, fun i hi => ?_⟩⟩, ⟨WW0, rfl, fun d h => absurd h (Nat.not_lt_zero _)⟩, ⟨Nat.zero_le _, rfl, fun d h => absurd h (Nat.not_lt_zero _)⟩, ⟨Nat.zero_le _, rfl, fun d h => absurd h (Nat.not_lt_zero _)⟩, ⟨Nat.zero_le _, rfl, fun d h => absurd h (Nat.not_lt_zero _)⟩, rfl, rfl, rfl, rfl⟩
  · have e : rd M0 (1561 + 5) v = 0 := rfl
    have e2 : ¬ r < uN d0U.1 := Nat.not_lt_zero _
    rw [e, bt00, decide_eq_false (show ¬ r < uN (dU d00) from e2)]
    rfl
  · have e : rd M0 1622 2 = 0 := rfl
    have e2 : ¬ d < uM (dU d00) := Nat.not_lt_zero _
    rw [e, bt00, decide_eq_false e2]
    rfl
  · have h : i = 0 := by
      have hi : i < 1 := hi
      omega
    subst h
    rfl
theorem arrV_cg {c : ClassId} {n : Nat} {f f2 : Nat → Value} (h : ∀ j, j < n → f j = f2 j) : arrV c n f = arrV c n f2 := by
  unfold arrV
  congr 2
  funext j
  exact h j.val j.2
theorem lkA_none {xs : List (Nat × Int32)} {j : Nat} (h : ∀ q ∈ xs, q.1 ≠ j) : lkA xs j = 0 := by
  induction xs with
  | nil => rfl
  | cons q r ih =>
    show (bif Nat.beq j q.1 then q.2 else lkA r j) = 0
    have e : Nat.beq j q.1 = false := Bool.eq_false_iff.mpr (fun z => h q List.mem_cons_self (Nat.eq_of_beq_eq_true z).symm)
    rw [e]
    exact ih (fun q hq => h q (List.mem_cons_of_mem _ hq))
theorem lkA_ext {xs ys : List (Nat × Int32)} (h : ∀ q ∈ xs ++ ys, lkA xs q.1 = lkA ys q.1) : lkA xs = lkA ys := by
  funext j
  by_cases h1 : ∃ q ∈ xs ++ ys, q.1 = j
  · obtain ⟨q, hq, rfl⟩ := h1
    exact h q hq
  · rw [lkA_none (fun q hq e => h1 ⟨q, List.mem_append_left _ hq, e⟩), lkA_none (fun q hq e => h1 ⟨q, List.mem_append_right _ hq, e⟩)]
theorem okFs_at {ci c : Nat} : ∀ {fs : List MV} {j : Nat}, okFs ci c j fs = true → j + fs.length = nfl ci ∧ ∀ i v, fs[i]? = some v → (∃ x, v = .inl x ∧ frq ci (j + i) = false ∧ x = lkA (spF c) (j + i)) ∨ (v = .inr (some (piC (rf c (j + i)))) ∧ frq ci (j + i) = true ∧ rf c (j + i) < 1826)
  | [], j, h => ⟨Nat.eq_of_beq_eq_true h, fun i v hv => by simp at hv⟩
  | .inl x :: r, j, h => by
    simp only [okFs, Bool.and_eq_true, decide_eq_true_eq, Bool.not_eq_true'] at h
    obtain ⟨h1, h2⟩ := okFs_at h.2
    refine ⟨by rw [List.length_cons]; omega, fun i v hv => ?_⟩
    cases i with
    | zero =>
      cases hv
      exact Or.inl ⟨x, rfl, h.1.1, h.1.2⟩
    | succ i =>
      have := h2 i v (by simpa using hv)
      rwa [show j + 1 + i = j + (i + 1) by omega] at this
  | .inr (some z) :: r, j, h => by
    simp only [okFs, Bool.and_eq_true] at h
    obtain ⟨h1, h2⟩ := okFs_at h.2
    refine ⟨by rw [List.length_cons]; omega, fun i v hv => ?_⟩
    cases i with
    | zero =>
      cases hv
      exact Or.inr ⟨by rw [Nat.eq_of_beq_eq_true h.1.1.2]; rfl, h.1.1.1, blt_lt h.1.2⟩
    | succ i =>
      have := h2 i v (by simpa using hv)
      rwa [show j + 1 + i = j + (i + 1) by omega] at this
  | .inr none :: r, j, h => by cases h
theorem okRs_at {c : Nat} : ∀ {rs : List (Option Nat)} {j : Nat}, okRs c j rs = true → ∀ i, i < rs.length → rs.getD i none = some (piC (rf c (j + i))) ∧ rf c (j + i) < 1826
  | [], j, h, i, hi => by simp at hi
  | some z :: r, j, h, i, hi => by
    simp only [okRs, Bool.and_eq_true, fz_eq] at h
    cases i with
    | zero => exact ⟨by rw [Nat.add_zero, ← Nat.eq_of_beq_eq_true h.1.1]; rfl, blt_lt h.1.2⟩
    | succ i =>
      have h2 := okRs_at h.2 i (by simpa using hi)
      rw [show j + 1 + i = j + (i + 1) by omega] at h2
      exact ⟨by simpa using h2.1, h2.2⟩
  | none :: r, j, h, i, hi => by cases h
theorem okZ_at : ∀ {L : List ME} {i : Nat}, okZ i L = true → ∀ j e, L[j]? = some e → okE (inC (i + j)) e = true
  | [], i, h => fun j e hj => by simp at hj
  | e :: r, i, h => by
    simp only [okZ, Bool.and_eq_true, fz_eq] at h
    have h2 := okZ_at h.2
    intro j e2 hj
    cases j with
    | zero => cases hj; exact h.1
    | succ j =>
      have := h2 j e2 (by simpa using hj)
      rwa [show i + 1 + j = i + (j + 1) by omega] at this
theorem kLs_len : (kL1 ++ kL2).length = 1826 := by
  have h1 := kL1_len
  have h2 := kL2_len
  rw [lenA0] at h1 h2
  rw [List.length_append, h1, h2]
theorem kLs_at {j : Nat} {e : ME} (h : (kL1 ++ kL2)[j]? = some e) : okE (inC j) e = true := by
  have h1 := kL1_len
  rw [lenA0] at h1
  by_cases hj : j < 268
  · rw [List.getElem?_append_left (by omega)] at h
    have := okZ_at okZ_1 j e h
    rwa [Nat.zero_add] at this
  · rw [List.getElem?_append_right (by omega), h1] at h
    have := okZ_at okZ_2 (j - 268) e h
    rwa [show 268 + (j - 268) = j by omega] at this
/-- the address map from the base and the rest -/
def adF (b : Nat) (r : Nat → Nat) (c : Nat) : Nat := if c < 1826 then b + piC c else r c
theorem piC_lt {c : Nat} (h : c < 1826) : piC c < 1826 ∧ inC (piC c) = c := by
  have h1 := List.all_eq_true.mp piC_ok c (List.mem_range.mpr h)
  simp only [Bool.and_eq_true] at h1
  exact ⟨blt_lt h1.1, Nat.eq_of_beq_eq_true h1.2⟩
theorem wld_at {l : Launch} {D : va_G} {ar : Nat → ClassId} {b a : Nat} {r : Nat → Nat} {H : Heap} (hP : va_P D classes (sqW ar b a (kL1 ++ kL2)) H) : va_P D classes (wld (l, D, ar, adF b r) M0) H := by
  have hlen := kLs_len
  intro c q hq
  obtain ⟨hc, rfl⟩ := wld_getI hq
  have hc : c < 1826 := hc
  obtain ⟨p1, p2⟩ := piC_lt hc
  have hx : ∃ e, (kL1 ++ kL2)[piC c]? = some e := ⟨_, List.getElem?_eq_getElem (by omega)⟩
  obtain ⟨e, he⟩ := hx
  have h1 := kLs_at he
  rw [p2] at h1
  have h2 := hP (piC c) _ (sqW_some he)
  have ead : ∀ z, z < 1826 → adB b a (piC z) = adF b r z := fun z hz => by
    rw [adB_lt (Nat.lt_trans (piC_lt hz).1 (by decide)), adF, if_pos hz]
  show va_at D classes (adF b r c, cnc (l, D, ar, adF b r) M0 c) H
  have e0 : adF b r c = b + piC c := by rw [adF, if_pos hc]
  rw [e0]
  match e, h1, h2 with
  | .inl (ci, fs), h1, h2 =>
    simp only [okE, Bool.and_eq_true] at h1
    obtain ⟨⟨k1, k2⟩, k3⟩ := h1
    have hkd : kd c = (0, ci) := Prod.ext (Nat.eq_of_beq_eq_true k1) (Nat.eq_of_beq_eq_true k2)
    obtain ⟨f1, f2⟩ := okFs_at k3
    rw [cnc_o hkd]
    have e5 : fs.map (evV b a) = fvs (l, D, ar, adF b r) M0 ci c := by
      apply List.ext_getElem?
      intro j
      by_cases hj : j < nfl ci
      · rw [fvs_get hj, List.getElem?_map]
        obtain ⟨v, hv⟩ : ∃ v, fs[j]? = some v := ⟨_, List.getElem?_eq_getElem (by omega)⟩
        rw [hv]
        rcases f2 j v hv with ⟨x, rfl, g1, g2⟩ | ⟨rfl, g1, g2⟩
        · rw [Nat.zero_add] at g1 g2
          rw [g1, g2]; rfl
        · rw [Nat.zero_add] at g1 g2 ⊢
          rw [g1]
          show some (Value.ref (adB b a (piC (rf c j)))) = some (Value.ref (adF b r (rf c j)))
          rw [ead _ g2]
      · rw [List.getElem?_eq_none (by rw [List.length_map]; omega), List.getElem?_eq_none (by rw [fvs_len]; omega)]
    rw [← e5]
    exact h2
  | .inr (.inl (k, n, xs)), h1, h2 =>
    simp only [okE, Bool.and_eq_true] at h1
    obtain ⟨⟨⟨⟨k1, k2⟩, k3⟩, k4⟩, k5⟩ := h1
    have hkd : kd c = (k, n) := Prod.ext (Nat.eq_of_beq_eq_true k1) (Nat.eq_of_beq_eq_true k2)
    have k3 := blt_lt k3
    have k4 := blt_lt k4
    have e5 : lkA xs = rd M0 c := lkA_ext (fun q hq => by simpa using List.all_eq_true.mp k5 q hq)
    have hk : k = 1 ∨ k = 2 ∨ k = 3 ∨ k = 4 := by omega
    rcases hk with rfl | rfl | rfl | rfl
    · rw [cnc_1 hkd, ← e5]; exact h2
    · rw [cnc_2 hkd, ← e5]; exact h2
    · rw [cnc_3 hkd, ← e5]; exact h2
    · rw [cnc_4 hkd]; exact h2
  | .inr (.inr (k, n, rs)), h1, h2 =>
    simp only [okE, Bool.and_eq_true] at h1
    obtain ⟨⟨⟨⟨⟨k1, k2⟩, k3⟩, k4⟩, k5⟩, k6⟩ := h1
    have hkd : kd c = (k, n) := Prod.ext (Nat.eq_of_beq_eq_true k1) (Nat.eq_of_beq_eq_true k2)
    have k3 := blt_lt k3
    have k4 := blt_lt k4
    have k6 : rs.length = n := by have := Nat.eq_of_beq_eq_true k6; rwa [lenA0] at this
    have e5 : vp_cell (ar k) (n, .inr (.inr (.inr (.inr (fun j => (rs.getD j none).map (fun z => adB b a z)))))) = vp_cell (ar k) (n, .inr (.inr (.inr (.inr (fun j => some (adF b r (rf c j))))))) := by
      rw [vp_cell_q, vp_cell_q]
      apply arrV_cg
      intro j hj
      obtain ⟨g1, g2⟩ := okRs_at k5 j (by omega)
      rw [Nat.zero_add] at g1 g2
      rw [g1]
      show va_rf (some (adB b a (piC (rf c j)))) = _
      rw [ead _ g2]
    have hk : k = 5 ∨ k = 6 ∨ k = 7 := by omega
    rcases hk with rfl | rfl | rfl
    · rw [cnc_5 hkd]; show H[b + piC c]? = some _; rw [← e5]; exact h2
    · rw [cnc_6 hkd]; show H[b + piC c]? = some _; rw [← e5]; exact h2
    · rw [cnc_7 hkd]; show H[b + piC c]? = some _; rw [← e5]; exact h2
theorem wld_ap {l : Launch} {D : va_G} {ar : Nat → ClassId} {b : Nat} {r : Nat → Nat} {A : Nat → Prop} (hA : ∀ q, b ≤ q → A q) : va_D A (wld (l, D, ar, adF b r) z0) := by
  refine ⟨fun i j p q hi hj e => ?_, fun k q hk => ?_⟩
  · obtain ⟨h1, rfl⟩ := wld_getI hi
    obtain ⟨h2, rfl⟩ := wld_getI hj
    have h1 : i < 1826 := h1
    have h2 : j < 1826 := h2
    have e : adF b r i = adF b r j := e
    rw [adF, if_pos h1, adF, if_pos h2] at e
    have e2 : piC i = piC j := by omega
    rw [← (piC_lt h1).2, ← (piC_lt h2).2, e2]
  · obtain ⟨h1, rfl⟩ := wld_getI hk
    have h1 : k < 1826 := h1
    show A (adF b r k)
    rw [adF, if_pos h1]
    exact hA _ (by omega)
