/-! MATHEMATICS 14: the fewest cuts -/
def wgP (f : Nat → Nat → Nat) (a b : Nat) : Prop := f a b < 999 ∧ f b a < 999
theorem wgP_s {f : Nat → Nat → Nat} {a b : Nat} (h : wgP f a b) : wgP f b a := ⟨h.2, h.1⟩
theorem wgP_t {u : MU} {s : SU} {f : Nat → Nat → Nat} (hu : UW u) (hf : FW u s f) {a b c : Nat} (ha : a < 10) (hb : b < 10) (hc : c < 10) (h : wgP f a b) (h2 : wgP f b c) : wgP f a c := by
  have a1 := hf.ten hu ha hb h.1
  have a2 := hf.ten hu hb ha h.2
  have a3 := hf.ten hu hb hc h2.1
  have a4 := hf.ten hu hc hb h2.2
  have t1 := hf.2.2.2.2 a b c ha hb hc
  have t2 := hf.2.2.2.2 c b a hc hb ha
  exact ⟨by omega, by omega⟩
theorem wgP_r {u : MU} {s : SU} {f : Nat → Nat → Nat} (hf : FW u s f) {a : Nat} (ha : a < 10) : wgP f a a := by
  have := hf.2.2.1 a ha
  exact ⟨by omega, by omega⟩
/-- the least room of its wing; none comes to it; none leaves it -/
def ldr (f : Nat → Nat → Nat) (n r : Nat) : Bool := decide (wgT f r n &&& (bi r - 1) = 0)
def frs (f : Nat → Nat → Nat) (n r : Nat) : Bool := fst? (fun q => !bt (wgT f r n) q && decide (f q r < 999)) n 0 == none
def las (f : Nat → Nat → Nat) (n r : Nat) : Bool := fst? (fun q => !bt (wgT f r n) q && decide (f r q < 999)) n 0 == none
theorem ldr_iff {f : Nat → Nat → Nat} {n r : Nat} (hn : n ≤ 10) (hr : r < n) : ldr f n r = true ↔ ∀ q, q < r → ¬ wgP f r q := by
  rw [ldr, decide_eq_true_eq, b_0iff]
  constructor
  · intro h q hq hw
    have := h q (by omega)
    rw [b_and, b_all r (by omega) q (by omega), decide_eq_true hq, Bool.and_true, (b_wgT hn).mpr ⟨by omega, hw⟩] at this
    cases this
  · intro h i hi
    rw [b_and, b_all r (by omega) i hi]
    by_cases c : i < r
    · rw [decide_eq_true c, Bool.and_true]
      apply Bool.eq_false_iff.mpr
      intro z
      exact h i c ((b_wgT hn).mp z).2
    · rw [decide_eq_false c, Bool.and_false]
theorem frs_iff {f : Nat → Nat → Nat} {n r : Nat} (hn : n ≤ 10) : frs f n r = true ↔ ∀ q, q < n → ¬ wgP f r q → ¬ f q r < 999 := by
  rw [frs, beq_iff_eq, fst_none]
  constructor
  · intro h q hq hw hl
    have := h q (by omega) (by omega)
    have e : bt (wgT f r n) q = false := Bool.eq_false_iff.mpr (fun z => hw ((b_wgT hn).mp z).2)
    simp [e, hl] at this
  · intro h q _ hq
    by_cases c : bt (wgT f r n) q = true
    · simp [c]
    · have := h q (by omega) (fun z => c ((b_wgT hn).mpr ⟨by omega, z⟩))
      simp [this]
theorem las_iff {f : Nat → Nat → Nat} {n r : Nat} (hn : n ≤ 10) : las f n r = true ↔ ∀ q, q < n → ¬ wgP f r q → ¬ f r q < 999 := by
  rw [las, beq_iff_eq, fst_none]
  constructor
  · intro h q hq hw hl
    have := h q (by omega) (by omega)
    have e : bt (wgT f r n) q = false := Bool.eq_false_iff.mpr (fun z => hw ((b_wgT hn).mp z).2)
    simp [e, hl] at this
  · intro h q _ hq
    by_cases c : bt (wgT f r n) q = true
    · simp [c]
    · have := h q (by omega) (fun z => c ((b_wgT hn).mpr ⟨by omega, z⟩))
      simp [this]
theorem frs_nb {u : MU} {s : SU} {f : Nat → Nat → Nat} (hu : UW u) (hf : FW u s f) {r : Nat} (hr : r < uN u) : (nbB u s (wgT f r (uN u)) &&& (wgT f r (uN u) ^^^ (-1)) = 0) ↔ frs f (uN u) r = true := by
  have hn := hu.1
  have cross : ∀ k q, q < uN u → ¬ wgP f r q → bt (rkF (nbA u s) (bi q) k) r = true → ∃ x y, ed u s x y ∧ ¬ wgP f r x ∧ wgP f r y := by
    intro k
    induction k with
    | zero =>
      intro q hq hw h
      rw [show rkF (nbA u s) (bi q) 0 = bi q from rfl, b_bi (by omega), decide_eq_true_eq] at h
      subst h
      exact absurd (wgP_r hf (by omega)) hw
    | succ k ih =>
      intro q hq hw h
      rcases (rk_front (stA hu) (by omega)).mp h with h | ⟨c, h1, h2⟩
      · exact ih q hq hw h
      · by_cases e : wgP f r c
        · exact ⟨q, c, h1, hw, e⟩
        · exact ih c (ed_lt hu h1).2.1 e h2
  rw [frs_iff hn, b_0iff]
  constructor
  · intro h q hq hw hl
    have h10 := hf.ten hu (by omega) (by omega) hl
    obtain ⟨x, y, h1, h2, h3⟩ := cross 10 q hq hw ((hf.iff hu (by omega) (by omega) (by omega)).mpr h10)
    have hx := ed_lt hu h1
    have := h x (by omega)
    rw [b_and, b_not (by omega), (b_nbB hu).mpr ⟨y, (b_wgT hn).mpr ⟨hx.2.1, h3⟩, h1⟩, Bool.true_and, Bool.not_eq_false'] at this
    exact h2 ((b_wgT hn).mp this).2
  · intro h i hi
    apply Bool.eq_false_iff.mpr
    intro z
    rw [b_and, b_not hi, Bool.and_eq_true, Bool.not_eq_true'] at z
    obtain ⟨y, h1, h2⟩ := (b_nbB hu).mp z.1
    have hx := ed_lt hu h2
    have hy := (b_wgT hn).mp h1
    have hne : ¬ wgP f r i := fun w => by rw [(b_wgT hn).mpr ⟨hx.1, w⟩] at z; cases z.2
    have a1 := hf.2.2.2.1 i y (by omega) (by omega) h2
    have a2 := hf.ten hu (a := y) (b := r) (by omega) (by omega) hy.2.2
    have a3 := hf.2.2.2.2 i y r (by omega) (by omega) (by omega)
    exact h i hx.1 hne (by omega)
theorem las_nb {u : MU} {s : SU} {f : Nat → Nat → Nat} (hu : UW u) (hf : FW u s f) {r : Nat} (hr : r < uN u) : (nbA u s (wgT f r (uN u)) &&& (wgT f r (uN u) ^^^ (-1)) = 0) ↔ las f (uN u) r = true := by
  have hn := hu.1
  have cross : ∀ k q, q < uN u → ¬ wgP f r q → bt (rkF (nbA u s) (bi r) k) q = true → ∃ x y, ed u s y x ∧ ¬ wgP f r x ∧ wgP f r y := by
    intro k
    induction k with
    | zero =>
      intro q hq hw h
      rw [show rkF (nbA u s) (bi r) 0 = bi r from rfl, b_bi (by omega), decide_eq_true_eq] at h
      subst h
      exact absurd (wgP_r hf (by omega)) hw
    | succ k ih =>
      intro q hq hw h
      rw [rkF, b_or, Bool.or_eq_true] at h
      rcases h with h | h
      · exact ih q hq hw h
      · obtain ⟨c, h1, h2⟩ := (b_nbA hu).mp h
        by_cases e : wgP f r c
        · exact ⟨q, c, h2, hw, e⟩
        · exact ih c (ed_lt hu h2).1 e h1
  rw [las_iff hn, b_0iff]
  constructor
  · intro h q hq hw hl
    have h10 := hf.ten hu (by omega) (by omega) hl
    obtain ⟨x, y, h1, h2, h3⟩ := cross 10 q hq hw ((hf.iff hu (by omega) (by omega) (by omega)).mpr h10)
    have hx := ed_lt hu h1
    have := h x (by omega)
    rw [b_and, b_not (by omega), (b_nbA hu).mpr ⟨y, (b_wgT hn).mpr ⟨hx.1, h3⟩, h1⟩, Bool.true_and, Bool.not_eq_false'] at this
    exact h2 ((b_wgT hn).mp this).2
  · intro h i hi
    apply Bool.eq_false_iff.mpr
    intro z
    rw [b_and, b_not hi, Bool.and_eq_true, Bool.not_eq_true'] at z
    obtain ⟨y, h1, h2⟩ := (b_nbA hu).mp z.1
    have hx := ed_lt hu h2
    have hy := (b_wgT hn).mp h1
    have hne : ¬ wgP f r i := fun w => by rw [(b_wgT hn).mpr ⟨hx.2.1, w⟩] at z; cases z.2
    have a1 := hf.2.2.2.1 y i (by omega) (by omega) h2
    have a2 := hf.ten hu (a := r) (b := y) (by omega) (by omega) hy.2.1
    have a3 := hf.2.2.2.2 r y i (by omega) (by omega) (by omega)
    exact h i hx.2.1 hne (by omega)
def mxN (a b : Nat) : Nat := if a < b then b else a
/-- the fewest cuts, counted -/
def ctC (f : Nat → Nat → Nat) (n : Nat) : Nat := if cnt (ldr f n) n ≤ 1 then 0 else mxN (cnt (fun r => ldr f n r && frs f n r) n) (cnt (fun r => ldr f n r && las f n r) n)
theorem cnt_le2 {p q : Nat → Bool} (h : ∀ i, p i = true → q i = true) (n : Nat) : cnt p n ≤ cnt q n := by
  induction n with
  | zero => exact Nat.le_refl _
  | succ n ih =>
    simp only [cnt]
    by_cases c : p n = true
    · rw [if_pos c, if_pos (h n c)]; omega
    · rw [if_neg c]; split <;> omega
theorem cnt_ext {p : Nat → Bool} {m n : Nat} (hmn : m ≤ n) (h : ∀ i, m ≤ i → i < n → p i = false) : cnt p n = cnt p m := by
  induction n with
  | zero => rw [show m = 0 by omega]
  | succ n ih =>
    by_cases e : m = n + 1
    · rw [e]
    · rw [cnt, ih (by omega) (fun i h1 h2 => h i h1 (by omega)), h n (by omega) (by omega)]
      simp
theorem c_cuts {u : MU} {s : SU} {f : Nat → Nat → Nat} {M : Mem} (hp : CP 1561 u M) (hg : CG u s M) (hf : FW u s f) : P_0_newDoorsToJoinAll_0 M ∧ F_0_newDoorsToJoinAll_0 M = nI (ctC f (uN u)) := by
  have hu := hp.1
  have hn := hu.1
  let A := fun r => ldr f (uN u) r
  let B := fun r => ldr f (uN u) r && frs f (uN u) r
  let C := fun r => ldr f (uN u) r && las f (uN u) r
  have eall : F_4_allRooms_0 M = bi (uN u) - 1 := by rw [F_4_allRooms_0, hp.2.1, bi_of]
  rw [P_0_newDoorsToJoinAll_0, F_0_newDoorsToJoinAll_0, eall]
  have fin : ∀ p, p ≤ uN u → (∀ r, r < uN u → p ≤ r → A r = false) → F_0_newDoorsToJoinAll_102 M (nI (cnt A p)) (nI (cnt B p)) (nI (cnt C p)) = nI (ctC f (uN u)) := by
    intro p hpN hz
    have e1 : cnt A (uN u) = cnt A p := cnt_ext hpN (fun i h1 h2 => hz i h2 h1)
    have e2 : cnt B (uN u) = cnt B p := cnt_ext hpN (fun i h1 h2 => by show (A i && _) = false; rw [hz i h2 h1]; rfl)
    have e3 : cnt C (uN u) = cnt C p := cnt_ext hpN (fun i h1 h2 => by show (A i && _) = false; rw [hz i h2 h1]; rfl)
    have l1 := cnt_le A p
    have l2 := cnt_le B p
    have l3 := cnt_le C p
    rw [F_0_newDoorsToJoinAll_102, ctC]
    have g1 : ((1 : Int32) < nI (cnt A p)) ↔ 1 < cnt A p := nI_ltI (a := 1) (by omega) (by omega)
    have g2 : (nI (cnt B p) < nI (cnt C p)) ↔ cnt B p < cnt C p := nI_ltI (by omega) (by omega)
    have e1' : cnt (ldr f (uN u)) (uN u) = cnt A p := e1
    have e2' : cnt (fun r => ldr f (uN u) r && frs f (uN u) r) (uN u) = cnt B p := e2
    have e3' : cnt (fun r => ldr f (uN u) r && las f (uN u) r) (uN u) = cnt C p := e3
    rw [e1', e2', e3']
    by_cases c1 : 1 < cnt A p
    · rw [if_pos (g1.mpr c1), if_neg (show ¬ cnt A p ≤ 1 by omega), mxN]
      by_cases c2 : cnt B p < cnt C p
      · rw [if_pos (g2.mpr c2), if_pos c2]
      · rw [if_neg (fun z => c2 (g2.mp z)), if_neg c2]
    · rw [if_neg (fun z => c1 (g1.mp z)), if_pos (by omega)]; rfl
  have ldr_of : ∀ p r, p ≤ r → r < uN u → A r = true → ∀ q, q < p → ¬ wgP f r q := fun p r h1 h2 h3 q hq => (ldr_iff hn h2).mp h3 q (by omega)
  refine lq (S := Int32 × Int32 × Int32 × Int32) (F := fun n i q => F_0_newDoorsToJoinAll_18 M n q.1 q.2.1 q.2.2.1 q.2.2.2 i) (P := fun n i q => P_0_newDoorsToJoinAll_18 M n q.1 q.2.1 q.2.2.1 q.2.2.2 i) (Q := fun z => z = nI (ctC f (uN u))) (10) (fun i q => ∃ p, p ≤ uN u ∧ i ≤ cnt A p ∧ q.1 = nI (cnt A p) ∧ q.2.1 = nI (cnt B p) ∧ q.2.2.1 = nI (cnt C p) ∧ ∀ r, bt q.2.2.2 r = true ↔ r < uN u ∧ ∀ x, x < p → ¬ wgP f r x) ?_ ?_ FU 0 (0, 0, 0, bi (uN u) - 1) ⟨0, Nat.zero_le _, Nat.zero_le _, rfl, rfl, rfl, fun r => by rw [b_allN hn, decide_eq_true_eq]; exact ⟨fun h => ⟨h, fun x hx => by omega⟩, fun h => h.1⟩⟩ (Nat.zero_le _) (FU_ge (by omega))
  · rintro n i ⟨a, b, c, y⟩ hi ⟨p, h1, h2, h3, h4, h5, h6⟩ ih
    try dsimp only at h3 h4 h5 h6 ih ⊢
    have q : ¬ (10 : Int32) ≤ nI i := nI_ge (b := 10) hi (by omega)
    rw [P_0_newDoorsToJoinAll_18, F_0_newDoorsToJoinAll_18]
    by_cases cy : y = 0
    · simp only [q, cy, if_true, if_false, true_imp_iff, false_imp_iff, not_true_eq_false, not_false_eq_true, true_and, and_true, implies_true, reduceIte]
      rw [h3, h4, h5]
      refine fin p h1 (fun r hr hpr => ?_)
      apply Bool.eq_false_iff.mpr
      intro hA
      have := (h6 r).mpr ⟨hr, ldr_of p r hpr hr hA⟩
      rw [cy, b_0] at this; cases this
    · obtain ⟨r, hr32, hrb, hrl⟩ := b_least cy
      have hr := (h6 r).mp hrb
      have hrp : p ≤ r := Nat.le_of_not_lt (fun z => hr.2 r z (wgP_r hf (by omega)))
      have low : y &&& -y = bi r := b_lowis (by omega) hrb hrl
      obtain ⟨a1, a2⟩ := c_closurea hp hg (bi r)
      obtain ⟨b1, b2⟩ := c_closureb hp hg (bi r)
      have ew : F_0_wingOf_0 M (bi r) = wgT f r (uN u) := by rw [F_0_wingOf_0, F_0_reachFrom_0, F_0_reachTo_0, a2, b2, wing_eq hu hf hr.1]
      have pw : P_0_wingOf_0 M (bi r) := by rw [P_0_wingOf_0, P_0_reachFrom_0, P_0_reachTo_0]; exact ⟨a1, b1⟩
      obtain ⟨c1, c2⟩ := c_joineda hp hg (wgT f r (uN u))
      obtain ⟨d1, d2⟩ := c_joinedb hp hg (wgT f r (uN u))
      have notin : ∀ x, x < r → x < uN u → (p ≤ x → ∃ z, z < p ∧ wgP f x z) := by
        intro x hx hxn hpx
        apply Classical.byContradiction
        intro hno
        have := (h6 x).mpr ⟨hxn, fun z hz hw => hno ⟨z, hz, hw⟩⟩
        rw [hrl x hx] at this; cases this
      have hA : A r = true := by
        refine (ldr_iff hn hr.1).mpr (fun x hx hw => ?_)
        by_cases e : x < p
        · exact hr.2 x e hw
        · obtain ⟨z, hz, hw2⟩ := notin x hx (by omega) (by omega)
          exact hr.2 z hz (wgP_t hu hf (by omega) (by omega) (by omega) hw hw2)
      have hAz : ∀ x, p ≤ x → x < r → A x = false := by
        intro x h7 h8
        apply Bool.eq_false_iff.mpr
        intro h9
        obtain ⟨z, hz, hw2⟩ := notin x h8 (by omega) h7
        exact ldr_of p x h7 (by omega) h9 z hz hw2
      have eA : cnt A (r + 1) = cnt A p + 1 := by rw [cnt, hA, cnt_ext hrp hAz]; rfl
      have eB : cnt B (r + 1) = cnt B p + if frs f (uN u) r = true then 1 else 0 := by
        rw [cnt, cnt_ext hrp (fun x h7 h8 => by show (A x && _) = false; rw [hAz x h7 h8]; rfl)]
        show _ + (if (A r && frs f (uN u) r) = true then 1 else 0) = _
        rw [hA, Bool.true_and]
      have eC : cnt C (r + 1) = cnt C p + if las f (uN u) r = true then 1 else 0 := by
        rw [cnt, cnt_ext hrp (fun x h7 h8 => by show (A x && _) = false; rw [hAz x h7 h8]; rfl)]
        show _ + (if (A r && las f (uN u) r) = true then 1 else 0) = _
        rw [hA, Bool.true_and]
      have hgg := ih (nI (cnt A (r + 1)), nI (cnt B (r + 1)), nI (cnt C (r + 1)), y &&& (wgT f r (uN u) ^^^ (-1))) ⟨r + 1, hr.1, by rw [eA]; omega, rfl, rfl, rfl, fun x => by
        rw [b_and, Bool.and_eq_true, h6]
        constructor
        · rintro ⟨⟨h7, h8⟩, h9⟩
          rw [b_not (by omega), Bool.not_eq_true'] at h9
          refine ⟨h7, fun z hz hw => ?_⟩
          by_cases e : z < p
          · exact h8 z e hw
          · by_cases e2 : z = r
            · subst e2
              rw [(b_wgT hn).mpr ⟨h7, wgP_s hw⟩] at h9; cases h9
            · obtain ⟨z', hz', hw2⟩ := notin z (by omega) (by omega) (by omega)
              exact h8 z' hz' (wgP_t hu hf (by omega) (by omega) (by omega) hw hw2)
        · rintro ⟨h7, h8⟩
          refine ⟨⟨h7, fun z hz => h8 z (by omega)⟩, ?_⟩
          rw [b_not (by omega), Bool.not_eq_true']
          apply Bool.eq_false_iff.mpr
          intro w
          exact h8 r (by omega) (wgP_s ((b_wgT hn).mp w).2)⟩
      try dsimp only at hgg
      rw [eA, eB, eC, nI_1] at hgg
      simp only [q, cy, low, pw, ew, c1, c2, d1, d2, frs_nb hu hf hr.1, las_nb hu hf hr.1, if_true, if_false, true_imp_iff, false_imp_iff, not_true_eq_false, not_false_eq_true, true_and, and_true, implies_true, reduceIte, P_0_newDoorsToJoinAll_66, P_0_newDoorsToJoinAll_87, F_0_newDoorsToJoinAll_66, F_0_newDoorsToJoinAll_87, h3, h4, h5, nI_1]
      cases e1 : frs f (uN u) r <;> cases e2 : las f (uN u) r <;> simpa [e1, e2] using hgg
  · rintro n ⟨a, b, c, y⟩ ⟨p, h1, h2, h3, h4, h5, h6⟩
    try dsimp only at h3 h4 h5 h6 ⊢
    rw [P_0_newDoorsToJoinAll_18, F_0_newDoorsToJoinAll_18]
    simp only [(by decide : (10 : Int32) ≤ nI 10), if_true, if_false, true_imp_iff, false_imp_iff, not_true_eq_false, not_false_eq_true, true_and, and_true, implies_true, reduceIte]
    rw [h3, h4, h5]
    have := cnt_le A p
    exact fin p h1 (fun r hr hpr => by omega)
/-- the reference's cuts -/
theorem r_cutsIn {u : MU} {s : SU} {f : Nat → Nat → Nat} {M : Mem} (hp : RP u M) (hF : FR f M) (hf : FW u s f) {k15 : Int32 → Int32 → Int32 → Mem → Int32 × Mem} {pk15 : Int32 → Int32 → Int32 → Mem → Prop} {Q : Int32 × Mem → Prop} {x1 x2 : Int32} {r : Nat} (hr : r < uN u) (hn' : pk15 (x1 + if frs f (uN u) r = true then 1 else 0) (x2 + if las f (uN u) r = true then 1 else 0) (nI r + 1) M ∧ Q (k15 (x1 + if frs f (uN u) r = true then 1 else 0) (x2 + if las f (uN u) r = true then 1 else 0) (nI r + 1) M)) :
    P_12_cuts_66 pk15 FU x1 x2 (nI r) (wgT f r (uN u)) 1 1 0 M ∧ Q (F_12_cuts_66 k15 FU x1 x2 (nI r) (wgT f r (uN u)) 1 1 0 M) := by
  have hu := hp.1
  have hn := hu.1
  let pF := fun q => !bt (wgT f r (uN u)) q && decide (f q r < 999)
  let pL := fun q => !bt (wgT f r (uN u)) q && decide (f r q < 999)
  refine lq (S := Int32 × Int32) (F := fun n i q => F_12_cuts_66 k15 n x1 x2 (nI r) (wgT f r (uN u)) q.1 q.2 i M) (P := fun n i q => P_12_cuts_66 pk15 n x1 x2 (nI r) (wgT f r (uN u)) q.1 q.2 i M) (Q := Q) (uN u) (fun i q => q.1 = (if fst? pF i 0 = none then 1 else 0) ∧ q.2 = (if fst? pL i 0 = none then 1 else 0)) ?_ ?_ FU 0 (1, 1) ⟨rfl, rfl⟩ (Nat.zero_le _) (FU_ge (by omega))
  · rintro n i ⟨a, b⟩ hi ⟨h1, h2⟩ ih
    try dsimp only at h1 h2 ih ⊢
    have q1 : ¬ nI (uN u) ≤ nI i := nI_ge hi (by omega)
    have v1 : vp_in (nI i) 10 := (vp_iff (by omega)).mpr (by omega)
    have v2 : vp_in (nI r) 10 := (vp_iff (by omega)).mpr (by omega)
    have hh := r_has M (wgT f r (uN u)) (i := i) (by omega)
    have g1 := hf.1 i r (by omega) (by omega)
    have g2 := hf.1 r i (by omega) (by omega)
    have e1 : (nI (f i r) < 999) ↔ f i r < 999 := nI_ltI (b := 999) (by omega) (by omega)
    have e2 : (nI (f r i) < 999) ↔ f r i < 999 := nI_ltI (b := 999) (by omega) (by omega)
    have sF : ∀ p : Nat → Bool, (fst? p (i + 1) 0 = none ↔ fst? p i 0 = none ∧ p i = false) := by
      intro p
      rw [fst_none, fst_none]
      constructor
      · intro h; exact ⟨fun j h3 h4 => h j h3 (by omega), h i (by omega) (by omega)⟩
      · rintro ⟨h3, h4⟩ j h5 h6
        by_cases e : j = i
        · subst e; exact h4
        · exact h3 j h5 (by omega)
    have hg := ih (if fst? pF (i + 1) 0 = none then 1 else 0, if fst? pL (i + 1) 0 = none then 1 else 0) ⟨rfl, rfl⟩
    simp only [sF] at hg
    rw [P_12_cuts_66, F_12_cuts_66, cl0, hp.2.1]
    simp only [q1, v1, v2, hh, ib0, nI_clamp (n := i) (by omega), nI_clamp (n := r) (by omega), hF i r (by omega) (by omega), hF r i (by omega) (by omega), e1, e2, if_true, if_false, true_imp_iff, false_imp_iff, not_true_eq_false, not_false_eq_true, true_and, and_true, implies_true, reduceIte, P_12_cuts_114, P_12_cuts_115, P_12_cuts_141, P_12_cuts_142, P_12_cuts_144, F_12_cuts_114, F_12_cuts_115, F_12_cuts_141, F_12_cuts_142, F_12_cuts_144]
    rw [h1, h2]
    by_cases cw : bt (wgT f r (uN u)) i = true
    · simpa [cw, pF, pL] using hg
    · have cw' := Bool.eq_false_iff.mpr cw
      by_cases c1 : fst? pF i 0 = none <;> by_cases c2 : fst? pL i 0 = none <;> by_cases c3 : f i r < 999 <;> by_cases c4 : f r i < 999 <;> simpa [cw', pF, pL, c1, c2, c3, c4, i10] using hg
  · rintro n ⟨a, b⟩ ⟨h1, h2⟩
    try dsimp only at h1 h2 ⊢
    have q1 : nI (uN u) ≤ nI (uN u) := nI_le (Nat.le_refl _) (by omega)
    rw [P_12_cuts_66, F_12_cuts_66, cl0, hp.2.1]
    simp only [q1, if_true, if_false, true_imp_iff, false_imp_iff, not_true_eq_false, not_false_eq_true, true_and, and_true, implies_true, reduceIte, P_12_cuts_161, P_12_cuts_174, P_12_cuts_176, F_12_cuts_161, F_12_cuts_174, F_12_cuts_176]
    rw [h1, h2]
    have e1 : (frs f (uN u) r = true) ↔ fst? pF (uN u) 0 = none := by rw [frs, beq_iff_eq]
    have e2 : (las f (uN u) r = true) ↔ fst? pL (uN u) 0 = none := by rw [las, beq_iff_eq]
    simp only [e1, e2] at hn'
    by_cases c1 : fst? pF (uN u) 0 = none <;> by_cases c2 : fst? pL (uN u) 0 = none <;> simpa [c1, c2, i10] using hn'
theorem r_cuts {u : MU} {s : SU} {f : Nat → Nat → Nat} {M : Mem} (hp : RP u M) (hF : FR f M) (hf : FW u s f) : P_12_cuts_13 0 0 M ∧ F_12_cuts_13 0 0 M = (nI (ctC f (uN u)), M) := by
  have hu := hp.1
  have hn := hu.1
  let A := fun r => ldr f (uN u) r
  let B := fun r => ldr f (uN u) r && frs f (uN u) r
  let C := fun r => ldr f (uN u) r && las f (uN u) r
  have allw : ∀ r, r < uN u → A r = true → (wgT f r (uN u) = bi (uN u) - 1 ↔ cnt A (uN u) ≤ 1) := by
    intro r hr hA
    have h0 : A 0 = true := (ldr_iff hn (by omega)).mpr (fun q hq => by omega)
    constructor
    · intro h
      have hw : ∀ q, q < uN u → wgP f r q := fun q hq => ((b_wgT hn).mp (by rw [h, b_allN hn, decide_eq_true_eq]; exact hq)).2
      have hr0 : r = 0 := by
        apply Classical.byContradiction
        intro z
        exact (ldr_iff hn hr).mp hA 0 (by omega) (hw 0 (by omega))
      have e := cnt_ext (p := A) (m := 1) (n := uN u) (by omega) (fun i h1 h2 => by
        apply Bool.eq_false_iff.mpr
        intro z
        have := (ldr_iff hn h2).mp z 0 (by omega)
        rw [hr0] at hw
        exact this (wgP_s (hw i h2)))
      rw [e]; exact cnt_le A 1
    · intro h
      have only : ∀ q, q < uN u → A q = true → q = 0 := by
        intro q hq hqA
        apply Classical.byContradiction
        intro z
        have c0 : cnt A 1 = 1 := by show 0 + (if A 0 = true then 1 else 0) = 1; rw [h0]; rfl
        have mono : ∀ m, 1 ≤ m → m ≤ uN u → 1 ≤ cnt A m := by
          intro m
          induction m with
          | zero => intro h; omega
          | succ m ih =>
            intro _ hm
            by_cases e : m = 0
            · subst e; exact Nat.le_of_eq c0.symm
            · exact Nat.le_trans (ih (by omega) (by omega)) (Nat.le_add_right _ _)
        have c1 := mono q (by omega) (by omega)
        have c2 : cnt A (q + 1) = cnt A q + 1 := by rw [cnt, hqA]; rfl
        have mono2 : ∀ m, q + 1 ≤ m → cnt A (q + 1) ≤ cnt A m := by
          intro m
          induction m with
          | zero => intro h; omega
          | succ m ih =>
            intro hm
            by_cases e : m = q
            · subst e; exact Nat.le_refl _
            · exact Nat.le_trans (ih (by omega)) (Nat.le_add_right _ _)
        have := mono2 (uN u) (by omega)
        omega
      have hr0 := only r hr hA
      apply b_ext'
      intro i
      rw [b_wgT hn, b_allN hn, decide_eq_true_eq]
      refine ⟨fun z => z.1, fun z => ⟨z, ?_⟩⟩
      have : ∀ k i, i < k → i < uN u → wgP f 0 i := by
        intro k
        induction k with
        | zero => intro i h; omega
        | succ k ih =>
          intro i h1 h2
          by_cases e : A i = true
          · rw [only i h2 e]; exact wgP_r hf (by omega)
          · have hx : ∃ q, q < i ∧ wgP f i q := by
              apply Classical.byContradiction
              intro hno
              exact e ((ldr_iff hn h2).mpr (fun q hq hw => hno ⟨q, hq, hw⟩))
            obtain ⟨q, h3, h4⟩ := hx
            exact wgP_t hu hf (by omega) (by omega) (by omega) (ih q (by omega) (by omega)) (wgP_s h4)
      rw [hr0]
      exact this (i + 1) i (by omega) z
  rw [P_12_cuts_13, F_12_cuts_13]
  refine lq (S := Int32 × Int32) (F := fun n i q => F_12_cuts_15 n q.1 q.2 i M) (P := fun n i q => P_12_cuts_15 n q.1 q.2 i M) (Q := fun z => z = (nI (ctC f (uN u)), M)) (uN u) (fun i q => q.1 = nI (cnt B i) ∧ q.2 = nI (cnt C i) ∧ (0 < i → ¬ cnt A (uN u) ≤ 1)) ?_ ?_ FU 0 (0, 0) ⟨rfl, rfl, fun z => by omega⟩ (Nat.zero_le _) (FU_ge (by omega))
  · rintro n r ⟨a, b⟩ hr ⟨h1, h2, h3⟩ ih
    try dsimp only at h1 h2 ih ⊢
    have q1 : ¬ nI (uN u) ≤ nI r := nI_ge hr (by omega)
    obtain ⟨w1, w2⟩ := r_wingOf hp hF hf.1 (r := r) (by omega)
    have e1 : (wgT f r (uN u) &&& (bi r - 1) = 0) ↔ A r = true := by show _ ↔ decide _ = true; rw [decide_eq_true_eq]
    rw [P_12_cuts_15, F_12_cuts_15, cl0, hp.2.1, r_allRooms hp]
    simp only [q1, w1, w2, bi_of, e1, if_true, if_false, true_imp_iff, false_imp_iff, not_true_eq_false, not_false_eq_true, true_and, and_true, implies_true, reduceIte, P_12_cuts_176, F_12_cuts_176]
    by_cases c1 : A r = true
    · by_cases c2 : wgT f r (uN u) = bi (uN u) - 1
      · simp only [c1, c2, if_true, if_false, true_imp_iff, false_imp_iff, not_true_eq_false, not_false_eq_true, true_and, and_true, implies_true, reduceIte]
        have := (allw r hr c1).mp c2
        rw [ctC, if_pos this]; rfl
      · simp only [c1, c2, if_true, if_false, true_imp_iff, false_imp_iff, not_true_eq_false, not_false_eq_true, true_and, and_true, implies_true, reduceIte]
        have h4 := mt (allw r hr c1).mpr c2
        refine r_cutsIn (Q := fun z => z = (nI (ctC f (uN u)), M)) hp hF hf hr (ih (_, _) ⟨?_, ?_, fun _ => h4⟩)
        · show a + _ = nI (cnt B r + if (A r && frs f (uN u) r) = true then 1 else 0)
          rw [h1, c1, Bool.true_and, nI_b]
        · show b + _ = nI (cnt C r + if (A r && las f (uN u) r) = true then 1 else 0)
          rw [h2, c1, Bool.true_and, nI_b]
    · have c1' := Bool.eq_false_iff.mpr c1
      have hg := ih (a, b) ⟨by
        show a = nI (cnt B r + if (A r && frs f (uN u) r) = true then 1 else 0)
        rw [h1, c1']; simp, by
        show b = nI (cnt C r + if (A r && las f (uN u) r) = true then 1 else 0)
        rw [h2, c1']; simp, fun _ => by
          apply h3
          apply Nat.pos_of_ne_zero
          intro z
          rw [z] at c1
          exact c1 ((ldr_iff hn (by omega)).mpr (fun q hq => by omega))⟩
      simpa [c1'] using hg
  · rintro n ⟨a, b⟩ ⟨h1, h2, h3⟩
    try dsimp only at h1 h2 ⊢
    have q1 : nI (uN u) ≤ nI (uN u) := nI_le (Nat.le_refl _) (by omega)
    rw [P_12_cuts_15, F_12_cuts_15, cl0, hp.2.1]
    simp only [q1, if_true, if_false, true_imp_iff, false_imp_iff, not_true_eq_false, not_false_eq_true, true_and, and_true, implies_true, reduceIte]
    have l2 := cnt_le B (uN u)
    have l3 := cnt_le C (uN u)
    rw [h1, h2, r_more (by omega) (by omega), ctC]
    by_cases c : cnt (ldr f (uN u)) (uN u) ≤ 1
    · rw [if_pos c]
      have : uN u = 0 := Nat.eq_zero_of_not_pos (fun z => h3 z c)
      rw [this]; rfl
    · rw [if_neg c]; rfl
