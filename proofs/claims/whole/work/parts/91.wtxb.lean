/-! MATHEMATICS 61: bounds of a work's text -/
theorem bnd_i {α β : Type} {o : TRs α} {f : α → TRs β} {y : β} (h : bnd o f = .inr y) : ∃ a, o = .inr a ∧ f a = .inr y := by
  cases o with
  | inl e =>
    have h' : (Sum.inl e : TRs β) = Sum.inr y := h
    cases h'
  | inr a => exact ⟨a, rfl, h⟩
def WBd {α : Type} (f : α → Nat) (g : α → Prop) (p n : Nat) (o : TRs (α × Nat)) : Prop := match o with
  | .inl _ => True
  | .inr x => 2 * f x.1 + p ≤ x.2 ∧ x.2 ≤ n ∧ g x.1
theorem szL_c {α : Type} {c : Nat} {f : α → Nat} {x : StpW α} {r : List (StpW α)} : szL c f (x :: r) = szL c f [x] + szL c f r := by
  cases x with
  | inl x => show 1 + szL c f r = 1 + 0 + szL c f r; omega
  | inr x => show c + f x.2 + szL c f r = c + f x.2 + 0 + szL c f r; omega
theorem szL_1 {α : Type} {c : Nat} {f : α → Nat} {x : StpW α} (hc : 1 ≤ c) : 1 ≤ szL c f [x] := by
  cases x with
  | inl x => show 1 ≤ 1 + 0; omega
  | inr x => show 1 ≤ c + f x.2 + 0; omega
theorem PWL_c {α : Type} {u : MU} {g : α → Prop} {x : StpW α} {r : List (StpW α)} (h1 : PWL u g [x]) (h2 : PWL u g r) : PWL u g (x :: r) := by
  cases x with
  | inl x => exact ⟨h1.1, h1.2.1, h1.2.2.1, h2⟩
  | inr x => exact ⟨h1.1, h1.2.1, h2⟩
theorem ws1_b {α : Type} {tb : Nat → Nat} {n o q : Nat} {u : MU} {rec : Nat → TRs (α × Nat)} {f : α → Nat} {g : α → Prop} (hq : q ≤ n) (ho : o ≤ 6) (hr : o < 6 → ∀ p, p ≤ n → WBd f g p n (rec p)) {x : StpW α} {p' : Nat} (h : wS1 tb n u rec o q = .inr (x, p')) : 2 * szL 1 f [x] + q + 1 ≤ p' ∧ p' ≤ n ∧ PWL u g [x] := by
  unfold wS1 at h
  cases ok : stK tb n q with
  | none => rw [ok] at h; cases h
  | some k =>
    have hw := stK_we hq ok
    have hk := (stK_b ok).1
    rw [ok] at h
    try dsimp only at h
    by_cases k0 : k = 0
    · rw [if_pos k0] at h
      obtain ⟨⟨a, pa⟩, h1, h⟩ := bnd_i h
      obtain ⟨⟨b, pb⟩, h2, h⟩ := bnd_i h
      obtain ⟨pc, h3, h⟩ := bnd_i h
      cases h
      have b1 := tkN_b h1
      have b1' := tkN_b2 hw.2 h1
      have b2 := tkN_b h2
      have b2' := tkN_b2 b1.2.2.1 h2
      have b3 := tkS_b b2.2.2.1 h3
      refine ⟨?_, b3.2, Nat.zero_le _, fun _ => b1.2.1, fun _ => b2.2.1, trivial⟩
      show 2 * (1 + 0) + q + 1 ≤ p'
      omega
    rw [if_neg k0] at h
    by_cases k3 : k = 3
    · rw [if_pos k3] at h
      obtain ⟨pc, h3, h⟩ := bnd_i h
      cases h
      have b3 := tkS_b hw.2 h3
      refine ⟨?_, b3.2, Nat.le_refl _, fun z => absurd (show (3 : Nat) = 0 from z) (by omega), fun z => absurd (show (3 : Nat) < 3 from z) (by omega), trivial⟩
      show 2 * (1 + 0) + q + 1 ≤ p'
      omega
    rw [if_neg k3] at h
    by_cases k4 : k = 4
    · rw [if_pos k4] at h
      by_cases o6 : o = 6
      · rw [if_pos o6] at h; cases h
      rw [if_neg o6] at h
      obtain ⟨⟨a, pa⟩, h1, h⟩ := bnd_i h
      obtain ⟨p1, h2, h⟩ := bnd_i h
      obtain ⟨⟨b, pb⟩, h3, h⟩ := bnd_i h
      obtain ⟨p2, h4, h⟩ := bnd_i h
      cases h
      have b1 := tkN_b h1
      have b1' := tkN_b2 hw.2 h1
      have b2 := tkS_b b1.2.2.1 h2
      have hb := hr (by omega) p1 b2.2
      rw [h3] at hb
      obtain ⟨c1, c2, c3⟩ : 2 * f b + p1 ≤ pb ∧ pb ≤ n ∧ g b := hb
      have b4 := tkS_b c2 h4
      refine ⟨?_, b4.2, show a ≤ 30 by omega, c3, trivial⟩
      show 2 * (1 + f b + 0) + q + 1 ≤ p'
      omega
    rw [if_neg k4] at h
    obtain ⟨⟨b, pb⟩, h2, h⟩ := bnd_i h
    obtain ⟨pc, h3, h⟩ := bnd_i h
    cases h
    have b2 := tkN_b h2
    have b2' := tkN_b2 hw.2 h2
    have b3 := tkS_b b2.2.2.1 h3
    refine ⟨?_, b3.2, show k ≤ 3 by omega, fun z => absurd z k0, fun _ => b2.2.1, trivial⟩
    show 2 * (1 + 0) + q + 1 ≤ p'
    omega
theorem wsq_b {α : Type} {tb : Nat → Nat} {n o : Nat} {u : MU} {rec : Nat → TRs (α × Nat)} {f : α → Nat} {g : α → Prop} (ho : o ≤ 6) (hr : o < 6 → ∀ p, p ≤ n → WBd f g p n (rec p)) : ∀ (k p : Nat), p ≤ n → WBd (szL 1 f) (PWL u g) p n (wSq tb n u rec o k p) := by
  intro k
  induction k with
  | zero =>
    intro p hp
    exact ⟨by show 2 * 0 + p ≤ p; omega, hp, trivial⟩
  | succ k ih =>
    intro p hp
    have hb := sk_b (tb := tb) hp
    rw [wSq]
    by_cases c1 : o = 0 ∧ ¬ skT tb n p < n
    · rw [if_pos c1]
      exact ⟨by show 2 * 0 + p ≤ skT tb n p; omega, hb.2, trivial⟩
    rw [if_neg c1]
    by_cases c2 : ¬ o = 0 ∧ (skT tb n p < n ∧ tb (skT tb n p) = 93)
    · rw [if_pos c2]
      exact ⟨by show 2 * 0 + p ≤ skT tb n p + 1; omega, c2.2.1, trivial⟩
    rw [if_neg c2]
    cases o1 : wS1 tb n u rec o (skT tb n p) with
    | inl e => exact trivial
    | inr x =>
      obtain ⟨x, p1⟩ := x
      have b := ws1_b hb.2 ho hr o1
      have i := ih p1 b.2.1
      show WBd _ _ _ _ (bnd (wSq tb n u rec o k p1) _)
      cases o2 : wSq tb n u rec o k p1 with
      | inl e => exact trivial
      | inr y =>
        obtain ⟨r, p2⟩ := y
        rw [o2] at i
        obtain ⟨i1, i2, i3⟩ : 2 * szL 1 f r + p1 ≤ p2 ∧ p2 ≤ n ∧ PWL u g r := i
        refine ⟨?_, i2, PWL_c b.2.2 i3⟩
        show 2 * szL 1 f (x :: r) + p ≤ p2
        rw [szL_c]
        omega
theorem wst_b {tb : Nat → Nat} {n : Nat} {u : MU} : ∀ (k o p : Nat), o + k = 7 → p ≤ n → WBd (szP 1 k) (PWP u k) p n (wSt tb n u k o p) := by
  intro k
  induction k with
  | zero => intro o p _ _; exact trivial
  | succ k ih =>
    intro o p hk hp
    exact wsq_b (f := szP 1 k) (g := PWP u k) (by omega) (fun _ p hp => ih (o + 1) p (by omega) hp) (n + 1 - p) p hp
theorem szL2 {α : Type} {f h : α → Nat} (hf : ∀ a, h a ≤ 2 * f a) : ∀ l : List (StpW α), szL 2 h l ≤ 2 * szL 1 f l := by
  intro l
  induction l with
  | nil => exact Nat.le_refl _
  | cons x r ih =>
    cases x with
    | inl x => show 1 + szL 2 h r ≤ 2 * (1 + szL 1 f r); omega
    | inr x => have := hf x.2; show 2 + h x.2 + szL 2 h r ≤ 2 * (1 + f x.2 + szL 1 f r); omega
theorem szP2 : ∀ (k : Nat) (l : PT k), szP 2 k l ≤ 2 * szP 1 k l := by
  intro k
  induction k with
  | zero => intro l; exact Nat.zero_le _
  | succ k ih => intro l; exact szL2 ih l
/-! a step in the reference: its ends -/
def rSs (s c j : Nat) : Prop := (c = 0 ∧ (j = 4 ∨ j = 5 ∨ j = 6 ∨ j = 8 ∨ j = 30)) ∨ (398 + s ≤ c ∧ c < 478)
def rRw (c j : Nat) : Prop := (398 ≤ c ∧ c < 478) ∨ (c = 0 ∧ (j = 8 ∨ j = 30))
theorem Kp.tS {s : Nat} {M M' : Mem} (h : Kp rT M M') : Kp (rSs s) M M' := h.mono (fun c j z => by unfold rT at z; unfold rSs; omega)
theorem Kp.t4S {s : Nat} {M M' : Mem} (h : Kp r4 M M') : Kp (rSs s) M M' := h.mono (fun c j z => by unfold r4 at z; unfold rSs; omega)
theorem Kp.sS {s s' : Nat} {M M' : Mem} (h : Kp (rSs s') M M') (hs : s ≤ s') : Kp (rSs s) M M' := h.mono (fun c j z => by unfold rSs at z; unfold rSs; omega)
theorem RT.w {tb : Nat → Nat} {n p : Nat} {M M' : Mem} (h : RT tb n p M) (hk : Kp rRw M M') : RT tb n p M' := h.k hk (fun c j z => by unfold rRw at z; omega)
theorem REx.w {tb : Nat → Nat} {n : Nat} {e : Nat × Nat} {M M' : Mem} (h : RE e M ∧ TxE tb n M) (hk : Kp rRw M M') : RE e M' ∧ TxE tb n M' := by
  obtain ⟨h1, h2, p, h3, h4⟩ := h
  exact ⟨h1.k hk (fun c j z => by unfold rRw at z; omega), h2.k hk (fun c j z => by unfold rRw at z; omega), p, h3, by rw [hk.g (by unfold rRw; omega)]; exact h4⟩
theorem RP.s {s : Nat} {u : MU} {M M' : Mem} (h : RP u M) (hk : Kp (rSs s) M M') : RP u M' := h.k hk (fun c j z => by unfold rSs at z; omega)
theorem RP.t {u : MU} {M M' : Mem} (h : RP u M) (hk : Kp rT M M') : RP u M' := h.k hk (fun c j z => by unfold rT at z; omega)
theorem RP.t4 {u : MU} {M M' : Mem} (h : RP u M) (hk : Kp r4 M M') : RP u M' := h.k hk (fun c j z => by unfold r4 at z; omega)
theorem hin_m' {N v : Nat} (hN : N ≤ 24) (hv : v ≤ 100000) : (nI v ≤ nI N - 1) ↔ v < N := by
  by_cases c : N = 0
  · subst c
    have e : nI 0 - 1 = -1 := rfl
    rw [e]
    constructor
    · intro z
      exact absurd (Int32.le_trans ((nI_leI (a := 0) (by omega) (by omega)).mpr (Nat.zero_le v)) z) (by decide)
    · intro z; omega
  · rw [show (1 : Int32) = nI 1 from rfl, pk_sub (by omega), nI_leI (by omega) (by omega)]
    omega
theorem hin_m {N v : Nat} (hN : N ≤ 24) (hv : v ≤ 100000) : ((0 : Int32) ≤ nI v ∧ nI v ≤ nI N - 1) ↔ (0 ≤ v ∧ v < N) := by
  rw [hin_m' hN hv]
  exact ⟨fun z => ⟨Nat.zero_le _, z.2⟩, fun z => ⟨(nI_leI (a := 0) (by omega) (by omega)).mpr (Nat.zero_le v), z.2⟩⟩
theorem s181N {tb : Nat → Nat} {n q s : Nat} {e : Nat × Nat} {rF : Mem → Mem} {rP : Mem → Prop} {M : Mem} (h : RE e M ∧ TxE tb n M) (hq : q < 80) (hs : s ≤ q) : P_12_readsStep_181 rF rP q M ∧ ∃ M', F_12_readsStep_181 rF q M = M' ∧ (RE e M' ∧ TxE tb n M') ∧ Kp (rSs s) M M' := by
  have hK : Kp rRw M (wr M (398 + q) 3 (rd M 0 30)) := Kp.rf.w (Or.inl ⟨by omega, by omega⟩)
  have h2 := REx.w h hK
  obtain ⟨a1, a2⟩ := r_signN (x := 59) h2.1.ne
  rw [P_12_readsStep_181, F_12_readsStep_181, cl3, F_12_readsStep_194, a2]
  exact ⟨⟨hq, a1⟩, _, rfl, h2, Kp.rf.w (Or.inr ⟨by omega, by omega⟩)⟩
theorem s181 {tb : Nat → Nat} {n p q s t : Nat} {rF : Mem → Mem} {rP : Mem → Prop} {M : Mem} (h : RT tb n p M) (hq : q < 80) (hs : s ≤ q) (h30 : rd M 0 30 = nI t) : P_12_readsStep_181 rF rP q M ∧ ∃ M', F_12_readsStep_181 rF q M = M' ∧ RA tb n (tkS 59 tb n p) M' ∧ rd M' (398 + q) 3 = nI t ∧ (∀ c j, ¬ rT c j → ¬ (c = 398 + q ∧ j = 3) → rd M' c j = rd M c j) ∧ Kp (rSs s) M M' := by
  have hK : Kp rRw M (wr M (398 + q) 3 (rd M 0 30)) := Kp.rf.w (Or.inl ⟨by omega, by omega⟩)
  have h2 := h.w hK
  obtain ⟨a1, M', a2, a3, a4⟩ := r_sign (c := 59) h2 (by omega)
  have a1' : P_12_sign_0 59 (wr M (398 + q) 3 (rd M 0 30)) := a1
  have a2' : F_12_sign_0 59 (wr M (398 + q) 3 (rd M 0 30)) = M' := a2
  rw [P_12_readsStep_181, F_12_readsStep_181, cl3, F_12_readsStep_194]
  refine ⟨⟨hq, a1'⟩, M', a2', a3, ?_, fun c j z1 z2 => ?_, (Kp.w (p := rSs s) Kp.rf (Or.inr ⟨by omega, by omega⟩)).tr a4.tS⟩
  · rw [a4.g (by unfold rT; omega), rd_s]; exact h30
  · rw [a4.g z1, rd_wr, if_neg z2]
theorem n34 {k : Nat} (hk : k < 4) : ¬ nI k = 4 := by
  have : (nI k = 4) ↔ k = 4 := nI_eq (b := 4) (by omega) (by omega)
  rw [this]; omega
theorem s109N {tb : Nat → Nat} {n q s k : Nat} {e : Nat × Nat} {rF : Mem → Mem} {rP : Mem → Prop} {M : Mem} (h : RE e M ∧ TxE tb n M) (hq : q < 80) (hs : s ≤ q) (hk : k < 4) : P_12_readsStep_109 rF rP (nI k) q M ∧ ∃ M', F_12_readsStep_109 rF (nI k) q M = M' ∧ (RE e M' ∧ TxE tb n M') ∧ Kp (rSs s) M M' := by
  obtain ⟨a1, a2⟩ := s181N (rF := rF) (rP := rP) h hq hs
  rw [P_12_readsStep_109, F_12_readsStep_109, if_neg (n34 hk)]
  exact ⟨⟨hq, fun _ => a1, fun z => absurd z (n34 hk)⟩, a2⟩
theorem s108N {tb : Nat → Nat} {n q s k : Nat} {e : Nat × Nat} {x : Int32} {rF : Mem → Mem} {rP : Mem → Prop} {M : Mem} (h : RE e M ∧ TxE tb n M) (hq : q < 80) (hs : s ≤ q) (hk : k < 4) : P_12_readsStep_108 rF rP (nI k) q x 2 q M ∧ ∃ M', F_12_readsStep_108 rF (nI k) q x 2 q M = M' ∧ (RE e M' ∧ TxE tb n M') ∧ Kp (rSs s) M M' := by
  have hK : Kp rRw M (wr M (398 + q) 2 x) := Kp.rf.w (Or.inl ⟨by omega, by omega⟩)
  obtain ⟨a1, M', a2, a3, a4⟩ := s109N (rF := rF) (rP := rP) (REx.w h hK) hq hs hk
  rw [P_12_readsStep_108, F_12_readsStep_108, cl2]
  exact ⟨⟨hq, hq, (vp_iff (i := 2) (by omega)).mpr (by omega), a1⟩, M', a2, a3, (Kp.w (p := rSs s) Kp.rf (Or.inr ⟨by omega, by omega⟩)).tr a4⟩
theorem s88N {tb : Nat → Nat} {n q s k : Nat} {e : Nat × Nat} {rF : Mem → Mem} {rP : Mem → Prop} {M : Mem} (h : RE e M ∧ TxE tb n M) (hq : q < 80) (hs : s ≤ q) (hk : k < 3) : P_12_readsStep_88 rF rP (nI k) q M ∧ ∃ M', F_12_readsStep_88 rF (nI k) q M = M' ∧ (RE e M' ∧ TxE tb n M') ∧ Kp (rSs s) M M' := by
  have e3 : ¬ (3 : Int32) ≤ nI k := by
    have : ((3 : Int32) ≤ nI k) ↔ 3 ≤ k := nI_leI (a := 3) (by omega) (by omega)
    rw [this]; omega
  obtain ⟨b1, b2⟩ := r_numberN (x := 0) (y := rd M 4 ((1 : Int32).toNatClampNeg) - 1) h.1.ne
  obtain ⟨a1, a2⟩ := s108N (rF := rF) (rP := rP) (x := 0) h hq hs (show k < 4 by omega)
  rw [P_12_readsStep_88, F_12_readsStep_88, if_neg e3, b2]
  exact ⟨⟨hq, fun z => absurd z e3, fun _ => ⟨b1, a1⟩⟩, a2⟩
/-- a door's number, and the semicolon -/
def wDr (tb : Nat → Nat) (n : Nat) (u : MU) (p : Nat) : TRs (Nat × Nat) := bnd (tkN tb n p 0 (uM u)) (fun b => bnd (tkS 59 tb n b.2) (fun p => .inr (b.1, p)))
theorem s88 {tb : Nat → Nat} {n p q s t k : Nat} {u : MU} {rF : Mem → Mem} {rP : Mem → Prop} {M : Mem} (h : RT tb n p M) (hu : RP u M) (hq : q < 80) (hs : s ≤ q) (hk : k < 3) (h30 : rd M 0 30 = nI t) : P_12_readsStep_88 rF rP (nI k) q M ∧ ∃ M', F_12_readsStep_88 rF (nI k) q M = M' ∧ (match wDr tb n u p with | .inl e => RE e M' ∧ TxE tb n M' | .inr x => RT tb n x.2 M' ∧ rd M' (398 + q) 2 = nI x.1 ∧ rd M' (398 + q) 3 = nI t ∧ rd M' (398 + q) 0 = rd M (398 + q) 0 ∧ rd M' (398 + q) 1 = rd M (398 + q) 1 ∧ rd M' 0 30 = rd M 0 30 ∧ rd M' 0 8 = rd M 0 8) ∧ Kp (rSs s) M M' := by
  have e3 : ¬ (3 : Int32) ≤ nI k := by
    have : ((3 : Int32) ≤ nI k) ↔ 3 ≤ k := nI_leI (a := 3) (by omega) (by omega)
    rw [this]; omega
  have hm := hu.1.2.1
  obtain ⟨b1, M1, b2, b3, b4⟩ := r_number (xl := 0) (xh := rd M 4 1 - 1) (lo := 0) (hi := uM u) h (fun v hv => by rw [hu.2.2.1]; exact hin_m hm hv)
  rw [P_12_readsStep_88, F_12_readsStep_88, if_neg e3, cl1, b2]
  unfold wDr
  cases o1 : tkN tb n p 0 (uM u) with
  | inl e =>
    rw [o1] at b3
    have b3' : RE e M1 ∧ TxE tb n M1 := b3
    obtain ⟨a1, M', a2, a3, a4⟩ := s108N (rF := rF) (rP := rP) (x := nI (vlO (.inl e : TRs (Nat × Nat)))) b3' hq hs (show k < 4 by omega)
    exact ⟨⟨hq, fun z => absurd z e3, fun _ => ⟨b1, a1⟩⟩, M', a2, a3, b4.tS.tr a4⟩
  | inr x =>
    obtain ⟨v, p1⟩ := x
    rw [o1] at b3
    have b3' : RT tb n p1 M1 := b3
    have hK : Kp rRw M1 (wr M1 (398 + q) 2 (nI v)) := Kp.rf.w (Or.inl ⟨by omega, by omega⟩)
    have h30' : rd (wr M1 (398 + q) 2 (nI v)) 0 30 = nI t := by rw [rd_c (by omega), b4.g (by unfold rT; omega)]; exact h30
    obtain ⟨a1, M', a2, a3, a4, a5, a6⟩ := s181 (rF := rF) (rP := rP) (b3'.w hK) hq hs h30'
    have a0 : P_12_readsStep_108 rF rP (nI k) q (nI v) 2 q M1 ∧ F_12_readsStep_108 rF (nI k) q (nI v) 2 q M1 = M' := by
      rw [P_12_readsStep_108, F_12_readsStep_108, cl2, P_12_readsStep_109, F_12_readsStep_109, if_neg (n34 (show k < 4 by omega))]
      exact ⟨⟨hq, hq, (vp_iff (i := 2) (by omega)).mpr (by omega), hq, fun _ => a1, fun z => absurd z (n34 (show k < 4 by omega))⟩, a2⟩
    refine ⟨⟨hq, fun z => absurd z e3, fun _ => ⟨b1, a0.1⟩⟩, M', a0.2, ?_, b4.tS.tr ((Kp.w (p := rSs s) Kp.rf (Or.inr ⟨by omega, by omega⟩)).tr a6)⟩
    show (match bnd (tkS 59 tb n p1) (fun p => .inr (v, p)) with | .inl e => RE e M' ∧ TxE tb n M' | .inr x => _)
    cases o2 : tkS 59 tb n p1 with
    | inl e => rw [o2] at a3; exact a3
    | inr p2 =>
      rw [o2] at a3
      have g : ∀ c j, ¬ rT c j → ¬ (c = 398 + q ∧ (j = 3 ∨ j = 2)) → rd M' c j = rd M c j := fun c j z1 z2 => by
        rw [a5 c j z1 (by omega), rd_wr, if_neg (by omega), b4.g z1]
      refine ⟨a3, ?_, a4, g _ _ (by unfold rT; omega) (by omega), g _ _ (by unfold rT; omega) (by omega), g _ _ (by unfold rT; omega) (by omega), g _ _ (by unfold rT; omega) (by omega)⟩
      rw [a5 _ _ (by unfold rT; omega) (by omega), rd_s]
