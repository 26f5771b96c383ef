/-! MATHEMATICS 38: a law's text, as such -/
abbrev LwP : Type := List Int32 × Nat
def wdK (tb : Nat → Nat) (n q : Nat) : Option Nat :=
  if isW (wT 6) tb n q = true then some 0 else if isW (wT 7) tb n q = true then some 1 else if isW (wT 8) tb n q = true then some 2 else if isW (wT 2) tb n q = true then some 3
  else if isW (wT 9) tb n q = true then some 4 else if isW (wT 10) tb n q = true then some 5 else if isW (wT 11) tb n q = true then some 6 else if isW (wT 12) tb n q = true then some 7 else none
def lPair (tb : Nat → Nat) (n : Nat) (rec : Nat → Nat → TRs LwP) (o : Nat) (c : Int32) (q : Nat) : TRs LwP :=
  if o = 6 then .inl (3, q) else bnd (tkS 91 tb n (weT tb n q)) (fun p1 => bnd (rec (o + 1) p1) (fun a => bnd (tkS 44 tb n a.2) (fun p3 => bnd (rec (o + 1) p3) (fun b => bnd (tkS 93 tb n b.2) (fun p5 => .inr (a.1 ++ b.1 ++ [c], p5))))))
def lBr (tb : Nat → Nat) (n : Nat) (rec : Nat → Nat → TRs LwP) (o : Nat) (q : Nat) : TRs LwP :=
  if o = 6 then .inl (3, q) else bnd (rec (o + 1) (q + 1)) (fun a => bnd (tkS 41 tb n a.2) (fun p2 => .inr (a.1, p2)))
def lOne (tb : Nat → Nat) (n : Nat) (rec : Nat → Nat → TRs LwP) (o : Nat) (p : Nat) : TRs LwP :=
  if isW (wT 13) tb n (skT tb n p) = true then lPair tb n rec o (-9) (skT tb n p)
  else if isW (wT 14) tb n (skT tb n p) = true then lPair tb n rec o (-10) (skT tb n p)
  else if skT tb n p < n ∧ tb (skT tb n p) = 40 then lBr tb n rec o (skT tb n p)
  else match wdK tb n (skT tb n p) with
    | some k => .inr ([-1 - nI k], weT tb n (skT tb n p))
    | none => bnd (tkN tb n p 0 1000) (fun x => .inr ([nI x.1], x.2))
/-- which sign stands here: its code -/
def opP (tb : Nat → Nat) (n q : Nat) : Option Int32 := if q < n ∧ tb q = 42 then some (-13) else if q < n ∧ tb q = 47 then some (-14) else if q < n ∧ tb q = 37 then some (-15) else none
def opS2 (tb : Nat → Nat) (n q : Nat) : Option Int32 := if q < n ∧ tb q = 43 then some (-11) else if q < n ∧ tb q = 45 then some (-12) else none
def lLp (tb : Nat → Nat) (n : Nat) (op : Nat → Option Int32) (one : Nat → TRs LwP) : Nat → List Int32 → Nat → TRs LwP
  | 0, C, p => .inr (C, p)
  | k + 1, C, p => match op (skT tb n p) with
    | some c => bnd (one (skT tb n p + 1)) (fun d => lLp tb n op one k (C ++ d.1 ++ [c]) d.2)
    | none => .inr (C, skT tb n p)
def lMany (tb : Nat → Nat) (n : Nat) (op : Nat → Option Int32) (one : Nat → TRs LwP) (p : Nat) : TRs LwP := bnd (one p) (fun d => lLp tb n op one (n + 1 - d.2) d.1 d.2)
def lPrd (tb : Nat → Nat) (n : Nat) (rec : Nat → Nat → TRs LwP) (o p : Nat) : TRs LwP := lMany tb n (opP tb n) (lOne tb n rec o) p
def lSm (tb : Nat → Nat) (n : Nat) (rec : Nat → Nat → TRs LwP) (o p : Nat) : TRs LwP := lMany tb n (opS2 tb n) (lPrd tb n rec o) p
def lSum (tb : Nat → Nat) (n : Nat) : Nat → Nat → Nat → TRs LwP
  | 0, _, p => .inl (3, p)
  | k + 1, o, p => lSm tb n (lSum tb n k) o p
/-! what a reading gives -/
def OKC (C : List Int32) (B : Nat) : Prop := ∀ (r : List Int32) (h : Nat), h + B ≤ 48 → okCode r (h + 1) → okCode (C ++ r) h
def GD (B p n : Nat) (o : TRs LwP) : Prop := match o with
  | .inl _ => True
  | .inr x => 1 ≤ x.1.length ∧ x.1.length + p ≤ x.2 ∧ x.2 ≤ n ∧ OKC x.1 B
theorem tkS_b {tb : Nat → Nat} {n p c q : Nat} (hp : p ≤ n) (h : tkS c tb n p = .inr q) : p + 1 ≤ q ∧ q ≤ n := by
  unfold tkS at h
  by_cases c1 : skT tb n p < n ∧ tb (skT tb n p) = c
  · rw [if_pos c1] at h
    cases h
    have := sk_b (tb := tb) hp
    omega
  · rw [if_neg c1] at h; cases h
theorem okc1 {c : Int32} (h1 : -15 ≤ c) (h2 : c ≤ 999) (h3 : ¬ c ≤ -9) : OKC [c] 1 := by
  intro r h hb hr
  show okCode (c :: r) h
  exact ⟨⟨h1, h2⟩, fun z => absurd z h3, fun _ => ⟨by omega, hr⟩⟩
theorem OKC.mono {C : List Int32} {a b : Nat} (h : OKC C a) (hab : a ≤ b) : OKC C b := fun r k hb hr => h r k (by omega) hr
theorem okc2 {A D : List Int32} {c : Int32} {a b : Nat} (hA : OKC A a) (hD : OKC D b) (h1 : -15 ≤ c) (h2 : c ≤ -9) {B : Nat} (ha : a ≤ B) (hb : b + 1 ≤ B) : OKC (A ++ D ++ [c]) B := by
  intro r h hB hr
  rw [List.append_assoc, List.append_assoc]
  refine hA _ h (by omega) (hD _ (h + 1) (by omega) ?_)
  show okCode (c :: r) (h + 2)
  exact ⟨⟨h1, Int32.le_trans h2 (by decide)⟩, fun _ => ⟨by omega, hr⟩, fun z => absurd h2 z⟩
theorem kc_b : ∀ k, k < 8 → (-15 : Int32) ≤ -1 - nI k ∧ -1 - nI k ≤ 999 ∧ ¬ -1 - nI k ≤ -9 := by decide
theorem wdK_b {tb : Nat → Nat} {n q k : Nat} (h : wdK tb n q = some k) : k < 8 ∧ ∃ t, t < 18 ∧ isW (wT (t + 1)) tb n q = true := by
  unfold wdK at h
  by_cases c0 : isW (wT 6) tb n q = true
  · rw [if_pos c0] at h; cases h; exact ⟨by omega, 5, by omega, c0⟩
  rw [if_neg c0] at h
  by_cases c1 : isW (wT 7) tb n q = true
  · rw [if_pos c1] at h; cases h; exact ⟨by omega, 6, by omega, c1⟩
  rw [if_neg c1] at h
  by_cases c2 : isW (wT 8) tb n q = true
  · rw [if_pos c2] at h; cases h; exact ⟨by omega, 7, by omega, c2⟩
  rw [if_neg c2] at h
  by_cases c3 : isW (wT 2) tb n q = true
  · rw [if_pos c3] at h; cases h; exact ⟨by omega, 1, by omega, c3⟩
  rw [if_neg c3] at h
  by_cases c4 : isW (wT 9) tb n q = true
  · rw [if_pos c4] at h; cases h; exact ⟨by omega, 8, by omega, c4⟩
  rw [if_neg c4] at h
  by_cases c5 : isW (wT 10) tb n q = true
  · rw [if_pos c5] at h; cases h; exact ⟨by omega, 9, by omega, c5⟩
  rw [if_neg c5] at h
  by_cases c6 : isW (wT 11) tb n q = true
  · rw [if_pos c6] at h; cases h; exact ⟨by omega, 10, by omega, c6⟩
  rw [if_neg c6] at h
  by_cases c7 : isW (wT 12) tb n q = true
  · rw [if_pos c7] at h; cases h; exact ⟨by omega, 11, by omega, c7⟩
  rw [if_neg c7] at h; cases h
theorem isW_b {tb : Nat → Nat} {n q t : Nat} (hq : q ≤ n) (ht : t < 18) (h : isW (wT (t + 1)) tb n q = true) : q + 1 ≤ weT tb n q ∧ weT tb n q ≤ n := by
  unfold isW at h
  rw [Bool.and_eq_true, decide_eq_true_eq, decide_eq_true_eq] at h
  have := (wT_ok t ht).1
  have := (we_b (tb := tb) hq).2.1
  omega
theorem gd_pair {tb : Nat → Nat} {n o q t : Nat} {rec : Nat → Nat → TRs LwP} {c : Int32} {B : Nat} (hq : q ≤ n) (ht : t < 18) (hw : isW (wT (t + 1)) tb n q = true) (hc : -15 ≤ c ∧ c ≤ -9) (hr : o < 6 → ∀ p, p ≤ n → GD B p n (rec (o + 1) p)) (ho : o ≤ 6) : GD (B + 1) q n (lPair tb n rec o c q) := by
  unfold lPair
  by_cases c6 : o = 6
  · rw [if_pos c6]; trivial
  rw [if_neg c6]
  have hw1 := isW_b hq ht hw
  cases o1 : tkS 91 tb n (weT tb n q) with
  | inl e => trivial
  | inr p1 =>
    have b1 := tkS_b hw1.2 o1
    have g1 := hr (by omega) p1 b1.2
    show GD (B + 1) q n (bnd (rec (o + 1) p1) _)
    cases o2 : rec (o + 1) p1 with
    | inl e => trivial
    | inr a =>
      rw [o2] at g1
      obtain ⟨a1, a2, a3, a4⟩ := g1
      show GD (B + 1) q n (bnd (tkS 44 tb n a.2) _)
      cases o3 : tkS 44 tb n a.2 with
      | inl e => trivial
      | inr p3 =>
        have b3 := tkS_b a3 o3
        have g2 := hr (by omega) p3 b3.2
        show GD (B + 1) q n (bnd (rec (o + 1) p3) _)
        cases o4 : rec (o + 1) p3 with
        | inl e => trivial
        | inr b =>
          rw [o4] at g2
          obtain ⟨d1, d2, d3, d4⟩ := g2
          show GD (B + 1) q n (bnd (tkS 93 tb n b.2) _)
          cases o5 : tkS 93 tb n b.2 with
          | inl e => trivial
          | inr p5 =>
            have b5 := tkS_b d3 o5
            refine ⟨?_, ?_, b5.2, okc2 a4 d4 hc.1 hc.2 (by omega) (by omega)⟩
            · show 1 ≤ (a.1 ++ b.1 ++ [c]).length
              simp only [List.length_append, List.length_cons, List.length_nil]
              omega
            · show (a.1 ++ b.1 ++ [c]).length + q ≤ p5
              simp only [List.length_append, List.length_cons, List.length_nil]
              omega
theorem gd_br {tb : Nat → Nat} {n o q : Nat} {rec : Nat → Nat → TRs LwP} {B : Nat} (hq : q < n) (hr : o < 6 → ∀ p, p ≤ n → GD B p n (rec (o + 1) p)) (ho : o ≤ 6) : GD B q n (lBr tb n rec o q) := by
  unfold lBr
  by_cases c6 : o = 6
  · rw [if_pos c6]; trivial
  rw [if_neg c6]
  have g1 := hr (by omega) (q + 1) (by omega)
  cases o2 : rec (o + 1) (q + 1) with
  | inl e => trivial
  | inr a =>
    rw [o2] at g1
    obtain ⟨a1, a2, a3, a4⟩ := g1
    show GD B q n (bnd (tkS 41 tb n a.2) _)
    cases o3 : tkS 41 tb n a.2 with
    | inl e => trivial
    | inr p3 =>
      have b3 := tkS_b a3 o3
      exact ⟨a1, by show a.1.length + q ≤ p3; omega, b3.2, a4⟩
theorem GD.mono {a b p p' n : Nat} {o : TRs LwP} (h : GD a p n o) (hab : a ≤ b) (hp : p' ≤ p) : GD b p' n o := by
  cases o with
  | inl e => trivial
  | inr x => exact ⟨h.1, by have := h.2.1; show x.1.length + p' ≤ x.2; omega, h.2.2.1, h.2.2.2.mono hab⟩
theorem tkN_b2 {tb : Nat → Nat} {n p lo hi v q : Nat} (hp : p ≤ n) (h : tkN tb n p lo hi = .inr (v, q)) : p + 1 ≤ q := by
  unfold tkN at h
  by_cases c1 : skT tb n p < n ∧ dgP (tb (skT tb n p)) = true
  · rw [if_pos c1] at h
    by_cases c2 : lo ≤ vlT tb n (skT tb n p) ∧ vlT tb n (skT tb n p) < hi
    · rw [if_pos c2] at h
      cases h
      have h1 := sk_b (tb := tb) hp
      have h2 : neT tb n (skT tb n p) = nxE dgP tb n (skT tb n p + 1) := nxE_s c1.1 c1.2
      have h3 := (nxE_b (P := dgP) (tb := tb) (n := n) (n - (skT tb n p + 1)) (skT tb n p + 1) (by omega)).1
      omega
    · rw [if_neg c2] at h; cases h
  · rw [if_neg c1] at h; cases h
theorem gd_one {tb : Nat → Nat} {n o p : Nat} {rec : Nat → Nat → TRs LwP} {B : Nat} (hp : p ≤ n) (hr : o < 6 → ∀ p, p ≤ n → GD B p n (rec (o + 1) p)) (ho : o ≤ 6) (hB : 1 ≤ B) : GD (B + 1) p n (lOne tb n rec o p) := by
  have hb := sk_b (tb := tb) hp
  unfold lOne
  by_cases c1 : isW (wT 13) tb n (skT tb n p) = true
  · rw [if_pos c1]; exact (gd_pair hb.2 (t := 12) (by omega) c1 ⟨by decide, by decide⟩ hr ho).mono (Nat.le_refl _) hb.1
  rw [if_neg c1]
  by_cases c2 : isW (wT 14) tb n (skT tb n p) = true
  · rw [if_pos c2]; exact (gd_pair hb.2 (t := 13) (by omega) c2 ⟨by decide, by decide⟩ hr ho).mono (Nat.le_refl _) hb.1
  rw [if_neg c2]
  by_cases c3 : skT tb n p < n ∧ tb (skT tb n p) = 40
  · rw [if_pos c3]; exact (gd_br c3.1 hr ho).mono (by omega) hb.1
  rw [if_neg c3]
  cases ok : wdK tb n (skT tb n p) with
  | some k =>
    obtain ⟨h1, t, h2, h3⟩ := wdK_b ok
    have h4 := isW_b hb.2 h2 h3
    obtain ⟨k1, k2, k3⟩ := kc_b k h1
    exact ⟨Nat.le_refl _, by show 1 + p ≤ weT tb n (skT tb n p); omega, h4.2, (okc1 k1 k2 k3).mono (by omega)⟩
  | none =>
    show GD (B + 1) p n (bnd (tkN tb n p 0 1000) _)
    cases o2 : tkN tb n p 0 1000 with
    | inl e => trivial
    | inr x =>
      obtain ⟨v, q⟩ := x
      have h1 := tkN_b o2
      have h2 := tkN_b2 hp o2
      have h3 : (-15 : Int32) ≤ nI v := Int32.le_trans (by decide) ((nI_leI (a := 0) (by omega) (by omega)).mpr (Nat.zero_le v))
      have h4 : nI v ≤ 999 := (nI_leI (b := 999) (by omega) (by omega)).mpr (by omega)
      have h5 : ¬ nI v ≤ -9 := fun z => absurd (Int32.le_trans ((nI_leI (a := 0) (by omega) (by omega)).mpr (Nat.zero_le v)) z) (by decide)
      exact ⟨Nat.le_refl _, by show 1 + p ≤ q; omega, h1.2.2.1, (okc1 h3 h4 h5).mono (by omega)⟩
theorem gd_lp {tb : Nat → Nat} {n B p0 : Nat} {op : Nat → Option Int32} {one : Nat → TRs LwP} (hop : ∀ q c, op q = some c → q < n ∧ -15 ≤ c ∧ c ≤ -9) (h1 : ∀ p, p ≤ n → GD B p n (one p)) : ∀ (k : Nat) (C : List Int32) (p : Nat), p ≤ n → 1 ≤ C.length → C.length + p0 ≤ p → OKC C (B + 1) → GD (B + 1) p0 n (lLp tb n op one k C p) := by
  intro k
  induction k with
  | zero => intro C p hp a1 a2 a3; exact ⟨a1, a2, hp, a3⟩
  | succ k ih =>
    intro C p hp a1 a2 a3
    have hb := sk_b (tb := tb) hp
    rw [lLp]
    cases o : op (skT tb n p) with
    | none => exact ⟨a1, by show C.length + p0 ≤ skT tb n p; omega, hb.2, a3⟩
    | some c =>
      obtain ⟨c1, c2, c3⟩ := hop _ _ o
      have g := h1 (skT tb n p + 1) (by omega)
      show GD (B + 1) p0 n (bnd (one (skT tb n p + 1)) _)
      cases o2 : one (skT tb n p + 1) with
      | inl e => trivial
      | inr d =>
        rw [o2] at g
        obtain ⟨g1, g2, g3, g4⟩ := g
        refine ih (C ++ d.1 ++ [c]) d.2 g3 (by simp only [List.length_append, List.length_cons, List.length_nil]; omega) ?_ (okc2 a3 g4 c2 c3 (Nat.le_refl _) (Nat.le_refl _))
        simp only [List.length_append, List.length_cons, List.length_nil]
        omega
theorem gd_many {tb : Nat → Nat} {n B p : Nat} {op : Nat → Option Int32} {one : Nat → TRs LwP} (hop : ∀ q c, op q = some c → q < n ∧ -15 ≤ c ∧ c ≤ -9) (h1 : ∀ p, p ≤ n → GD B p n (one p)) (hp : p ≤ n) : GD (B + 1) p n (lMany tb n op one p) := by
  unfold lMany
  have g := h1 p hp
  cases o2 : one p with
  | inl e => trivial
  | inr d =>
    rw [o2] at g
    obtain ⟨g1, g2, g3, g4⟩ := g
    exact gd_lp hop h1 _ d.1 d.2 g3 g1 g2 (g4.mono (by omega))
theorem hopP {tb : Nat → Nat} {n : Nat} : ∀ q c, opP tb n q = some c → q < n ∧ -15 ≤ c ∧ c ≤ -9 := by
  intro q c h
  unfold opP at h
  by_cases c1 : q < n ∧ tb q = 42
  · rw [if_pos c1] at h; cases h; exact ⟨c1.1, by decide, by decide⟩
  rw [if_neg c1] at h
  by_cases c2 : q < n ∧ tb q = 47
  · rw [if_pos c2] at h; cases h; exact ⟨c2.1, by decide, by decide⟩
  rw [if_neg c2] at h
  by_cases c3 : q < n ∧ tb q = 37
  · rw [if_pos c3] at h; cases h; exact ⟨c3.1, by decide, by decide⟩
  rw [if_neg c3] at h; cases h
theorem hopS {tb : Nat → Nat} {n : Nat} : ∀ q c, opS2 tb n q = some c → q < n ∧ -15 ≤ c ∧ c ≤ -9 := by
  intro q c h
  unfold opS2 at h
  by_cases c1 : q < n ∧ tb q = 43
  · rw [if_pos c1] at h; cases h; exact ⟨c1.1, by decide, by decide⟩
  rw [if_neg c1] at h
  by_cases c2 : q < n ∧ tb q = 45
  · rw [if_pos c2] at h; cases h; exact ⟨c2.1, by decide, by decide⟩
  rw [if_neg c2] at h; cases h
theorem gd_sum {tb : Nat → Nat} {n : Nat} : ∀ (k o p : Nat), o ≤ 6 → 6 < o + k → p ≤ n → GD (4 + 3 * (6 - o)) p n (lSum tb n k o p) := by
  intro k
  induction k with
  | zero => intro o p h1 h2; omega
  | succ k ih =>
    intro o p ho hk hp
    rw [lSum]
    unfold lSm
    have hone : ∀ p, p ≤ n → GD (2 + 3 * (6 - o)) p n (lOne tb n (lSum tb n k) o p) := by
      intro p hp
      by_cases c6 : o = 6
      · exact (gd_one (B := 1) hp (fun z => by omega) ho (Nat.le_refl _)).mono (by omega) (Nat.le_refl _)
      · exact (gd_one (B := 4 + 3 * (6 - (o + 1))) hp (fun _ p hp => ih (o + 1) p (by omega) (by omega) hp) ho (by omega)).mono (by omega) (Nat.le_refl _)
    have hprd : ∀ p, p ≤ n → GD (3 + 3 * (6 - o)) p n (lPrd tb n (lSum tb n k) o p) := fun p hp => (gd_many hopP hone hp).mono (by omega) (Nat.le_refl _)
    exact (gd_many hopS hprd hp).mono (by omega) (Nat.le_refl _)
