/-! MATHEMATICS 52: works as such: a program by its depth, its rows on both sides, its text -/
/-- a step: a leaf (kind, first, door), or again: how often, and what -/
abbrev StpW (α : Type) : Type := (Nat × Nat × Nat) ⊕ (Nat × α)
/-- a row of steps, n deep -/
def PT : Nat → Type
  | 0 => Empty
  | n + 1 => List (StpW (PT n))
def szL {α : Type} (c : Nat) (f : α → Nat) : List (StpW α) → Nat
  | [] => 0
  | .inl _ :: r => 1 + szL c f r
  | .inr x :: r => c + f x.2 + szL c f r
def szP (c : Nat) : (n : Nat) → PT n → Nat
  | 0, _ => 0
  | n + 1, l => szL c (szP c n) l
/-- a program that can stand in a museum -/
def PWL {α : Type} (u : MU) (f : α → Prop) : List (StpW α) → Prop
  | [] => True
  | .inl x :: r => x.1 ≤ 3 ∧ (x.1 = 0 → x.2.1 < uT u) ∧ (x.1 < 3 → x.2.2 < uM u) ∧ PWL u f r
  | .inr x :: r => x.1 ≤ 30 ∧ f x.2 ∧ PWL u f r
def PWP (u : MU) : (n : Nat) → PT n → Prop
  | 0, _ => True
  | n + 1, l => PWL u (PWP u n) l
/-- the reference's rows from s on -/
def RAL {α : Type} (sz : α → Nat) (f : α → Nat → Mem → Prop) : List (StpW α) → Nat → Mem → Prop
  | [], _, _ => True
  | .inl x :: r, s, M => rd M (398 + s) 0 = nI x.1 ∧ (x.1 = 0 → rd M (398 + s) 1 = nI x.2.1) ∧ (x.1 < 3 → rd M (398 + s) 2 = nI x.2.2) ∧ rd M (398 + s) 3 = nI (s + 1) ∧ RAL sz f r (s + 1) M
  | .inr x :: r, s, M => rd M (398 + s) 0 = 4 ∧ rd M (398 + s) 1 = nI x.1 ∧ rd M (398 + s) 3 = nI (s + 1 + sz x.2) ∧ f x.2 (s + 1) M ∧ RAL sz f r (s + 1 + sz x.2) M
def RAP : (n : Nat) → PT n → Nat → Mem → Prop
  | 0, _, _, _ => True
  | n + 1, l, s, M => RAL (szP 1 n) (RAP n) l s M
/-- the class's rows from i on -/
def CAL {α : Type} (sz : α → Nat) (f : α → Nat → Mem → Prop) : List (StpW α) → Nat → Mem → Prop
  | [], _, _ => True
  | .inl x :: r, i, M => rd M 1588 i = nI (x.1 + 1) ∧ (x.1 = 0 → rd M 1589 i = nI x.2.1 ∧ rd M 1590 i = nI x.2.2) ∧ (x.1 = 1 ∨ x.1 = 2 → rd M 1589 i = nI x.2.2) ∧ CAL sz f r (i + 1) M
  | .inr x :: r, i, M => rd M 1588 i = 5 ∧ rd M 1589 i = nI x.1 ∧ rd M 1590 i = nI (i + 2 + sz x.2) ∧ f x.2 (i + 1) M ∧ rd M 1588 (i + 1 + sz x.2) = 6 ∧ rd M 1589 (i + 1 + sz x.2) = nI i ∧ CAL sz f r (i + 2 + sz x.2) M
def CAP : (n : Nat) → PT n → Nat → Mem → Prop
  | 0, _, _, _ => True
  | n + 1, l, i, M => CAL (szP 2 n) (CAP n) l i M
theorem RAL.g {α : Type} {sz : α → Nat} {f : α → Nat → Mem → Prop} {M M' : Mem} (hf : ∀ a s, f a s M → (∀ x j, s ≤ x → x < s + sz a → rd M' (398 + x) j = rd M (398 + x) j) → f a s M') : ∀ (l : List (StpW α)) (s : Nat), RAL sz f l s M → (∀ x j, s ≤ x → x < s + szL 1 sz l → rd M' (398 + x) j = rd M (398 + x) j) → RAL sz f l s M' := by
  intro l
  induction l with
  | nil => intro s _ _; trivial
  | cons y r ih =>
    intro s h hk
    cases y with
    | inl x =>
      obtain ⟨h1, h2, h3, h4, h5⟩ := h
      have e : szL 1 sz (.inl x :: r) = 1 + szL 1 sz r := rfl
      rw [e] at hk
      have g : ∀ j, rd M' (398 + s) j = rd M (398 + s) j := fun j => hk s j (Nat.le_refl _) (by omega)
      exact ⟨by rw [g]; exact h1, fun z => by rw [g]; exact h2 z, fun z => by rw [g]; exact h3 z, by rw [g]; exact h4, ih (s + 1) h5 (fun x j a1 a2 => hk x j (by omega) (by omega))⟩
    | inr x =>
      obtain ⟨h1, h2, h3, h4, h5⟩ := h
      have e : szL 1 sz (.inr x :: r) = 1 + sz x.2 + szL 1 sz r := rfl
      rw [e] at hk
      have g : ∀ j, rd M' (398 + s) j = rd M (398 + s) j := fun j => hk s j (Nat.le_refl _) (by omega)
      exact ⟨by rw [g]; exact h1, by rw [g]; exact h2, by rw [g]; exact h3, hf x.2 (s + 1) h4 (fun x j a1 a2 => hk x j (by omega) (by omega)), ih (s + 1 + sz x.2) h5 (fun x j a1 a2 => hk x j (by omega) (by omega))⟩
theorem RAP.g {M M' : Mem} : ∀ (n : Nat) (l : PT n) (s : Nat), RAP n l s M → (∀ x j, s ≤ x → x < s + szP 1 n l → rd M' (398 + x) j = rd M (398 + x) j) → RAP n l s M' := by
  intro n
  induction n with
  | zero => intro l s _ _; trivial
  | succ n ih => intro l s h hk; exact RAL.g (fun a s => ih a s) l s h hk
theorem CAL.g {α : Type} {sz : α → Nat} {f : α → Nat → Mem → Prop} {M M' : Mem} (hf : ∀ a i, f a i M → (∀ x, i ≤ x → x < i + sz a → rd M' 1588 x = rd M 1588 x ∧ rd M' 1589 x = rd M 1589 x ∧ rd M' 1590 x = rd M 1590 x) → f a i M') : ∀ (l : List (StpW α)) (i : Nat), CAL sz f l i M → (∀ x, i ≤ x → x < i + szL 2 sz l → rd M' 1588 x = rd M 1588 x ∧ rd M' 1589 x = rd M 1589 x ∧ rd M' 1590 x = rd M 1590 x) → CAL sz f l i M' := by
  intro l
  induction l with
  | nil => intro i _ _; trivial
  | cons y r ih =>
    intro i h hk
    cases y with
    | inl x =>
      obtain ⟨h1, h2, h3, h4⟩ := h
      have e : szL 2 sz (.inl x :: r) = 1 + szL 2 sz r := rfl
      rw [e] at hk
      obtain ⟨g1, g2, g3⟩ := hk i (Nat.le_refl _) (by omega)
      exact ⟨by rw [g1]; exact h1, fun z => by rw [g2, g3]; exact h2 z, fun z => by rw [g2]; exact h3 z, ih (i + 1) h4 (fun x a1 a2 => hk x (by omega) (by omega))⟩
    | inr x =>
      obtain ⟨h1, h2, h3, h4, h5, h6, h7⟩ := h
      have e : szL 2 sz (.inr x :: r) = 2 + sz x.2 + szL 2 sz r := rfl
      rw [e] at hk
      obtain ⟨g1, g2, g3⟩ := hk i (Nat.le_refl _) (by omega)
      obtain ⟨f1, f2, f3⟩ := hk (i + 1 + sz x.2) (by omega) (by omega)
      exact ⟨by rw [g1]; exact h1, by rw [g2]; exact h2, by rw [g3]; exact h3, hf x.2 (i + 1) h4 (fun x a1 a2 => hk x (by omega) (by omega)), by rw [f1]; exact h5, by rw [f2]; exact h6, ih (i + 2 + sz x.2) h7 (fun x a1 a2 => hk x (by omega) (by omega))⟩
theorem CAP.g {M M' : Mem} : ∀ (n : Nat) (l : PT n) (i : Nat), CAP n l i M → (∀ x, i ≤ x → x < i + szP 2 n l → rd M' 1588 x = rd M 1588 x ∧ rd M' 1589 x = rd M 1589 x ∧ rd M' 1590 x = rd M 1590 x) → CAP n l i M' := by
  intro n
  induction n with
  | zero => intro l i _ _; trivial
  | succ n ih => intro l i h hk; exact CAL.g (fun a i => ih a i) l i h hk
/-! the text -/
/-- which word: 0 go, 1 bar, 2 unbar, 3 hour, 4 again -/
def stK (tb : Nat → Nat) (n q : Nat) : Option Nat := if isW (wT 15) tb n q = true then some 0 else if isW (wT 16) tb n q = true then some 1 else if isW (wT 17) tb n q = true then some 2 else if isW (wT 7) tb n q = true then some 3 else if isW (wT 18) tb n q = true then some 4 else none
/-- one step that begins at q, with its semicolon -/
def wS1 {α : Type} (tb : Nat → Nat) (n : Nat) (u : MU) (rec : Nat → TRs (α × Nat)) (o q : Nat) : TRs (StpW α × Nat) := match stK tb n q with
  | none => .inl (1, q)
  | some k =>
    if k = 0 then bnd (tkN tb n (weT tb n q) 0 (uT u)) (fun a => bnd (tkN tb n a.2 0 (uM u)) (fun b => bnd (tkS 59 tb n b.2) (fun p => .inr (.inl (0, a.1, b.1), p))))
    else if k = 3 then bnd (tkS 59 tb n (weT tb n q)) (fun p => .inr (.inl (3, 0, 0), p))
    else if k = 4 then (if o = 6 then .inl (3, q) else bnd (tkN tb n (weT tb n q) 0 31) (fun a => bnd (tkS 91 tb n a.2) (fun p => bnd (rec p) (fun b => bnd (tkS 59 tb n b.2) (fun p2 => .inr (.inr (a.1, b.1), p2))))))
    else bnd (tkN tb n (weT tb n q) 0 (uM u)) (fun b => bnd (tkS 59 tb n b.2) (fun p => .inr (.inl (k, 0, b.1), p)))
/-- a row of steps to its end: the text's end (o = 0), or the bracket, which is taken -/
def wSq {α : Type} (tb : Nat → Nat) (n : Nat) (u : MU) (rec : Nat → TRs (α × Nat)) (o : Nat) : Nat → Nat → TRs (List (StpW α) × Nat)
  | 0, p => .inr ([], p)
  | f + 1, p =>
    if o = 0 ∧ ¬ skT tb n p < n then .inr ([], skT tb n p)
    else if ¬ o = 0 ∧ (skT tb n p < n ∧ tb (skT tb n p) = 93) then .inr ([], skT tb n p + 1)
    else bnd (wS1 tb n u rec o (skT tb n p)) (fun x => bnd (wSq tb n u rec o f x.2) (fun r => .inr (x.1 :: r.1, r.2)))
def wSt (tb : Nat → Nat) (n : Nat) (u : MU) : (k : Nat) → Nat → Nat → TRs (PT k × Nat)
  | 0, _, p => .inl (3, p)
  | k + 1, o, p => wSq tb n u (wSt tb n u k (o + 1)) o (n + 1 - p) p
/-- a work's text: at most six deep -/
def wkP (tb : Nat → Nat) (n : Nat) (u : MU) : TRs (PT 7 × Nat) := wSt tb n u 7 0 0
