/-! THE MAKING: two states are the same -/
def eqMV : MV → MV → Bool
  | .inl x, .inl y => decide (x = y)
  | .inr none, .inr none => true
  | .inr (some x), .inr (some y) => Nat.beq x y
  | _, _ => false
theorem eqMV_ok : ∀ {x y : MV}, eqMV x y = true → x = y
  | .inl x, .inl y, h => by rw [of_decide_eq_true h]
  | .inr none, .inr none, h => rfl
  | .inr (some x), .inr (some y), h => by rw [Nat.eq_of_beq_eq_true h]
  | .inl _, .inr _, h => by cases h
  | .inr none, .inl _, h => by cases h
  | .inr (some _), .inl _, h => by cases h
  | .inr none, .inr (some _), h => by cases h
  | .inr (some _), .inr none, h => by cases h
def eqLs {α : Type} (f : α → α → Bool) : List α → List α → Bool
  | [], [] => true
  | x :: r, y :: s => f x y && eqLs f r s
  | _, _ => false
theorem eqLs_ok {α : Type} {f : α → α → Bool} (hf : ∀ {x y}, f x y = true → x = y) : ∀ {r s : List α}, eqLs f r s = true → r = s
  | [], [], _ => rfl
  | x :: r, y :: s, h => by
    have h := Bool.and_eq_true_iff.mp h
    rw [hf h.1, eqLs_ok hf h.2]
  | [], _ :: _, h => by cases h
  | _ :: _, [], h => by cases h
def eqXs (x y : Nat × Int32) : Bool := Nat.beq x.1 y.1 && decide (x.2 = y.2)
theorem eqXs_ok {x y : Nat × Int32} (h : eqXs x y = true) : x = y := by
  have h := Bool.and_eq_true_iff.mp h
  exact Prod.ext (Nat.eq_of_beq_eq_true h.1) (of_decide_eq_true h.2)
def eqON : Option Nat → Option Nat → Bool
  | none, none => true
  | some x, some y => Nat.beq x y
  | _, _ => false
theorem eqON_ok : ∀ {x y : Option Nat}, eqON x y = true → x = y
  | none, none, _ => rfl
  | some x, some y, h => by rw [Nat.eq_of_beq_eq_true h]
  | none, some _, h => by cases h
  | some _, none, h => by cases h
def eqME : ME → ME → Bool
  | .inl (c, f), .inl (d, g) => Nat.beq c d && eqLs eqMV f g
  | .inr (.inl (k, n, x)), .inr (.inl (l, m, y)) => Nat.beq k l && Nat.beq n m && eqLs eqXs x y
  | .inr (.inr (k, n, x)), .inr (.inr (l, m, y)) => Nat.beq k l && Nat.beq n m && eqLs eqON x y
  | _, _ => false
theorem eqME_ok : ∀ {x y : ME}, eqME x y = true → x = y
  | .inl (c, f), .inl (d, g), h => by
    have h := Bool.and_eq_true_iff.mp h
    rw [Nat.eq_of_beq_eq_true h.1, eqLs_ok eqMV_ok h.2]
  | .inr (.inl (k, n, x)), .inr (.inl (l, m, y)), h => by
    have h := Bool.and_eq_true_iff.mp h
    have h1 := Bool.and_eq_true_iff.mp h.1
    rw [Nat.eq_of_beq_eq_true h1.1, Nat.eq_of_beq_eq_true h1.2, eqLs_ok eqXs_ok h.2]
  | .inr (.inr (k, n, x)), .inr (.inr (l, m, y)), h => by
    have h := Bool.and_eq_true_iff.mp h
    have h1 := Bool.and_eq_true_iff.mp h.1
    rw [Nat.eq_of_beq_eq_true h1.1, Nat.eq_of_beq_eq_true h1.2, eqLs_ok eqON_ok h.2]
  | .inl _, .inr (.inl _), h => by cases h
  | .inl _, .inr (.inr _), h => by cases h
  | .inr (.inl _), .inl _, h => by cases h
  | .inr (.inr _), .inl _, h => by cases h
  | .inr (.inl _), .inr (.inr _), h => by cases h
  | .inr (.inr _), .inr (.inl _), h => by cases h
def eqKS (x : Option KS) (y : KS) : Bool := match x with
  | some x => Nat.beq x.1 y.1 && decide (x.2.1 = y.2.1) && decide (x.2.2.1 = y.2.2.1) && eqLs eqME x.2.2.2.1 y.2.2.2.1 && Nat.beq x.2.2.2.2.1 y.2.2.2.2.1 && Nat.beq x.2.2.2.2.2 y.2.2.2.2.2
  | none => false
theorem eqKS_ok {x : Option KS} {y : KS} (h : eqKS x y = true) : x = some y := by
  match x, h with
  | some (a, b, c, d, e, f), h =>
    obtain ⟨a', b', c', d', e', f'⟩ := y
    simp only [eqKS, Bool.and_eq_true, decide_eq_true_eq] at h
    obtain ⟨⟨⟨⟨⟨h1, h2⟩, h3⟩, h4⟩, h5⟩, h6⟩ := h
    rw [Nat.eq_of_beq_eq_true h1, h2, h3, eqLs_ok eqME_ok h4, Nat.eq_of_beq_eq_true h5, Nat.eq_of_beq_eq_true h6]
  | none, h => cases h
