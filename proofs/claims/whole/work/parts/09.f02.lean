def F_12_product_69 (rF : Mem → Mem) (k4 : Mem → Mem) (M : Mem) : Mem := k4 M
def P_12_product_69 (rF : Mem → Mem) (rP : Mem → Prop) (pk4 : Mem → Prop) (M : Mem) : Prop := (pk4 M)
theorem T_12_product_69 {g : Gl} (rF : Mem → Mem) (rP : Mem → Prop) (k4 : Mem → Mem) (pk4 : Mem → Prop) {dr : Nat} (rT : ∀  (M : Mem), rP M → Ms g dr m12_sum [.ref 0] M (none) ((rF M))) (ih4 : ∀  (M : Mem), pk4 M → Rn g (dr + 7) m12_product 4 [some (.ref 0), none] [] M (none) ((k4 M))) (M : Mem) (hp : P_12_product_69 rF rP pk4 M) : Rn g (dr + 7) m12_product 69 [some (.ref 0), none] [] M (none) ((F_12_product_69 rF k4 M)) := by
  rw [F_12_product_69]
  rw [P_12_product_69] at hp
  refine b12_product_69  ?_
  exact ih4 M hp
def F_12_product_63 (rF : Mem → Mem) (k4 : Mem → Mem) (x1 : Int32) (M : Mem) : Mem := F_12_product_69 rF k4 (F_12_notes_0 x1 0 M)
def P_12_product_63 (rF : Mem → Mem) (rP : Mem → Prop) (pk4 : Mem → Prop) (x1 : Int32) (M : Mem) : Prop := ((P_12_notes_0 x1 0 M) ∧ (P_12_product_69 rF rP pk4 (F_12_notes_0 x1 0 M)))
theorem T_12_product_63 {g : Gl} (rF : Mem → Mem) (rP : Mem → Prop) (k4 : Mem → Mem) (pk4 : Mem → Prop) {dr : Nat} (rT : ∀  (M : Mem), rP M → Ms g dr m12_sum [.ref 0] M (none) ((rF M))) (ih4 : ∀  (M : Mem), pk4 M → Rn g (dr + 7) m12_product 4 [some (.ref 0), none] [] M (none) ((k4 M))) (x1 : Int32) (M : Mem) (hp : P_12_product_63 rF rP pk4 x1 M) : Rn g (dr + 7) m12_product 63 [some (.ref 0), some (.int x1)] [] M (none) ((F_12_product_63 rF k4 x1 M)) := by
  rw [F_12_product_63]
  rw [P_12_product_63] at hp
  obtain ⟨hc, hp⟩ := hp
  refine b12_product_63  (C_12_notes x1 0 M hc) (by omega) ?_
  exact T_12_product_69 rF rP k4 pk4 rT ih4 (F_12_notes_0 x1 0 M) hp
def F_12_product_52 (rF : Mem → Mem) (k4 : Mem → Mem) (xs0 : Int32) (M : Mem) : Mem := if xs0 = (-1) then (M) else (F_12_product_63 rF k4 xs0 (F_12_one_0 rF M))
def P_12_product_52 (rF : Mem → Mem) (rP : Mem → Prop) (pk4 : Mem → Prop) (xs0 : Int32) (M : Mem) : Prop := ((¬ xs0 = (-1) → ((P_12_one_0 rF rP M) ∧ (P_12_product_63 rF rP pk4 xs0 (F_12_one_0 rF M)))) ∧ (xs0 = (-1) → True))
theorem T_12_product_52 {g : Gl} (rF : Mem → Mem) (rP : Mem → Prop) (k4 : Mem → Mem) (pk4 : Mem → Prop) {dr : Nat} (rT : ∀  (M : Mem), rP M → Ms g dr m12_sum [.ref 0] M (none) ((rF M))) (ih4 : ∀  (M : Mem), pk4 M → Rn g (dr + 7) m12_product 4 [some (.ref 0), none] [] M (none) ((k4 M))) (xs0 : Int32) (M : Mem) (hp : P_12_product_52 rF rP pk4 xs0 M) : Rn g (dr + 7) m12_product 52 [some (.ref 0), none] [.int xs0] M (none) ((F_12_product_52 rF k4 xs0 M)) := by
  rw [F_12_product_52]
  rw [P_12_product_52] at hp
  refine b12_product_52  (fun h => ?_) (fun h => ?_)
  · rw [if_neg h]
    have hp := hp.1 h
    obtain ⟨hc, hp⟩ := hp
    refine b12_product_59  (C_12_one rF rP rT M hc) (by omega) ?_
    exact T_12_product_63 rF rP k4 pk4 rT ih4 xs0 (F_12_one_0 rF M) hp
  · rw [if_pos h]
    exact b12_product_58  rfl rfl
def F_12_product_43 (rF : Mem → Mem) (k4 : Mem → Mem) (xs0 : Int32) (M : Mem) : Mem := if xs0 = 0 then (F_12_product_52 rF k4 (-1) M) else (F_12_product_52 rF k4 6 M)
def P_12_product_43 (rF : Mem → Mem) (rP : Mem → Prop) (pk4 : Mem → Prop) (xs0 : Int32) (M : Mem) : Prop := ((xs0 = 0 → (P_12_product_52 rF rP pk4 (-1) M)) ∧ (¬ xs0 = 0 → (P_12_product_52 rF rP pk4 6 M)))
theorem T_12_product_43 {g : Gl} (rF : Mem → Mem) (rP : Mem → Prop) (k4 : Mem → Mem) (pk4 : Mem → Prop) {dr : Nat} (rT : ∀  (M : Mem), rP M → Ms g dr m12_sum [.ref 0] M (none) ((rF M))) (ih4 : ∀  (M : Mem), pk4 M → Rn g (dr + 7) m12_product 4 [some (.ref 0), none] [] M (none) ((k4 M))) (xs0 : Int32) (M : Mem) (hp : P_12_product_43 rF rP pk4 xs0 M) : Rn g (dr + 7) m12_product 43 [some (.ref 0), none] [.int xs0] M (none) ((F_12_product_43 rF k4 xs0 M)) := by
  rw [F_12_product_43]
  rw [P_12_product_43] at hp
  refine b12_product_43  (fun h => ?_) (fun h => ?_)
  · rw [if_pos h]
    have hp := hp.1 h
    refine b12_product_51  ?_
    exact T_12_product_52 rF rP k4 pk4 rT ih4 (-1) M hp
  · rw [if_neg h]
    have hp := hp.2 h
    refine b12_product_46  ?_
    exact T_12_product_52 rF rP k4 pk4 rT ih4 6 M hp
def F_12_product_30 (rF : Mem → Mem) (k4 : Mem → Mem) (xs0 : Int32) (M : Mem) : Mem := if xs0 = 0 then (F_12_product_43 rF k4 ((F_12_takesSign_0 37 M).1) ((F_12_takesSign_0 37 M).2)) else (F_12_product_52 rF k4 5 M)
def P_12_product_30 (rF : Mem → Mem) (rP : Mem → Prop) (pk4 : Mem → Prop) (xs0 : Int32) (M : Mem) : Prop := ((xs0 = 0 → ((P_12_takesSign_0 37 M) ∧ (P_12_product_43 rF rP pk4 ((F_12_takesSign_0 37 M).1) ((F_12_takesSign_0 37 M).2)))) ∧ (¬ xs0 = 0 → (P_12_product_52 rF rP pk4 5 M)))
theorem T_12_product_30 {g : Gl} (rF : Mem → Mem) (rP : Mem → Prop) (k4 : Mem → Mem) (pk4 : Mem → Prop) {dr : Nat} (rT : ∀  (M : Mem), rP M → Ms g dr m12_sum [.ref 0] M (none) ((rF M))) (ih4 : ∀  (M : Mem), pk4 M → Rn g (dr + 7) m12_product 4 [some (.ref 0), none] [] M (none) ((k4 M))) (xs0 : Int32) (M : Mem) (hp : P_12_product_30 rF rP pk4 xs0 M) : Rn g (dr + 7) m12_product 30 [some (.ref 0), none] [.int xs0] M (none) ((F_12_product_30 rF k4 xs0 M)) := by
  rw [F_12_product_30]
  rw [P_12_product_30] at hp
  refine b12_product_30  (fun h => ?_) (fun h => ?_)
  · rw [if_pos h]
    have hp := hp.1 h
    obtain ⟨hc, hp⟩ := hp
    refine b12_product_37  (C_12_takesSign 37 M hc) (by omega) ?_
    exact T_12_product_43 rF rP k4 pk4 rT ih4 ((F_12_takesSign_0 37 M).1) ((F_12_takesSign_0 37 M).2) hp
  · rw [if_neg h]
    have hp := hp.2 h
    refine b12_product_33  ?_
    exact T_12_product_52 rF rP k4 pk4 rT ih4 5 M hp
def F_12_product_17 (rF : Mem → Mem) (k4 : Mem → Mem) (xs0 : Int32) (M : Mem) : Mem := if xs0 = 0 then (F_12_product_30 rF k4 ((F_12_takesSign_0 47 M).1) ((F_12_takesSign_0 47 M).2)) else (F_12_product_52 rF k4 4 M)
def P_12_product_17 (rF : Mem → Mem) (rP : Mem → Prop) (pk4 : Mem → Prop) (xs0 : Int32) (M : Mem) : Prop := ((xs0 = 0 → ((P_12_takesSign_0 47 M) ∧ (P_12_product_30 rF rP pk4 ((F_12_takesSign_0 47 M).1) ((F_12_takesSign_0 47 M).2)))) ∧ (¬ xs0 = 0 → (P_12_product_52 rF rP pk4 4 M)))
theorem T_12_product_17 {g : Gl} (rF : Mem → Mem) (rP : Mem → Prop) (k4 : Mem → Mem) (pk4 : Mem → Prop) {dr : Nat} (rT : ∀  (M : Mem), rP M → Ms g dr m12_sum [.ref 0] M (none) ((rF M))) (ih4 : ∀  (M : Mem), pk4 M → Rn g (dr + 7) m12_product 4 [some (.ref 0), none] [] M (none) ((k4 M))) (xs0 : Int32) (M : Mem) (hp : P_12_product_17 rF rP pk4 xs0 M) : Rn g (dr + 7) m12_product 17 [some (.ref 0), none] [.int xs0] M (none) ((F_12_product_17 rF k4 xs0 M)) := by
  rw [F_12_product_17]
  rw [P_12_product_17] at hp
  refine b12_product_17  (fun h => ?_) (fun h => ?_)
  · rw [if_pos h]
    have hp := hp.1 h
    obtain ⟨hc, hp⟩ := hp
    refine b12_product_24  (C_12_takesSign 47 M hc) (by omega) ?_
    exact T_12_product_30 rF rP k4 pk4 rT ih4 ((F_12_takesSign_0 47 M).1) ((F_12_takesSign_0 47 M).2) hp
  · rw [if_neg h]
    have hp := hp.2 h
    refine b12_product_20  ?_
    exact T_12_product_52 rF rP k4 pk4 rT ih4 4 M hp
def F_12_product_4 (rF : Mem → Mem) : Nat → Mem → Mem
  | 0, M => M
  | n + 1, M => if (rd M 0 5) = 0 then (F_12_product_17 rF (F_12_product_4 rF n) ((F_12_takesSign_0 42 M).1) ((F_12_takesSign_0 42 M).2)) else (M)
def P_12_product_4 (rF : Mem → Mem) (rP : Mem → Prop) : Nat → Mem → Prop
  | 0, _ => False
  | n + 1, M => ((¬ (rd M 0 5) = 0 → True) ∧ ((rd M 0 5) = 0 → ((P_12_takesSign_0 42 M) ∧ (P_12_product_17 rF rP (P_12_product_4 rF rP n) ((F_12_takesSign_0 42 M).1) ((F_12_takesSign_0 42 M).2)))))
theorem T_12_product_4 {g : Gl} (rF : Mem → Mem) (rP : Mem → Prop) {dr : Nat} (rT : ∀  (M : Mem), rP M → Ms g dr m12_sum [.ref 0] M (none) ((rF M))) : ∀ (n : Nat)  (M : Mem) (hp : P_12_product_4 rF rP n M), Rn g (dr + 7) m12_product 4 [some (.ref 0), none] [] M (none) ((F_12_product_4 rF n M)) := by
  intro n
  induction n with
  | zero => intro M hp; exact hp.elim
  | succ n ih =>
    intro M hp
    rw [F_12_product_4]
    rw [P_12_product_4] at hp
    refine b12_product_4  (fun h => ?_) (fun h => ?_)
    · rw [if_neg h]
      exact b12_product_72  rfl rfl
    · rw [if_pos h]
      have hp := hp.2 h
      obtain ⟨hc, hp⟩ := hp
      refine b12_product_11  (C_12_takesSign 42 M hc) (by omega) ?_
      exact T_12_product_17 rF rP (F_12_product_4 rF n) (P_12_product_4 rF rP n) rT ih ((F_12_takesSign_0 42 M).1) ((F_12_takesSign_0 42 M).2) hp
def F_12_product_0 (rF : Mem → Mem) (M : Mem) : Mem := F_12_product_4 rF FU (F_12_one_0 rF M)
def P_12_product_0 (rF : Mem → Mem) (rP : Mem → Prop) (M : Mem) : Prop := ((P_12_one_0 rF rP M) ∧ (P_12_product_4 rF rP FU (F_12_one_0 rF M)))
theorem T_12_product_0 {g : Gl} (rF : Mem → Mem) (rP : Mem → Prop) {dr : Nat} (rT : ∀  (M : Mem), rP M → Ms g dr m12_sum [.ref 0] M (none) ((rF M))) (M : Mem) (hp : P_12_product_0 rF rP M) : Rn g (dr + 7) m12_product 0 [some (.ref 0), none] [] M (none) ((F_12_product_0 rF M)) := by
  rw [F_12_product_0]
  rw [P_12_product_0] at hp
  obtain ⟨hc, hp⟩ := hp
  refine b12_product_0  (C_12_one rF rP rT M hc) (by omega) ?_
  exact T_12_product_4 rF rP rT FU (F_12_one_0 rF M) hp
theorem C_12_product {g : Gl} (rF : Mem → Mem) (rP : Mem → Prop) {dr : Nat} (rT : ∀  (M : Mem), rP M → Ms g dr m12_sum [.ref 0] M (none) ((rF M)))  (M : Mem) (hp : P_12_product_0 rF rP M) : Ms g (dr + 7) m12_product [.ref 0] M (none) ((F_12_product_0 rF M)) := Ms.of okM_m12_product (Nat.le_of_ble_eq_true rfl) (R_wk (lc rfl (ln l0)) (T_12_product_0 rF rP rT M hp))
def F_12_sum_55 (rF : Mem → Mem) (k4 : Mem → Mem) (M : Mem) : Mem := k4 M
def P_12_sum_55 (rF : Mem → Mem) (rP : Mem → Prop) (pk4 : Mem → Prop) (M : Mem) : Prop := (pk4 M)
theorem T_12_sum_55 {g : Gl} (rF : Mem → Mem) (rP : Mem → Prop) (k4 : Mem → Mem) (pk4 : Mem → Prop) {dr : Nat} (rT : ∀  (M : Mem), rP M → Ms g dr m12_sum [.ref 0] M (none) ((rF M))) (ih4 : ∀  (M : Mem), pk4 M → Rn g (dr + 8) m12_sum 4 [some (.ref 0), none] [] M (none) ((k4 M))) (M : Mem) (hp : P_12_sum_55 rF rP pk4 M) : Rn g (dr + 8) m12_sum 55 [some (.ref 0), none] [] M (none) ((F_12_sum_55 rF k4 M)) := by
  rw [F_12_sum_55]
  rw [P_12_sum_55] at hp
  refine b12_sum_55  ?_
  exact ih4 M hp
def F_12_sum_49 (rF : Mem → Mem) (k4 : Mem → Mem) (x1 : Int32) (M : Mem) : Mem := F_12_sum_55 rF k4 (F_12_notes_0 x1 0 M)
def P_12_sum_49 (rF : Mem → Mem) (rP : Mem → Prop) (pk4 : Mem → Prop) (x1 : Int32) (M : Mem) : Prop := ((P_12_notes_0 x1 0 M) ∧ (P_12_sum_55 rF rP pk4 (F_12_notes_0 x1 0 M)))
theorem T_12_sum_49 {g : Gl} (rF : Mem → Mem) (rP : Mem → Prop) (k4 : Mem → Mem) (pk4 : Mem → Prop) {dr : Nat} (rT : ∀  (M : Mem), rP M → Ms g dr m12_sum [.ref 0] M (none) ((rF M))) (ih4 : ∀  (M : Mem), pk4 M → Rn g (dr + 8) m12_sum 4 [some (.ref 0), none] [] M (none) ((k4 M))) (x1 : Int32) (M : Mem) (hp : P_12_sum_49 rF rP pk4 x1 M) : Rn g (dr + 8) m12_sum 49 [some (.ref 0), some (.int x1)] [] M (none) ((F_12_sum_49 rF k4 x1 M)) := by
  rw [F_12_sum_49]
  rw [P_12_sum_49] at hp
  obtain ⟨hc, hp⟩ := hp
  refine b12_sum_49  (C_12_notes x1 0 M hc) (by omega) ?_
  exact T_12_sum_55 rF rP k4 pk4 rT ih4 (F_12_notes_0 x1 0 M) hp
def F_12_sum_38 (rF : Mem → Mem) (k4 : Mem → Mem) (xs0 : Int32) (M : Mem) : Mem := if xs0 = (-1) then (M) else (F_12_sum_49 rF k4 xs0 (F_12_product_0 rF M))
def P_12_sum_38 (rF : Mem → Mem) (rP : Mem → Prop) (pk4 : Mem → Prop) (xs0 : Int32) (M : Mem) : Prop := ((¬ xs0 = (-1) → ((P_12_product_0 rF rP M) ∧ (P_12_sum_49 rF rP pk4 xs0 (F_12_product_0 rF M)))) ∧ (xs0 = (-1) → True))
theorem T_12_sum_38 {g : Gl} (rF : Mem → Mem) (rP : Mem → Prop) (k4 : Mem → Mem) (pk4 : Mem → Prop) {dr : Nat} (rT : ∀  (M : Mem), rP M → Ms g dr m12_sum [.ref 0] M (none) ((rF M))) (ih4 : ∀  (M : Mem), pk4 M → Rn g (dr + 8) m12_sum 4 [some (.ref 0), none] [] M (none) ((k4 M))) (xs0 : Int32) (M : Mem) (hp : P_12_sum_38 rF rP pk4 xs0 M) : Rn g (dr + 8) m12_sum 38 [some (.ref 0), none] [.int xs0] M (none) ((F_12_sum_38 rF k4 xs0 M)) := by
  rw [F_12_sum_38]
  rw [P_12_sum_38] at hp
  refine b12_sum_38  (fun h => ?_) (fun h => ?_)
  · rw [if_neg h]
    have hp := hp.1 h
    obtain ⟨hc, hp⟩ := hp
    refine b12_sum_45  (C_12_product rF rP rT M hc) (by omega) ?_
    exact T_12_sum_49 rF rP k4 pk4 rT ih4 xs0 (F_12_product_0 rF M) hp
  · rw [if_pos h]
    exact b12_sum_44  rfl rfl
def F_12_sum_30 (rF : Mem → Mem) (k4 : Mem → Mem) (xs0 : Int32) (M : Mem) : Mem := if xs0 = 0 then (F_12_sum_38 rF k4 (-1) M) else (F_12_sum_38 rF k4 3 M)
def P_12_sum_30 (rF : Mem → Mem) (rP : Mem → Prop) (pk4 : Mem → Prop) (xs0 : Int32) (M : Mem) : Prop := ((xs0 = 0 → (P_12_sum_38 rF rP pk4 (-1) M)) ∧ (¬ xs0 = 0 → (P_12_sum_38 rF rP pk4 3 M)))
theorem T_12_sum_30 {g : Gl} (rF : Mem → Mem) (rP : Mem → Prop) (k4 : Mem → Mem) (pk4 : Mem → Prop) {dr : Nat} (rT : ∀  (M : Mem), rP M → Ms g dr m12_sum [.ref 0] M (none) ((rF M))) (ih4 : ∀  (M : Mem), pk4 M → Rn g (dr + 8) m12_sum 4 [some (.ref 0), none] [] M (none) ((k4 M))) (xs0 : Int32) (M : Mem) (hp : P_12_sum_30 rF rP pk4 xs0 M) : Rn g (dr + 8) m12_sum 30 [some (.ref 0), none] [.int xs0] M (none) ((F_12_sum_30 rF k4 xs0 M)) := by
  rw [F_12_sum_30]
  rw [P_12_sum_30] at hp
  refine b12_sum_30  (fun h => ?_) (fun h => ?_)
  · rw [if_pos h]
    have hp := hp.1 h
    refine b12_sum_37  ?_
    exact T_12_sum_38 rF rP k4 pk4 rT ih4 (-1) M hp
  · rw [if_neg h]
    have hp := hp.2 h
    refine b12_sum_33  ?_
    exact T_12_sum_38 rF rP k4 pk4 rT ih4 3 M hp
def F_12_sum_17 (rF : Mem → Mem) (k4 : Mem → Mem) (xs0 : Int32) (M : Mem) : Mem := if xs0 = 0 then (F_12_sum_30 rF k4 ((F_12_takesSign_0 45 M).1) ((F_12_takesSign_0 45 M).2)) else (F_12_sum_38 rF k4 2 M)
def P_12_sum_17 (rF : Mem → Mem) (rP : Mem → Prop) (pk4 : Mem → Prop) (xs0 : Int32) (M : Mem) : Prop := ((xs0 = 0 → ((P_12_takesSign_0 45 M) ∧ (P_12_sum_30 rF rP pk4 ((F_12_takesSign_0 45 M).1) ((F_12_takesSign_0 45 M).2)))) ∧ (¬ xs0 = 0 → (P_12_sum_38 rF rP pk4 2 M)))
theorem T_12_sum_17 {g : Gl} (rF : Mem → Mem) (rP : Mem → Prop) (k4 : Mem → Mem) (pk4 : Mem → Prop) {dr : Nat} (rT : ∀  (M : Mem), rP M → Ms g dr m12_sum [.ref 0] M (none) ((rF M))) (ih4 : ∀  (M : Mem), pk4 M → Rn g (dr + 8) m12_sum 4 [some (.ref 0), none] [] M (none) ((k4 M))) (xs0 : Int32) (M : Mem) (hp : P_12_sum_17 rF rP pk4 xs0 M) : Rn g (dr + 8) m12_sum 17 [some (.ref 0), none] [.int xs0] M (none) ((F_12_sum_17 rF k4 xs0 M)) := by
  rw [F_12_sum_17]
  rw [P_12_sum_17] at hp
  refine b12_sum_17  (fun h => ?_) (fun h => ?_)
  · rw [if_pos h]
    have hp := hp.1 h
    obtain ⟨hc, hp⟩ := hp
    refine b12_sum_24  (C_12_takesSign 45 M hc) (by omega) ?_
    exact T_12_sum_30 rF rP k4 pk4 rT ih4 ((F_12_takesSign_0 45 M).1) ((F_12_takesSign_0 45 M).2) hp
  · rw [if_neg h]
    have hp := hp.2 h
    refine b12_sum_20  ?_
    exact T_12_sum_38 rF rP k4 pk4 rT ih4 2 M hp
def F_12_sum_4 (rF : Mem → Mem) : Nat → Mem → Mem
  | 0, M => M
  | n + 1, M => if (rd M 0 5) = 0 then (F_12_sum_17 rF (F_12_sum_4 rF n) ((F_12_takesSign_0 43 M).1) ((F_12_takesSign_0 43 M).2)) else (M)
def P_12_sum_4 (rF : Mem → Mem) (rP : Mem → Prop) : Nat → Mem → Prop
  | 0, _ => False
  | n + 1, M => ((¬ (rd M 0 5) = 0 → True) ∧ ((rd M 0 5) = 0 → ((P_12_takesSign_0 43 M) ∧ (P_12_sum_17 rF rP (P_12_sum_4 rF rP n) ((F_12_takesSign_0 43 M).1) ((F_12_takesSign_0 43 M).2)))))
theorem T_12_sum_4 {g : Gl} (rF : Mem → Mem) (rP : Mem → Prop) {dr : Nat} (rT : ∀  (M : Mem), rP M → Ms g dr m12_sum [.ref 0] M (none) ((rF M))) : ∀ (n : Nat)  (M : Mem) (hp : P_12_sum_4 rF rP n M), Rn g (dr + 8) m12_sum 4 [some (.ref 0), none] [] M (none) ((F_12_sum_4 rF n M)) := by
  intro n
  induction n with
  | zero => intro M hp; exact hp.elim
  | succ n ih =>
    intro M hp
    rw [F_12_sum_4]
    rw [P_12_sum_4] at hp
    refine b12_sum_4  (fun h => ?_) (fun h => ?_)
    · rw [if_neg h]
      exact b12_sum_58  rfl rfl
    · rw [if_pos h]
      have hp := hp.2 h
      obtain ⟨hc, hp⟩ := hp
      refine b12_sum_11  (C_12_takesSign 43 M hc) (by omega) ?_
      exact T_12_sum_17 rF rP (F_12_sum_4 rF n) (P_12_sum_4 rF rP n) rT ih ((F_12_takesSign_0 43 M).1) ((F_12_takesSign_0 43 M).2) hp
def F_12_sum_0 (rF : Mem → Mem) (M : Mem) : Mem := F_12_sum_4 rF FU (F_12_product_0 rF M)
def P_12_sum_0 (rF : Mem → Mem) (rP : Mem → Prop) (M : Mem) : Prop := ((P_12_product_0 rF rP M) ∧ (P_12_sum_4 rF rP FU (F_12_product_0 rF M)))
theorem T_12_sum_0 {g : Gl} (rF : Mem → Mem) (rP : Mem → Prop) {dr : Nat} (rT : ∀  (M : Mem), rP M → Ms g dr m12_sum [.ref 0] M (none) ((rF M))) (M : Mem) (hp : P_12_sum_0 rF rP M) : Rn g (dr + 8) m12_sum 0 [some (.ref 0), none] [] M (none) ((F_12_sum_0 rF M)) := by
  rw [F_12_sum_0]
  rw [P_12_sum_0] at hp
  obtain ⟨hc, hp⟩ := hp
  refine b12_sum_0  (C_12_product rF rP rT M hc) (by omega) ?_
  exact T_12_sum_4 rF rP rT FU (F_12_product_0 rF M) hp
theorem C_12_sum {g : Gl} (rF : Mem → Mem) (rP : Mem → Prop) {dr : Nat} (rT : ∀  (M : Mem), rP M → Ms g dr m12_sum [.ref 0] M (none) ((rF M)))  (M : Mem) (hp : P_12_sum_0 rF rP M) : Ms g (dr + 8) m12_sum [.ref 0] M (none) ((F_12_sum_0 rF M)) := Ms.of okM_m12_sum (Nat.le_of_ble_eq_true rfl) (R_wk (lc rfl (ln l0)) (T_12_sum_0 rF rP rT M hp))
def G_12_sum  : Nat → Mem → Mem
  | 0, M => M
  | n + 1, M => F_12_sum_0 (G_12_sum n) M
def H_12_sum  : Nat → Mem → Prop
  | 0, _ => False
  | n + 1, M => P_12_sum_0 (G_12_sum n) (H_12_sum n) M
theorem D_12_sum {g : Gl}  : ∀ (n : Nat)  (M : Mem), H_12_sum n M → Ms g (8 * n) m12_sum [.ref 0] M (none) ((G_12_sum n M)) := by
  intro n
  induction n with
  | zero => intro M hp; exact hp.elim
  | succ n ih =>
    intro M hp
    rw [G_12_sum]
    rw [H_12_sum] at hp
    exact C_12_sum (G_12_sum n) (H_12_sum n) ih M hp
def F_12_law_96 (xs0 : Int32) (M : Mem) : Int32 × Mem := (xs0, M)
theorem T_12_law_96 {g : Gl} (xs0 : Int32) (M : Mem)  : Rn g 65 m12_law 96 [none, none] [.int xs0] M (some (.int (F_12_law_96 xs0 M).1)) ((F_12_law_96 xs0 M).2) := by
  rw [F_12_law_96]
  exact b12_law_96  rfl rfl
def F_12_law_125 (M : Mem) : Int32 × Mem := (1, M)
theorem T_12_law_125 {g : Gl} (M : Mem)  : Rn g 65 m12_law 125 [none, none] [] M (some (.int (F_12_law_125 M).1)) ((F_12_law_125 M).2) := by
  rw [F_12_law_125]
  exact b12_law_125  rfl rfl
def F_12_law_85 (M : Mem) : Int32 × Mem := if (rd M 0 5) = 0 then (F_12_law_125 (F_12_laysb_0 (rd (wr M 0 3 (-1)) 0 22) (wr (wr M 0 3 (-1)) 0 21 (rd (wr M 0 3 (-1)) 0 22)))) else (F_12_law_96 ((F_12_ends2_0 M).1) ((F_12_ends2_0 M).2))
def P_12_law_85 (M : Mem) : Prop := (((rd M 0 5) = 0 → ((P_12_laysb_0 (rd (wr M 0 3 (-1)) 0 22) (wr (wr M 0 3 (-1)) 0 21 (rd (wr M 0 3 (-1)) 0 22))))) ∧ (¬ (rd M 0 5) = 0 → True))
theorem T_12_law_85 {g : Gl} (M : Mem) (hp : P_12_law_85 M) : Rn g 65 m12_law 85 [some (.ref 0), none] [] M (some (.int (F_12_law_85 M).1)) ((F_12_law_85 M).2) := by
  rw [F_12_law_85]
  rw [P_12_law_85] at hp
  refine b12_law_85  (fun h => ?_) (fun h => ?_)
  · rw [if_pos h]
    have hp := hp.1 h
    have hc := hp
    refine b12_law_97  (C_12_laysb (rd (wr M 0 3 (-1)) 0 22) (wr (wr M 0 3 (-1)) 0 21 (rd (wr M 0 3 (-1)) 0 22)) hc) (Nat.le_of_ble_eq_true rfl) ?_
    exact T_12_law_125 (F_12_laysb_0 (rd (wr M 0 3 (-1)) 0 22) (wr (wr M 0 3 (-1)) 0 21 (rd (wr M 0 3 (-1)) 0 22)))
  · rw [if_neg h]
    refine b12_law_92  (C_12_ends2  M) (Nat.le_of_ble_eq_true rfl) ?_
    exact T_12_law_96 ((F_12_ends2_0 M).1) ((F_12_ends2_0 M).2)
def F_12_law_58 (M : Mem) : Int32 × Mem := if (rd M 0 5) = 0 then (if (rd M 0 2) ≤ (rd M 0 4) then (F_12_law_85 M) else (F_12_law_85 (F_12_wrong_0 1 (rd M 0 4) M))) else (F_12_law_85 M)
def P_12_law_58 (M : Mem) : Prop := ((¬ (rd M 0 5) = 0 → P_12_law_85 M) ∧ ((rd M 0 5) = 0 → (((rd M 0 2) ≤ (rd M 0 4) → P_12_law_85 M) ∧ (¬ (rd M 0 2) ≤ (rd M 0 4) → ((P_12_law_85 (F_12_wrong_0 1 (rd M 0 4) M)))))))
theorem T_12_law_58 {g : Gl} (M : Mem) (hp : P_12_law_58 M) : Rn g 65 m12_law 58 [some (.ref 0), none] [] M (some (.int (F_12_law_58 M).1)) ((F_12_law_58 M).2) := by
  rw [F_12_law_58]
  rw [P_12_law_58] at hp
  refine b12_law_58  (fun h => ?_) (fun h => ?_)
  · rw [if_neg h]
    have hp := hp.1 h
    exact T_12_law_85 M hp
  · rw [if_pos h]
    have hp := hp.2 h
    refine b12_law_65  (fun h => ?_) (fun h => ?_)
    · rw [if_pos h]
      have hp := hp.1 h
      exact T_12_law_85 M hp
    · rw [if_neg h]
      have hp := hp.2 h
      refine b12_law_76  (C_12_wrong 1 (rd M 0 4) M) (Nat.le_of_ble_eq_true rfl) ?_
      exact T_12_law_85 (F_12_wrong_0 1 (rd M 0 4) M) hp
def F_12_law_54 (M : Mem) : Int32 × Mem := F_12_law_58 (F_12_blanks_0 FU M)
def P_12_law_54 (M : Mem) : Prop := ((P_12_blanks_0 FU M) ∧ (P_12_law_58 (F_12_blanks_0 FU M)))
theorem T_12_law_54 {g : Gl} (M : Mem) (hp : P_12_law_54 M) : Rn g 65 m12_law 54 [some (.ref 0), none] [] M (some (.int (F_12_law_54 M).1)) ((F_12_law_54 M).2) := by
  rw [F_12_law_54]
  rw [P_12_law_54] at hp
  obtain ⟨hc, hp⟩ := hp
  refine b12_law_54  (C_12_blanks  M hc) (Nat.le_of_ble_eq_true rfl) ?_
  exact T_12_law_58 (F_12_blanks_0 FU M) hp
def F_12_law_45 (M : Mem) : Int32 × Mem := F_12_law_54 (G_12_sum 8 (wr M 0 22 0))
def P_12_law_45 (M : Mem) : Prop := ((H_12_sum 8 (wr M 0 22 0)) ∧ (P_12_law_54 (G_12_sum 8 (wr M 0 22 0))))
theorem T_12_law_45 {g : Gl} (M : Mem) (hp : P_12_law_45 M) : Rn g 65 m12_law 45 [some (.ref 0), none] [] M (some (.int (F_12_law_45 M).1)) ((F_12_law_45 M).2) := by
  rw [F_12_law_45]
  rw [P_12_law_45] at hp
  obtain ⟨hc, hp⟩ := hp
  refine b12_law_45  (D_12_sum 8 (wr M 0 22 0) hc) (Nat.le_of_ble_eq_true rfl) ?_
  exact T_12_law_54 (G_12_sum 8 (wr M 0 22 0)) hp
def F_12_law_35 (x1 : Int32) (xs0 : Int32) (M : Mem) : Int32 × Mem := if xs0 = 0 then (F_12_law_45 (F_12_starts_0 x1 M)) else ((0, M))
def P_12_law_35 (x1 : Int32) (xs0 : Int32) (M : Mem) : Prop := ((xs0 = 0 → ((P_12_starts_0 x1 M) ∧ (P_12_law_45 (F_12_starts_0 x1 M)))) ∧ (¬ xs0 = 0 → True))
theorem T_12_law_35 {g : Gl} (x1 : Int32) (xs0 : Int32) (M : Mem) (hp : P_12_law_35 x1 xs0 M) : Rn g 65 m12_law 35 [some (.ref 0), some (.int x1)] [.int xs0] M (some (.int (F_12_law_35 x1 xs0 M).1)) ((F_12_law_35 x1 xs0 M).2) := by
  rw [F_12_law_35]
  rw [P_12_law_35] at hp
  refine b12_law_35  (fun h => ?_) (fun h => ?_)
  · rw [if_pos h]
    have hp := hp.1 h
    obtain ⟨hc, hp⟩ := hp
    refine b12_law_40  (C_12_starts x1 M hc) (Nat.le_of_ble_eq_true rfl) ?_
    exact T_12_law_45 (F_12_starts_0 x1 M) hp
  · rw [if_neg h]
    exact b12_law_38  rfl rfl
def F_12_law_30 (x1 : Int32) (xs0 : Int32) (M : Mem) : Int32 × Mem := F_12_law_35 x1 ((F_12_bad_0 xs0 1 1 M).1) ((F_12_bad_0 xs0 1 1 M).2)
def P_12_law_30 (x1 : Int32) (xs0 : Int32) (M : Mem) : Prop := ((P_12_bad_0 xs0 1 1 M) ∧ (P_12_law_35 x1 ((F_12_bad_0 xs0 1 1 M).1) ((F_12_bad_0 xs0 1 1 M).2)))
theorem T_12_law_30 {g : Gl} (x1 : Int32) (xs0 : Int32) (M : Mem) (hp : P_12_law_30 x1 xs0 M) : Rn g 65 m12_law 30 [some (.ref 0), some (.int x1)] [.int xs0, .ref 0] M (some (.int (F_12_law_30 x1 xs0 M).1)) ((F_12_law_30 x1 xs0 M).2) := by
  rw [F_12_law_30]
  rw [P_12_law_30] at hp
  obtain ⟨hc, hp⟩ := hp
  refine b12_law_30  (C_12_bad xs0 1 1 M hc) (Nat.le_of_ble_eq_true rfl) ?_
  exact T_12_law_35 x1 ((F_12_bad_0 xs0 1 1 M).1) ((F_12_bad_0 xs0 1 1 M).2) hp
def F_12_law_25 (x1 : Int32) (M : Mem) : Int32 × Mem := F_12_law_30 x1 1 M
def P_12_law_25 (x1 : Int32) (M : Mem) : Prop := (P_12_law_30 x1 1 M)
theorem T_12_law_25 {g : Gl} (x1 : Int32) (M : Mem) (hp : P_12_law_25 x1 M) : Rn g 65 m12_law 25 [some (.ref 0), some (.int x1)] [.ref 0] M (some (.int (F_12_law_25 x1 M).1)) ((F_12_law_25 x1 M).2) := by
  rw [F_12_law_25]
  rw [P_12_law_25] at hp
  refine b12_law_25  ?_
  exact T_12_law_30 x1 1 M hp
def F_12_law_0 (x1 : Int32) (M : Mem) : Int32 × Mem := if (F_12_in_0 (wr M 0 0 0) x1 0 (rd (wr M 0 0 0) 0 1)) = 0 then (F_12_law_25 x1 (wr M 0 0 0)) else (if x1 ≤ 150 then (F_12_law_30 x1 0 (wr M 0 0 0)) else (F_12_law_25 x1 (wr M 0 0 0)))
def P_12_law_0 (x1 : Int32) (M : Mem) : Prop := (((((F_12_in_0 (wr M 0 0 0) x1 0 (rd (wr M 0 0 0) 0 1)) = 0 → P_12_law_25 x1 (wr M 0 0 0)) ∧ (¬ (F_12_in_0 (wr M 0 0 0) x1 0 (rd (wr M 0 0 0) 0 1)) = 0 → ((x1 ≤ 150 → (P_12_law_30 x1 0 (wr M 0 0 0))) ∧ (¬ x1 ≤ 150 → P_12_law_25 x1 (wr M 0 0 0)))))))
theorem T_12_law_0 {g : Gl} (x1 : Int32) (M : Mem) (hp : P_12_law_0 x1 M) : Rn g 65 m12_law 0 [some (.ref 0), some (.int x1)] [] M (some (.int (F_12_law_0 x1 M).1)) ((F_12_law_0 x1 M).2) := by
  rw [F_12_law_0]
  rw [P_12_law_0] at hp
  refine b12_law_0  (C_12_in x1 0 (rd (wr M 0 0 0) 0 1) (wr M 0 0 0)) (Nat.le_of_ble_eq_true rfl) ?_
  refine b12_law_15  (fun h => ?_) (fun h => ?_)
  · rw [if_pos h]
    have hp := hp.1 h
    exact T_12_law_25 x1 (wr M 0 0 0) hp
  · rw [if_neg h]
    have hp := hp.2 h
    refine b12_law_18  (fun h => ?_) (fun h => ?_)
    · rw [if_pos h]
      have hp := hp.1 h
      refine b12_law_29  ?_
      exact T_12_law_30 x1 0 (wr M 0 0 0) hp
    · rw [if_neg h]
      have hp := hp.2 h
      exact T_12_law_25 x1 (wr M 0 0 0) hp
theorem C_12_law {g : Gl}  (x1 : Int32) (M : Mem) (hp : P_12_law_0 x1 M) : Ms g 65 m12_law [.ref 0, .int x1] M (some (.int (F_12_law_0 x1 M).1)) ((F_12_law_0 x1 M).2) := Ms.of okM_m12_law (Nat.le_of_ble_eq_true rfl) (R_wk (lc rfl (lc rfl l0)) (T_12_law_0 x1 M hp))
def F_12_by_83 (M : Mem) : Int32 := 0
theorem T_12_by_83 {g : Gl} (M : Mem)  : Rn g 1 m12_by 83 [none, none, none] [] M (some (.int (F_12_by_83 M))) (M) := by
  rw [F_12_by_83]
  refine b12_by_83  ?_
  exact b12_by_90  rfl rfl
def F_12_by_0 (M : Mem) (x0 : Int32) (x1 : Int32) (x2 : Int32) : Int32 := (if x0 = 2 then (x1 + x2) else (if x0 = 3 then (x1 - x2) else (if x0 = 4 then (x1 * x2) else (if x0 = 5 then (if x2 = 0 then (0) else (if x2 = (-1) then ((-x1)) else ((x1 / x2)))) else (if x0 = 6 then (if x2 = 0 then (F_12_by_83 M) else (if x2 = (-1) then (F_12_by_83 M) else ((x1 - x1 / x2 * x2)))) else (if x0 = 7 then (F_12_less_0 M x1 x2) else (F_12_more_0 M x1 x2)))))))
def P_12_by_0 (M : Mem) (x0 : Int32) (x1 : Int32) (x2 : Int32) : Prop := ((x0 = 2 → True) ∧ (x0 = 3 → True) ∧ (x0 = 4 → True) ∧ (x0 = 5 → ((¬ x2 = 0 → ((¬ x2 = (-1) → (¬ x2 = 0)) ∧ (x2 = (-1) → True))) ∧ (x2 = 0 → True))) ∧ (x0 = 6 → ((x2 = 0 → True) ∧ (¬ x2 = 0 → ((¬ x2 = (-1) → (¬ x2 = 0)) ∧ (x2 = (-1) → True))))) ∧ (x0 = 7 → True) ∧ (¬ x0 = 2 ∧ ¬ x0 = 3 ∧ ¬ x0 = 4 ∧ ¬ x0 = 5 ∧ ¬ x0 = 6 ∧ ¬ x0 = 7 → True))
theorem T_12_by_0 {g : Gl} (M : Mem) (x0 : Int32) (x1 : Int32) (x2 : Int32) (hp : P_12_by_0 M x0 x1 x2) : Rn g 1 m12_by 0 [some (.int x0), some (.int x1), some (.int x2)] [] M (some (.int (F_12_by_0 M x0 x1 x2))) (M) := by
  rw [F_12_by_0]
  rw [P_12_by_0] at hp
  by_cases h0 : x0 = 2
  · rw [if_pos h0]
    refine b12_by_0_c2  h0 ?_
    exact b12_by_40  rfl rfl
  rw [if_neg h0]
  by_cases h1 : x0 = 3
  · rw [if_pos h1]
    refine b12_by_0_c3  h1 ?_
    exact b12_by_44  rfl rfl
  rw [if_neg h1]
  by_cases h2 : x0 = 4
  · rw [if_pos h2]
    refine b12_by_0_c4  h2 ?_
    exact b12_by_48  rfl rfl
  rw [if_neg h2]
  by_cases h3 : x0 = 5
  · rw [if_pos h3]
    have hp := hp.2.2.2.1 h3
    refine b12_by_0_c5  h3 ?_
    refine b12_by_52  (fun h => ?_) (fun h => ?_)
    · rw [if_neg h]
      have hp := hp.1 h
      refine b12_by_60  (fun h => ?_) (fun h => ?_)
      · rw [if_neg h]
        have hp := hp.1 h
        have p0 := hp
        refine b12_by_70 p0 ?_
        exact b12_by_73  rfl rfl
      · rw [if_pos h]
        refine b12_by_65  ?_
        exact b12_by_73  rfl rfl
    · rw [if_pos h]
      refine b12_by_56  ?_
      exact b12_by_73  rfl rfl
  rw [if_neg h3]
  by_cases h4 : x0 = 6
  · rw [if_pos h4]
    have hp := hp.2.2.2.2.1 h4
    refine b12_by_0_c6  h4 ?_
    refine b12_by_74  (fun h => ?_) (fun h => ?_)
    · rw [if_pos h]
      exact T_12_by_83 _
    · rw [if_neg h]
      have hp := hp.2 h
      refine b12_by_78  (fun h => ?_) (fun h => ?_)
      · rw [if_neg h]
        have hp := hp.1 h
        have p1 := hp
        refine b12_by_87 p1 ?_
        exact b12_by_90  rfl rfl
      · rw [if_pos h]
        exact T_12_by_83 _
  rw [if_neg h4]
  by_cases h5 : x0 = 7
  · rw [if_pos h5]
    refine b12_by_0_c7  h5 ?_
    refine b12_by_91  (C_12_less x1 x2 M) (Nat.le_of_ble_eq_true rfl) ?_
    exact b12_by_96  rfl rfl
  rw [if_neg h5]
  refine b12_by_0_d  (sw_out (x := x0) (lo := 2) (hi := 7) (by intro z ha hb e; rcases (show z = 2 ∨ z = 3 ∨ z = 4 ∨ z = 5 ∨ z = 6 ∨ z = 7 by omega) with r | r | r | r | r | r <;> subst r <;> first | exact h0 (Int32.toInt_inj.mp (e.trans (by decide))) | exact h1 (Int32.toInt_inj.mp (e.trans (by decide))) | exact h2 (Int32.toInt_inj.mp (e.trans (by decide))) | exact h3 (Int32.toInt_inj.mp (e.trans (by decide))) | exact h4 (Int32.toInt_inj.mp (e.trans (by decide))) | exact h5 (Int32.toInt_inj.mp (e.trans (by decide))))) ?_
  refine b12_by_97  (C_12_more x1 x2 M) (Nat.le_of_ble_eq_true rfl) ?_
  exact b12_by_102  rfl rfl
theorem C_12_by {g : Gl}  (x0 : Int32) (x1 : Int32) (x2 : Int32) (M : Mem) (hp : P_12_by_0 M x0 x1 x2) : Ms g 1 m12_by [.int x0, .int x1, .int x2] M (some (.int (F_12_by_0 M x0 x1 x2))) (M) := Ms.of okM_m12_by (Nat.le_of_ble_eq_true rfl) (R_wk (lc rfl (lc rfl (lc rfl l0))) (T_12_by_0 M x0 x1 x2 hp))
def F_12_byLaw_121 (k18 : Int32 → Int32 → Mem → Int32 × Mem) (x1 : Int32) (x2 : Int32) (M : Mem) : Int32 × Mem := k18 x1 (x2 + 1) M
def P_12_byLaw_121 (pk18 : Int32 → Int32 → Mem → Prop) (x1 : Int32) (x2 : Int32) (M : Mem) : Prop := (pk18 x1 (x2 + 1) M)
theorem T_12_byLaw_121 {g : Gl} (k18 : Int32 → Int32 → Mem → Int32 × Mem) (pk18 : Int32 → Int32 → Mem → Prop) (ih18 : ∀ (x1 : Int32) (x2 : Int32) (M : Mem), pk18 x1 x2 M → Rn g 2 m12_byLaw 18 [some (.ref 0), some (.int x1), some (.int x2)] [] M (some (.int (k18 x1 x2 M).1)) ((k18 x1 x2 M).2)) (x1 : Int32) (x2 : Int32) (M : Mem) (hp : P_12_byLaw_121 pk18 x1 x2 M) : Rn g 2 m12_byLaw 121 [some (.ref 0), some (.int x1), some (.int x2)] [] M (some (.int (F_12_byLaw_121 k18 x1 x2 M).1)) ((F_12_byLaw_121 k18 x1 x2 M).2) := by
  rw [F_12_byLaw_121]
  rw [P_12_byLaw_121] at hp
  refine b12_byLaw_121  ?_
  exact ih18 x1 (x2 + 1) M hp
def F_12_byLaw_78 (k18 : Int32 → Int32 → Mem → Int32 × Mem) (x1 : Int32) (x2 : Int32) (xs0 : Int32) (xs1 : Int32) (M : Mem) : Int32 × Mem := F_12_byLaw_121 k18 (x1 + 1) x2 (wr M 15 xs1.toNatClampNeg xs0)
def P_12_byLaw_78 (pk18 : Int32 → Int32 → Mem → Prop) (x1 : Int32) (x2 : Int32) (xs0 : Int32) (xs1 : Int32) (M : Mem) : Prop := (vp_in xs1 160) ∧ (P_12_byLaw_121 pk18 (x1 + 1) x2 (wr M 15 xs1.toNatClampNeg xs0))
theorem T_12_byLaw_78 {g : Gl} (k18 : Int32 → Int32 → Mem → Int32 × Mem) (pk18 : Int32 → Int32 → Mem → Prop) (ih18 : ∀ (x1 : Int32) (x2 : Int32) (M : Mem), pk18 x1 x2 M → Rn g 2 m12_byLaw 18 [some (.ref 0), some (.int x1), some (.int x2)] [] M (some (.int (k18 x1 x2 M).1)) ((k18 x1 x2 M).2)) (x1 : Int32) (x2 : Int32) (xs0 : Int32) (xs1 : Int32) (M : Mem) (hp : P_12_byLaw_78 pk18 x1 x2 xs0 xs1 M) : Rn g 2 m12_byLaw 78 [some (.ref 0), some (.int x1), some (.int x2)] [.int xs0, .int xs1, .ref 15] M (some (.int (F_12_byLaw_78 k18 x1 x2 xs0 xs1 M).1)) ((F_12_byLaw_78 k18 x1 x2 xs0 xs1 M).2) := by
  rw [F_12_byLaw_78]
  rw [P_12_byLaw_78] at hp
  obtain ⟨p0, hp⟩ := hp
  refine b12_byLaw_78 p0 ?_
  exact T_12_byLaw_121 k18 pk18 ih18 (x1 + 1) x2 (wr M 15 xs1.toNatClampNeg xs0) hp
def F_12_byLaw_18  : Nat → Int32 → Int32 → Mem → Int32 × Mem
  | 0, _, _, M => (0, M)
  | n + 1, x1, x2, M => if (rd M 0 21) ≤ x2 then ((rd M 15 ((0 : Int32).toNatClampNeg), M)) else (if (2 : Int32) ≤ (rd M (78 + x2.toNatClampNeg) ((0 : Int32).toNatClampNeg)) then (F_12_byLaw_121 (F_12_byLaw_18 n) (x1 + (-1)) x2 (wr M 15 ((x1 + (-1)) - 1).toNatClampNeg (F_12_by_0 M (rd M (78 + x2.toNatClampNeg) ((0 : Int32).toNatClampNeg)) (rd M 15 (((x1 + (-1)) - 1).toNatClampNeg)) (rd M 15 ((x1 + (-1)).toNatClampNeg))))) else (if (rd M (78 + x2.toNatClampNeg) ((0 : Int32).toNatClampNeg)) = 0 then (F_12_byLaw_78 (F_12_byLaw_18 n) x1 x2 (rd M (78 + x2.toNatClampNeg) ((1 : Int32).toNatClampNeg)) x1 M) else (F_12_byLaw_78 (F_12_byLaw_18 n) x1 x2 (rd M 16 ((rd M (78 + x2.toNatClampNeg) ((1 : Int32).toNatClampNeg)).toNatClampNeg)) x1 M)))
def P_12_byLaw_18  : Nat → Int32 → Int32 → Mem → Prop
  | 0, _, _, _ => False
  | n + 1, x1, x2, M => (((rd M 0 21) ≤ x2 → True) ∧ (¬ (rd M 0 21) ≤ x2 → (vp_in x2 160) ∧ (((2 : Int32) ≤ (rd M (78 + x2.toNatClampNeg) ((0 : Int32).toNatClampNeg)) → (vp_in x2 160) ∧ (vp_in ((x1 + (-1)) - 1) 160) ∧ (vp_in (x1 + (-1)) 160) ∧ ((P_12_by_0 M (rd M (78 + x2.toNatClampNeg) ((0 : Int32).toNatClampNeg)) (rd M 15 (((x1 + (-1)) - 1).toNatClampNeg)) (rd M 15 ((x1 + (-1)).toNatClampNeg))) ∧ ((vp_in ((x1 + (-1)) - 1) 160) ∧ (P_12_byLaw_121 (P_12_byLaw_18 n) (x1 + (-1)) x2 (wr M 15 ((x1 + (-1)) - 1).toNatClampNeg (F_12_by_0 M (rd M (78 + x2.toNatClampNeg) ((0 : Int32).toNatClampNeg)) (rd M 15 (((x1 + (-1)) - 1).toNatClampNeg)) (rd M 15 ((x1 + (-1)).toNatClampNeg)))))))) ∧ (¬ (2 : Int32) ≤ (rd M (78 + x2.toNatClampNeg) ((0 : Int32).toNatClampNeg)) → (vp_in x2 160) ∧ ((¬ (rd M (78 + x2.toNatClampNeg) ((0 : Int32).toNatClampNeg)) = 0 → (vp_in x2 160) ∧ (vp_in (rd M (78 + x2.toNatClampNeg) ((1 : Int32).toNatClampNeg)) 8) ∧ (P_12_byLaw_78 (P_12_byLaw_18 n) x1 x2 (rd M 16 ((rd M (78 + x2.toNatClampNeg) ((1 : Int32).toNatClampNeg)).toNatClampNeg)) x1 M)) ∧ ((rd M (78 + x2.toNatClampNeg) ((0 : Int32).toNatClampNeg)) = 0 → (vp_in x2 160) ∧ (P_12_byLaw_78 (P_12_byLaw_18 n) x1 x2 (rd M (78 + x2.toNatClampNeg) ((1 : Int32).toNatClampNeg)) x1 M)))))))
theorem T_12_byLaw_18 {g : Gl} : ∀ (n : Nat) (x1 : Int32) (x2 : Int32) (M : Mem) (hp : P_12_byLaw_18 n x1 x2 M), Rn g 2 m12_byLaw 18 [some (.ref 0), some (.int x1), some (.int x2)] [] M (some (.int (F_12_byLaw_18 n x1 x2 M).1)) ((F_12_byLaw_18 n x1 x2 M).2) := by
  intro n
  induction n with
  | zero => intro x1 x2 M hp; exact hp.elim
  | succ n ih =>
    intro x1 x2 M hp
    rw [F_12_byLaw_18]
    rw [P_12_byLaw_18] at hp
    refine b12_byLaw_18  (fun h => ?_) (fun h => ?_)
    · rw [if_pos h]
      exact b12_byLaw_127 (vpl (by decide)) rfl rfl
    · rw [if_neg h]
      have hp := hp.2 h
      obtain ⟨p0, hp⟩ := hp
      refine b12_byLaw_26 p0 (vpl (by decide)) (fun h => ?_) (fun h => ?_)
      · rw [if_pos h]
        have hp := hp.1 h
        obtain ⟨p1, p2, p3, hp⟩ := hp
        obtain ⟨hc, hp⟩ := hp
        refine b12_byLaw_85 p1 (vpl (by decide)) p2 p3 (C_12_by (rd M (78 + x2.toNatClampNeg) ((0 : Int32).toNatClampNeg)) (rd M 15 (((x1 + (-1)) - 1).toNatClampNeg)) (rd M 15 ((x1 + (-1)).toNatClampNeg)) M hc) (Nat.le_of_ble_eq_true rfl) ?_
        obtain ⟨p4, hp⟩ := hp
        refine b12_byLaw_120 p4 ?_
        exact T_12_byLaw_121 (F_12_byLaw_18 n) (P_12_byLaw_18 n) ih (x1 + (-1)) x2 (wr M 15 ((x1 + (-1)) - 1).toNatClampNeg (F_12_by_0 M (rd M (78 + x2.toNatClampNeg) ((0 : Int32).toNatClampNeg)) (rd M 15 (((x1 + (-1)) - 1).toNatClampNeg)) (rd M 15 ((x1 + (-1)).toNatClampNeg)))) hp
      · rw [if_neg h]
        have hp := hp.2 h
        obtain ⟨p5, hp⟩ := hp
        refine b12_byLaw_38 p5 (vpl (by decide)) (fun h => ?_) (fun h => ?_)
        · rw [if_neg h]
          have hp := hp.1 h
          obtain ⟨p6, p7, hp⟩ := hp
          refine b12_byLaw_65 p6 (vpl (by decide)) p7 ?_
          exact T_12_byLaw_78 (F_12_byLaw_18 n) (P_12_byLaw_18 n) ih x1 x2 (rd M 16 ((rd M (78 + x2.toNatClampNeg) ((1 : Int32).toNatClampNeg)).toNatClampNeg)) x1 M hp
        · rw [if_pos h]
          have hp := hp.2 h
          obtain ⟨p8, hp⟩ := hp
          refine b12_byLaw_54 p8 (vpl (by decide)) ?_
          exact T_12_byLaw_78 (F_12_byLaw_18 n) (P_12_byLaw_18 n) ih x1 x2 (rd M (78 + x2.toNatClampNeg) ((1 : Int32).toNatClampNeg)) x1 M hp
def F_12_byLaw_0 (M : Mem) : Int32 × Mem := if (rd M 0 21) = 0 then ((rd M 16 ((0 : Int32).toNatClampNeg), M)) else (F_12_byLaw_18 FU 0 0 M)
def P_12_byLaw_0 (M : Mem) : Prop := ((¬ (rd M 0 21) = 0 → (P_12_byLaw_18 FU 0 0 M)) ∧ ((rd M 0 21) = 0 → True))
theorem T_12_byLaw_0 {g : Gl} (M : Mem) (hp : P_12_byLaw_0 M) : Rn g 2 m12_byLaw 0 [some (.ref 0), none, none] [] M (some (.int (F_12_byLaw_0 M).1)) ((F_12_byLaw_0 M).2) := by
  rw [F_12_byLaw_0]
  rw [P_12_byLaw_0] at hp
  refine b12_byLaw_0  (fun h => ?_) (fun h => ?_)
  · rw [if_neg h]
    have hp := hp.1 h
    refine b12_byLaw_14  ?_
    exact T_12_byLaw_18 FU 0 0 M hp
  · rw [if_pos h]
    exact b12_byLaw_7 (vpl (by decide)) rfl rfl
theorem C_12_byLaw {g : Gl}   (M : Mem) (hp : P_12_byLaw_0 M) : Ms g 2 m12_byLaw [.ref 0] M (some (.int (F_12_byLaw_0 M).1)) ((F_12_byLaw_0 M).2) := Ms.of okM_m12_byLaw (Nat.le_of_ble_eq_true rfl) (R_wk (lc rfl (ln (ln l0))) (T_12_byLaw_0 M hp))
def F_12_stepHere_85 (xs0 : Int32) (M : Mem) : Int32 × Mem := if xs0 = 0 then (((-1), M)) else ((4, M))
theorem T_12_stepHere_85 {g : Gl} (xs0 : Int32) (M : Mem)  : Rn g 4 m12_stepHere 85 [none] [.int xs0] M (some (.int (F_12_stepHere_85 xs0 M).1)) ((F_12_stepHere_85 xs0 M).2) := by
  rw [F_12_stepHere_85]
  refine b12_stepHere_85  (fun h => ?_) (fun h => ?_)
  · rw [if_pos h]
    refine b12_stepHere_92  ?_
    exact b12_stepHere_93  rfl rfl
  · rw [if_neg h]
    refine b12_stepHere_88  ?_
    exact b12_stepHere_93  rfl rfl
def F_12_stepHere_67 (xs0 : Int32) (M : Mem) : Int32 × Mem := if xs0 = 0 then (F_12_stepHere_85 ((F_12_isWord_0 1 7 1 9 14 0 M).1) ((F_12_isWord_0 1 7 1 9 14 0 M).2)) else ((3, M))
def P_12_stepHere_67 (xs0 : Int32) (M : Mem) : Prop := ((xs0 = 0 → ((P_12_isWord_0 1 7 1 9 14 0 M))) ∧ (¬ xs0 = 0 → True))
theorem T_12_stepHere_67 {g : Gl} (xs0 : Int32) (M : Mem) (hp : P_12_stepHere_67 xs0 M) : Rn g 4 m12_stepHere 67 [some (.ref 0)] [.int xs0] M (some (.int (F_12_stepHere_67 xs0 M).1)) ((F_12_stepHere_67 xs0 M).2) := by
  rw [F_12_stepHere_67]
  rw [P_12_stepHere_67] at hp
  refine b12_stepHere_67  (fun h => ?_) (fun h => ?_)
  · rw [if_pos h]
    have hp := hp.1 h
    have hc := hp
    refine b12_stepHere_72  (C_12_isWord 1 7 1 9 14 0 M hc) (Nat.le_of_ble_eq_true rfl) ?_
    exact T_12_stepHere_85 ((F_12_isWord_0 1 7 1 9 14 0 M).1) ((F_12_isWord_0 1 7 1 9 14 0 M).2)
  · rw [if_neg h]
    exact b12_stepHere_70  rfl rfl
def F_12_stepHere_48 (xs0 : Int32) (M : Mem) : Int32 × Mem := if xs0 = 0 then (F_12_stepHere_67 ((F_12_isWord_0 8 15 21 18 0 0 M).1) ((F_12_isWord_0 8 15 21 18 0 0 M).2)) else ((2, M))
def P_12_stepHere_48 (xs0 : Int32) (M : Mem) : Prop := ((xs0 = 0 → ((P_12_isWord_0 8 15 21 18 0 0 M) ∧ (P_12_stepHere_67 ((F_12_isWord_0 8 15 21 18 0 0 M).1) ((F_12_isWord_0 8 15 21 18 0 0 M).2)))) ∧ (¬ xs0 = 0 → True))
theorem T_12_stepHere_48 {g : Gl} (xs0 : Int32) (M : Mem) (hp : P_12_stepHere_48 xs0 M) : Rn g 4 m12_stepHere 48 [some (.ref 0)] [.int xs0] M (some (.int (F_12_stepHere_48 xs0 M).1)) ((F_12_stepHere_48 xs0 M).2) := by
  rw [F_12_stepHere_48]
  rw [P_12_stepHere_48] at hp
  refine b12_stepHere_48  (fun h => ?_) (fun h => ?_)
  · rw [if_pos h]
    have hp := hp.1 h
    obtain ⟨hc, hp⟩ := hp
    refine b12_stepHere_53  (C_12_isWord 8 15 21 18 0 0 M hc) (Nat.le_of_ble_eq_true rfl) ?_
    exact T_12_stepHere_67 ((F_12_isWord_0 8 15 21 18 0 0 M).1) ((F_12_isWord_0 8 15 21 18 0 0 M).2) hp
  · rw [if_neg h]
    exact b12_stepHere_51  rfl rfl
def F_12_stepHere_30 (xs0 : Int32) (M : Mem) : Int32 × Mem := if xs0 = 0 then (F_12_stepHere_48 ((F_12_isWord_0 21 14 2 1 18 0 M).1) ((F_12_isWord_0 21 14 2 1 18 0 M).2)) else ((1, M))
def P_12_stepHere_30 (xs0 : Int32) (M : Mem) : Prop := ((xs0 = 0 → ((P_12_isWord_0 21 14 2 1 18 0 M) ∧ (P_12_stepHere_48 ((F_12_isWord_0 21 14 2 1 18 0 M).1) ((F_12_isWord_0 21 14 2 1 18 0 M).2)))) ∧ (¬ xs0 = 0 → True))
theorem T_12_stepHere_30 {g : Gl} (xs0 : Int32) (M : Mem) (hp : P_12_stepHere_30 xs0 M) : Rn g 4 m12_stepHere 30 [some (.ref 0)] [.int xs0] M (some (.int (F_12_stepHere_30 xs0 M).1)) ((F_12_stepHere_30 xs0 M).2) := by
  rw [F_12_stepHere_30]
  rw [P_12_stepHere_30] at hp
  refine b12_stepHere_30  (fun h => ?_) (fun h => ?_)
  · rw [if_pos h]
    have hp := hp.1 h
    obtain ⟨hc, hp⟩ := hp
    refine b12_stepHere_35  (C_12_isWord 21 14 2 1 18 0 M hc) (Nat.le_of_ble_eq_true rfl) ?_
    exact T_12_stepHere_48 ((F_12_isWord_0 21 14 2 1 18 0 M).1) ((F_12_isWord_0 21 14 2 1 18 0 M).2) hp
  · rw [if_neg h]
    exact b12_stepHere_33  rfl rfl
def F_12_stepHere_19 (M : Mem) : Int32 × Mem := F_12_stepHere_30 ((F_12_isWord_0 2 1 18 0 0 0 M).1) ((F_12_isWord_0 2 1 18 0 0 0 M).2)
def P_12_stepHere_19 (M : Mem) : Prop := ((P_12_isWord_0 2 1 18 0 0 0 M) ∧ (P_12_stepHere_30 ((F_12_isWord_0 2 1 18 0 0 0 M).1) ((F_12_isWord_0 2 1 18 0 0 0 M).2)))
theorem T_12_stepHere_19 {g : Gl} (M : Mem) (hp : P_12_stepHere_19 M) : Rn g 4 m12_stepHere 19 [some (.ref 0)] [] M (some (.int (F_12_stepHere_19 M).1)) ((F_12_stepHere_19 M).2) := by
  rw [F_12_stepHere_19]
  rw [P_12_stepHere_19] at hp
  obtain ⟨hc, hp⟩ := hp
  refine b12_stepHere_19  (C_12_isWord 2 1 18 0 0 0 M hc) (Nat.le_of_ble_eq_true rfl) ?_
  exact T_12_stepHere_30 ((F_12_isWord_0 2 1 18 0 0 0 M).1) ((F_12_isWord_0 2 1 18 0 0 0 M).2) hp
def F_12_stepHere_11 (xs0 : Int32) (M : Mem) : Int32 × Mem := if xs0 = 204 then ((0, M)) else (F_12_stepHere_19 M)
def P_12_stepHere_11 (xs0 : Int32) (M : Mem) : Prop := ((¬ xs0 = 204 → P_12_stepHere_19 M) ∧ (xs0 = 204 → True))
theorem T_12_stepHere_11 {g : Gl} (xs0 : Int32) (M : Mem) (hp : P_12_stepHere_11 xs0 M) : Rn g 4 m12_stepHere 11 [some (.ref 0)] [.int xs0] M (some (.int (F_12_stepHere_11 xs0 M).1)) ((F_12_stepHere_11 xs0 M).2) := by
  rw [F_12_stepHere_11]
  rw [P_12_stepHere_11] at hp
  refine b12_stepHere_11  (fun h => ?_) (fun h => ?_)
  · rw [if_neg h]
    have hp := hp.1 h
    exact T_12_stepHere_19 M hp
  · rw [if_pos h]
    exact b12_stepHere_17  rfl rfl
def F_12_stepHere_0 (M : Mem) : Int32 × Mem := if (rd M 0 5) = 0 then (F_12_stepHere_11 ((F_12_wordHere_0 M).1) ((F_12_wordHere_0 M).2)) else (F_12_stepHere_19 M)
def P_12_stepHere_0 (M : Mem) : Prop := ((¬ (rd M 0 5) = 0 → P_12_stepHere_19 M) ∧ ((rd M 0 5) = 0 → ((P_12_wordHere_0 M) ∧ (P_12_stepHere_11 ((F_12_wordHere_0 M).1) ((F_12_wordHere_0 M).2)))))
theorem T_12_stepHere_0 {g : Gl} (M : Mem) (hp : P_12_stepHere_0 M) : Rn g 4 m12_stepHere 0 [some (.ref 0)] [] M (some (.int (F_12_stepHere_0 M).1)) ((F_12_stepHere_0 M).2) := by
  rw [F_12_stepHere_0]
  rw [P_12_stepHere_0] at hp
  refine b12_stepHere_0  (fun h => ?_) (fun h => ?_)
  · rw [if_neg h]
    have hp := hp.1 h
    exact T_12_stepHere_19 M hp
  · rw [if_pos h]
    have hp := hp.2 h
    obtain ⟨hc, hp⟩ := hp
    refine b12_stepHere_7  (C_12_wordHere  M hc) (Nat.le_of_ble_eq_true rfl) ?_
    exact T_12_stepHere_11 ((F_12_wordHere_0 M).1) ((F_12_wordHere_0 M).2) hp
theorem C_12_stepHere {g : Gl}   (M : Mem) (hp : P_12_stepHere_0 M) : Ms g 4 m12_stepHere [.ref 0] M (some (.int (F_12_stepHere_0 M).1)) ((F_12_stepHere_0 M).2) := Ms.of okM_m12_stepHere (Nat.le_of_ble_eq_true rfl) (R_wk (lc rfl l0) (T_12_stepHere_0 M hp))
def F_12_readsStep_162 (rF : Mem → Mem) (k134 : Nat → Mem → Mem) (q2 : Nat) (M : Mem) : Mem := k134 q2 M
def P_12_readsStep_162 (rF : Mem → Mem) (rP : Mem → Prop) (pk134 : Nat → Mem → Prop) (q2 : Nat) (M : Mem) : Prop := (q2 < 80) ∧ ((pk134 q2 M))
theorem T_12_readsStep_162 {g : Gl} (rF : Mem → Mem) (rP : Mem → Prop) (k134 : Nat → Mem → Mem) (pk134 : Nat → Mem → Prop) {dr : Nat} (rT : ∀  (M : Mem), rP M → Ms g dr m12_readsStep [.ref 0] M (none) ((rF M))) (ih134 : ∀ (q2 : Nat) (M : Mem), pk134 q2 M → Rn g (dr + 5) m12_readsStep 134 [some (.ref 0), none, some (.ref (398 + q2))] [] M (none) ((k134 q2 M))) (q2 : Nat) (M : Mem) (hp : P_12_readsStep_162 rF rP pk134 q2 M) : Rn g (dr + 5) m12_readsStep 162 [some (.ref 0), none, some (.ref (398 + q2))] [] M (none) ((F_12_readsStep_162 rF k134 q2 M)) := by
  rw [F_12_readsStep_162]
  rw [P_12_readsStep_162] at hp
  obtain ⟨hq2, hp⟩ := hp
  refine b12_readsStep_162 hq2 ?_
  exact ih134 q2 M hp
def F_12_readsStep_158 (rF : Mem → Mem) (k134 : Nat → Mem → Mem) (q2 : Nat) (M : Mem) : Mem := F_12_readsStep_162 rF k134 q2 (F_12_blanks_0 FU M)
def P_12_readsStep_158 (rF : Mem → Mem) (rP : Mem → Prop) (pk134 : Nat → Mem → Prop) (q2 : Nat) (M : Mem) : Prop := (q2 < 80) ∧ (((P_12_blanks_0 FU M) ∧ (P_12_readsStep_162 rF rP pk134 q2 (F_12_blanks_0 FU M))))
theorem T_12_readsStep_158 {g : Gl} (rF : Mem → Mem) (rP : Mem → Prop) (k134 : Nat → Mem → Mem) (pk134 : Nat → Mem → Prop) {dr : Nat} (rT : ∀  (M : Mem), rP M → Ms g dr m12_readsStep [.ref 0] M (none) ((rF M))) (ih134 : ∀ (q2 : Nat) (M : Mem), pk134 q2 M → Rn g (dr + 5) m12_readsStep 134 [some (.ref 0), none, some (.ref (398 + q2))] [] M (none) ((k134 q2 M))) (q2 : Nat) (M : Mem) (hp : P_12_readsStep_158 rF rP pk134 q2 M) : Rn g (dr + 5) m12_readsStep 158 [some (.ref 0), none, some (.ref (398 + q2))] [] M (none) ((F_12_readsStep_158 rF k134 q2 M)) := by
  rw [F_12_readsStep_158]
  rw [P_12_readsStep_158] at hp
  obtain ⟨hq2, hp⟩ := hp
  obtain ⟨hc, hp⟩ := hp
  refine b12_readsStep_158 hq2 (C_12_blanks  M hc) (by omega) ?_
  exact T_12_readsStep_162 rF rP k134 pk134 rT ih134 q2 (F_12_blanks_0 FU M) hp
def F_12_readsStep_194 (rF : Mem → Mem) (M : Mem) : Mem := M
theorem T_12_readsStep_194 {g : Gl} (rF : Mem → Mem) (rP : Mem → Prop) {dr : Nat} (rT : ∀  (M : Mem), rP M → Ms g dr m12_readsStep [.ref 0] M (none) ((rF M))) (M : Mem)  : Rn g (dr + 5) m12_readsStep 194 [none, none, none] [] M (none) ((F_12_readsStep_194 rF M)) := by
  rw [F_12_readsStep_194]
  exact b12_readsStep_194  rfl rfl
def F_12_readsStep_181 (rF : Mem → Mem) (q2 : Nat) (M : Mem) : Mem := F_12_readsStep_194 rF (F_12_sign_0 59 (wr M (398 + q2) ((3 : Int32).toNatClampNeg) (rd M 0 30)))
def P_12_readsStep_181 (rF : Mem → Mem) (rP : Mem → Prop) (q2 : Nat) (M : Mem) : Prop := (q2 < 80) ∧ (((P_12_sign_0 59 (wr M (398 + q2) ((3 : Int32).toNatClampNeg) (rd M 0 30)))))
theorem T_12_readsStep_181 {g : Gl} (rF : Mem → Mem) (rP : Mem → Prop) {dr : Nat} (rT : ∀  (M : Mem), rP M → Ms g dr m12_readsStep [.ref 0] M (none) ((rF M))) (q2 : Nat) (M : Mem) (hp : P_12_readsStep_181 rF rP q2 M) : Rn g (dr + 5) m12_readsStep 181 [some (.ref 0), none, some (.ref (398 + q2))] [] M (none) ((F_12_readsStep_181 rF q2 M)) := by
  rw [F_12_readsStep_181]
  rw [P_12_readsStep_181] at hp
  obtain ⟨hq2, hp⟩ := hp
  have hc := hp
  refine b12_readsStep_181 hq2 (vpl (by decide)) (C_12_sign 59 (wr M (398 + q2) ((3 : Int32).toNatClampNeg) (rd M 0 30)) hc) (by omega) ?_
  exact T_12_readsStep_194 rF rP rT (F_12_sign_0 59 (wr M (398 + q2) ((3 : Int32).toNatClampNeg) (rd M 0 30)))
def F_12_readsStep_171 (rF : Mem → Mem) (q2 : Nat) (M : Mem) : Mem := F_12_readsStep_181 rF q2 (wr M 0 8 ((rd M 0 8) - 1))
def P_12_readsStep_171 (rF : Mem → Mem) (rP : Mem → Prop) (q2 : Nat) (M : Mem) : Prop := (q2 < 80) ∧ ((P_12_readsStep_181 rF rP q2 (wr M 0 8 ((rd M 0 8) - 1))))
theorem T_12_readsStep_171 {g : Gl} (rF : Mem → Mem) (rP : Mem → Prop) {dr : Nat} (rT : ∀  (M : Mem), rP M → Ms g dr m12_readsStep [.ref 0] M (none) ((rF M))) (q2 : Nat) (M : Mem) (hp : P_12_readsStep_171 rF rP q2 M) : Rn g (dr + 5) m12_readsStep 171 [some (.ref 0), none, some (.ref (398 + q2))] [] M (none) ((F_12_readsStep_171 rF q2 M)) := by
  rw [F_12_readsStep_171]
  rw [P_12_readsStep_171] at hp
  obtain ⟨hq2, hp⟩ := hp
  refine b12_readsStep_171 hq2 ?_
  exact T_12_readsStep_181 rF rP rT q2 (wr M 0 8 ((rd M 0 8) - 1)) hp
def F_12_readsStep_165 (rF : Mem → Mem) (q2 : Nat) (M : Mem) : Mem := F_12_readsStep_171 rF q2 (F_12_sign_0 93 M)
def P_12_readsStep_165 (rF : Mem → Mem) (rP : Mem → Prop) (q2 : Nat) (M : Mem) : Prop := (q2 < 80) ∧ (((P_12_sign_0 93 M) ∧ (P_12_readsStep_171 rF rP q2 (F_12_sign_0 93 M))))
theorem T_12_readsStep_165 {g : Gl} (rF : Mem → Mem) (rP : Mem → Prop) {dr : Nat} (rT : ∀  (M : Mem), rP M → Ms g dr m12_readsStep [.ref 0] M (none) ((rF M))) (q2 : Nat) (M : Mem) (hp : P_12_readsStep_165 rF rP q2 M) : Rn g (dr + 5) m12_readsStep 165 [some (.ref 0), none, some (.ref (398 + q2))] [] M (none) ((F_12_readsStep_165 rF q2 M)) := by
  rw [F_12_readsStep_165]
  rw [P_12_readsStep_165] at hp
  obtain ⟨hq2, hp⟩ := hp
  obtain ⟨hc, hp⟩ := hp
  refine b12_readsStep_165 hq2 (C_12_sign 93 M hc) (by omega) ?_
  exact T_12_readsStep_171 rF rP rT q2 (F_12_sign_0 93 M) hp
def F_12_readsStep_134 (rF : Mem → Mem) : Nat → Nat → Mem → Mem
  | 0, _, M => M
  | n + 1, q2, M => if (rd M 0 5) = 0 then (if (F_12_byteAt_0 M (rd M 0 4)) = 93 then (F_12_readsStep_165 rF q2 M) else (F_12_readsStep_158 rF (F_12_readsStep_134 rF n) q2 (rF M))) else (F_12_readsStep_165 rF q2 M)
def P_12_readsStep_134 (rF : Mem → Mem) (rP : Mem → Prop) : Nat → Nat → Mem → Prop
  | 0, _, _ => False
  | n + 1, q2, M => (q2 < 80) ∧ (((¬ (rd M 0 5) = 0 → P_12_readsStep_165 rF rP q2 M) ∧ ((rd M 0 5) = 0 → ((P_12_byteAt_0 M (rd M 0 4)) ∧ ((((F_12_byteAt_0 M (rd M 0 4)) = 93 → P_12_readsStep_165 rF rP q2 M) ∧ (¬ (F_12_byteAt_0 M (rd M 0 4)) = 93 → ((rP M) ∧ (P_12_readsStep_158 rF rP (P_12_readsStep_134 rF rP n) q2 (rF M))))))))))
theorem T_12_readsStep_134 {g : Gl} (rF : Mem → Mem) (rP : Mem → Prop) {dr : Nat} (rT : ∀  (M : Mem), rP M → Ms g dr m12_readsStep [.ref 0] M (none) ((rF M))) : ∀ (n : Nat) (q2 : Nat) (M : Mem) (hp : P_12_readsStep_134 rF rP n q2 M), Rn g (dr + 5) m12_readsStep 134 [some (.ref 0), none, some (.ref (398 + q2))] [] M (none) ((F_12_readsStep_134 rF n q2 M)) := by
  intro n
  induction n with
  | zero => intro q2 M hp; exact hp.elim
  | succ n ih =>
    intro q2 M hp
    rw [F_12_readsStep_134]
    rw [P_12_readsStep_134] at hp
    obtain ⟨hq2, hp⟩ := hp
    refine b12_readsStep_134 hq2 (fun h => ?_) (fun h => ?_)
    · rw [if_neg h]
      have hp := hp.1 h
      exact T_12_readsStep_165 rF rP rT q2 M hp
    · rw [if_pos h]
      have hp := hp.2 h
      obtain ⟨hc, hp⟩ := hp
      refine b12_readsStep_141 hq2 (C_12_byteAt (rd M 0 4) M hc) (by omega) ?_
      refine b12_readsStep_149 hq2 (fun h => ?_) (fun h => ?_)
      · rw [if_pos h]
        have hp := hp.1 h
        exact T_12_readsStep_165 rF rP rT q2 M hp
      · rw [if_neg h]
        have hp := hp.2 h
        obtain ⟨hc, hp⟩ := hp
        refine b12_readsStep_154 hq2 (rT M hc) (by omega) ?_
        exact T_12_readsStep_158 rF rP (F_12_readsStep_134 rF n) (P_12_readsStep_134 rF rP n) rT ih q2 (rF M) hp
def F_12_readsStep_130 (rF : Mem → Mem) (q2 : Nat) (M : Mem) : Mem := F_12_readsStep_134 rF FU q2 (F_12_blanks_0 FU M)
def P_12_readsStep_130 (rF : Mem → Mem) (rP : Mem → Prop) (q2 : Nat) (M : Mem) : Prop := (q2 < 80) ∧ (((P_12_blanks_0 FU M) ∧ (P_12_readsStep_134 rF rP FU q2 (F_12_blanks_0 FU M))))
theorem T_12_readsStep_130 {g : Gl} (rF : Mem → Mem) (rP : Mem → Prop) {dr : Nat} (rT : ∀  (M : Mem), rP M → Ms g dr m12_readsStep [.ref 0] M (none) ((rF M))) (q2 : Nat) (M : Mem) (hp : P_12_readsStep_130 rF rP q2 M) : Rn g (dr + 5) m12_readsStep 130 [some (.ref 0), none, some (.ref (398 + q2))] [] M (none) ((F_12_readsStep_130 rF q2 M)) := by
  rw [F_12_readsStep_130]
  rw [P_12_readsStep_130] at hp
  obtain ⟨hq2, hp⟩ := hp
  obtain ⟨hc, hp⟩ := hp
  refine b12_readsStep_130 hq2 (C_12_blanks  M hc) (by omega) ?_
  exact T_12_readsStep_134 rF rP rT FU q2 (F_12_blanks_0 FU M) hp
def F_12_readsStep_123 (rF : Mem → Mem) (q2 : Nat) (xs0 : Int32) (xs1 : Int32) (qs2 : Nat) (M : Mem) : Mem := F_12_readsStep_130 rF q2 (F_12_sign_0 91 (wr M (398 + qs2) xs1.toNatClampNeg xs0))
def P_12_readsStep_123 (rF : Mem → Mem) (rP : Mem → Prop) (q2 : Nat) (xs0 : Int32) (xs1 : Int32) (qs2 : Nat) (M : Mem) : Prop := (q2 < 80) ∧ ((qs2 < 80) ∧ ((vp_in xs1 4) ∧ ((P_12_sign_0 91 (wr M (398 + qs2) xs1.toNatClampNeg xs0)) ∧ (P_12_readsStep_130 rF rP q2 (F_12_sign_0 91 (wr M (398 + qs2) xs1.toNatClampNeg xs0))))))
theorem T_12_readsStep_123 {g : Gl} (rF : Mem → Mem) (rP : Mem → Prop) {dr : Nat} (rT : ∀  (M : Mem), rP M → Ms g dr m12_readsStep [.ref 0] M (none) ((rF M))) (q2 : Nat) (xs0 : Int32) (xs1 : Int32) (qs2 : Nat) (M : Mem) (hp : P_12_readsStep_123 rF rP q2 xs0 xs1 qs2 M) : Rn g (dr + 5) m12_readsStep 123 [some (.ref 0), none, some (.ref (398 + q2))] [.int xs0, .int xs1, .ref (398 + qs2)] M (none) ((F_12_readsStep_123 rF q2 xs0 xs1 qs2 M)) := by
  rw [F_12_readsStep_123]
  rw [P_12_readsStep_123] at hp
  obtain ⟨hq2, hqs2, hp⟩ := hp
  obtain ⟨p0, hp⟩ := hp
  obtain ⟨hc, hp⟩ := hp
  refine b12_readsStep_123 hq2 hqs2 p0 (C_12_sign 91 (wr M (398 + qs2) xs1.toNatClampNeg xs0) hc) (by omega) ?_
  exact T_12_readsStep_130 rF rP rT q2 (F_12_sign_0 91 (wr M (398 + qs2) xs1.toNatClampNeg xs0)) hp
def F_12_readsStep_109 (rF : Mem → Mem) (x1 : Int32) (q2 : Nat) (M : Mem) : Mem := if x1 = 4 then (F_12_readsStep_123 rF q2 ((F_12_number_0 0 30 M).1) 1 q2 ((F_12_number_0 0 30 M).2)) else (F_12_readsStep_181 rF q2 M)
def P_12_readsStep_109 (rF : Mem → Mem) (rP : Mem → Prop) (x1 : Int32) (q2 : Nat) (M : Mem) : Prop := (q2 < 80) ∧ (((¬ x1 = 4 → P_12_readsStep_181 rF rP q2 M) ∧ (x1 = 4 → ((P_12_number_0 0 30 M) ∧ (P_12_readsStep_123 rF rP q2 ((F_12_number_0 0 30 M).1) 1 q2 ((F_12_number_0 0 30 M).2))))))
theorem T_12_readsStep_109 {g : Gl} (rF : Mem → Mem) (rP : Mem → Prop) {dr : Nat} (rT : ∀  (M : Mem), rP M → Ms g dr m12_readsStep [.ref 0] M (none) ((rF M))) (x1 : Int32) (q2 : Nat) (M : Mem) (hp : P_12_readsStep_109 rF rP x1 q2 M) : Rn g (dr + 5) m12_readsStep 109 [some (.ref 0), some (.int x1), some (.ref (398 + q2))] [] M (none) ((F_12_readsStep_109 rF x1 q2 M)) := by
  rw [F_12_readsStep_109]
  rw [P_12_readsStep_109] at hp
  obtain ⟨hq2, hp⟩ := hp
  refine b12_readsStep_109 hq2 (fun h => ?_) (fun h => ?_)
  · rw [if_neg h]
    have hp := hp.1 h
    exact T_12_readsStep_181 rF rP rT q2 M hp
  · rw [if_pos h]
    have hp := hp.2 h
    obtain ⟨hc, hp⟩ := hp
    refine b12_readsStep_114 hq2 (C_12_number 0 30 M hc) (by omega) ?_
    exact T_12_readsStep_123 rF rP rT q2 ((F_12_number_0 0 30 M).1) 1 q2 ((F_12_number_0 0 30 M).2) hp
def F_12_readsStep_108 (rF : Mem → Mem) (x1 : Int32) (q2 : Nat) (xs0 : Int32) (xs1 : Int32) (qs2 : Nat) (M : Mem) : Mem := F_12_readsStep_109 rF x1 q2 (wr M (398 + qs2) xs1.toNatClampNeg xs0)
def P_12_readsStep_108 (rF : Mem → Mem) (rP : Mem → Prop) (x1 : Int32) (q2 : Nat) (xs0 : Int32) (xs1 : Int32) (qs2 : Nat) (M : Mem) : Prop := (q2 < 80) ∧ ((qs2 < 80) ∧ ((vp_in xs1 4) ∧ (P_12_readsStep_109 rF rP x1 q2 (wr M (398 + qs2) xs1.toNatClampNeg xs0))))
theorem T_12_readsStep_108 {g : Gl} (rF : Mem → Mem) (rP : Mem → Prop) {dr : Nat} (rT : ∀  (M : Mem), rP M → Ms g dr m12_readsStep [.ref 0] M (none) ((rF M))) (x1 : Int32) (q2 : Nat) (xs0 : Int32) (xs1 : Int32) (qs2 : Nat) (M : Mem) (hp : P_12_readsStep_108 rF rP x1 q2 xs0 xs1 qs2 M) : Rn g (dr + 5) m12_readsStep 108 [some (.ref 0), some (.int x1), some (.ref (398 + q2))] [.int xs0, .int xs1, .ref (398 + qs2)] M (none) ((F_12_readsStep_108 rF x1 q2 xs0 xs1 qs2 M)) := by
  rw [F_12_readsStep_108]
  rw [P_12_readsStep_108] at hp
  obtain ⟨hq2, hqs2, hp⟩ := hp
  obtain ⟨p0, hp⟩ := hp
  refine b12_readsStep_108 hq2 hqs2 p0 ?_
  exact T_12_readsStep_109 rF rP rT x1 q2 (wr M (398 + qs2) xs1.toNatClampNeg xs0) hp
def F_12_readsStep_88 (rF : Mem → Mem) (x1 : Int32) (q2 : Nat) (M : Mem) : Mem := if (3 : Int32) ≤ x1 then (F_12_readsStep_109 rF x1 q2 M) else (F_12_readsStep_108 rF x1 q2 ((F_12_number_0 0 ((rd M 4 ((1 : Int32).toNatClampNeg)) - 1) M).1) 2 q2 ((F_12_number_0 0 ((rd M 4 ((1 : Int32).toNatClampNeg)) - 1) M).2))
def P_12_readsStep_88 (rF : Mem → Mem) (rP : Mem → Prop) (x1 : Int32) (q2 : Nat) (M : Mem) : Prop := (q2 < 80) ∧ ((((3 : Int32) ≤ x1 → P_12_readsStep_109 rF rP x1 q2 M) ∧ (¬ (3 : Int32) ≤ x1 → ((P_12_number_0 0 ((rd M 4 ((1 : Int32).toNatClampNeg)) - 1) M) ∧ (P_12_readsStep_108 rF rP x1 q2 ((F_12_number_0 0 ((rd M 4 ((1 : Int32).toNatClampNeg)) - 1) M).1) 2 q2 ((F_12_number_0 0 ((rd M 4 ((1 : Int32).toNatClampNeg)) - 1) M).2))))))
theorem T_12_readsStep_88 {g : Gl} (rF : Mem → Mem) (rP : Mem → Prop) {dr : Nat} (rT : ∀  (M : Mem), rP M → Ms g dr m12_readsStep [.ref 0] M (none) ((rF M))) (x1 : Int32) (q2 : Nat) (M : Mem) (hp : P_12_readsStep_88 rF rP x1 q2 M) : Rn g (dr + 5) m12_readsStep 88 [some (.ref 0), some (.int x1), some (.ref (398 + q2))] [] M (none) ((F_12_readsStep_88 rF x1 q2 M)) := by
  rw [F_12_readsStep_88]
  rw [P_12_readsStep_88] at hp
  obtain ⟨hq2, hp⟩ := hp
  refine b12_readsStep_88 hq2 (fun h => ?_) (fun h => ?_)
  · rw [if_pos h]
    have hp := hp.1 h
    exact T_12_readsStep_109 rF rP rT x1 q2 M hp
  · rw [if_neg h]
    have hp := hp.2 h
    obtain ⟨hc, hp⟩ := hp
    refine b12_readsStep_93 hq2 (vpl (by decide)) (C_12_number 0 ((rd M 4 ((1 : Int32).toNatClampNeg)) - 1) M hc) (by omega) ?_
    exact T_12_readsStep_108 rF rP rT x1 q2 ((F_12_number_0 0 ((rd M 4 ((1 : Int32).toNatClampNeg)) - 1) M).1) 2 q2 ((F_12_number_0 0 ((rd M 4 ((1 : Int32).toNatClampNeg)) - 1) M).2) hp
def F_12_readsStep_87 (rF : Mem → Mem) (x1 : Int32) (q2 : Nat) (xs0 : Int32) (xs1 : Int32) (qs2 : Nat) (M : Mem) : Mem := F_12_readsStep_88 rF x1 q2 (wr M (398 + qs2) xs1.toNatClampNeg xs0)
def P_12_readsStep_87 (rF : Mem → Mem) (rP : Mem → Prop) (x1 : Int32) (q2 : Nat) (xs0 : Int32) (xs1 : Int32) (qs2 : Nat) (M : Mem) : Prop := (q2 < 80) ∧ ((qs2 < 80) ∧ ((vp_in xs1 4) ∧ (P_12_readsStep_88 rF rP x1 q2 (wr M (398 + qs2) xs1.toNatClampNeg xs0))))
theorem T_12_readsStep_87 {g : Gl} (rF : Mem → Mem) (rP : Mem → Prop) {dr : Nat} (rT : ∀  (M : Mem), rP M → Ms g dr m12_readsStep [.ref 0] M (none) ((rF M))) (x1 : Int32) (q2 : Nat) (xs0 : Int32) (xs1 : Int32) (qs2 : Nat) (M : Mem) (hp : P_12_readsStep_87 rF rP x1 q2 xs0 xs1 qs2 M) : Rn g (dr + 5) m12_readsStep 87 [some (.ref 0), some (.int x1), some (.ref (398 + q2))] [.int xs0, .int xs1, .ref (398 + qs2)] M (none) ((F_12_readsStep_87 rF x1 q2 xs0 xs1 qs2 M)) := by
  rw [F_12_readsStep_87]
  rw [P_12_readsStep_87] at hp
  obtain ⟨hq2, hqs2, hp⟩ := hp
  obtain ⟨p0, hp⟩ := hp
  refine b12_readsStep_87 hq2 hqs2 p0 ?_
  exact T_12_readsStep_88 rF rP rT x1 q2 (wr M (398 + qs2) xs1.toNatClampNeg xs0) hp
def F_12_readsStep_44 (rF : Mem → Mem) (x1 : Int32) (M : Mem) : Mem := if x1 = 0 then (F_12_readsStep_87 rF x1 ((rd M 0 30).toNatClampNeg) ((F_12_number_0 0 ((rd (wr (wr M 0 30 ((rd M 0 30) + 1)) (398 + (rd M 0 30).toNatClampNeg) ((0 : Int32).toNatClampNeg) x1) 4 ((2 : Int32).toNatClampNeg)) - 1) (wr (wr M 0 30 ((rd M 0 30) + 1)) (398 + (rd M 0 30).toNatClampNeg) ((0 : Int32).toNatClampNeg) x1)).1) 1 ((rd M 0 30).toNatClampNeg) ((F_12_number_0 0 ((rd (wr (wr M 0 30 ((rd M 0 30) + 1)) (398 + (rd M 0 30).toNatClampNeg) ((0 : Int32).toNatClampNeg) x1) 4 ((2 : Int32).toNatClampNeg)) - 1) (wr (wr M 0 30 ((rd M 0 30) + 1)) (398 + (rd M 0 30).toNatClampNeg) ((0 : Int32).toNatClampNeg) x1)).2)) else (F_12_readsStep_88 rF x1 ((rd M 0 30).toNatClampNeg) (wr (wr M 0 30 ((rd M 0 30) + 1)) (398 + (rd M 0 30).toNatClampNeg) ((0 : Int32).toNatClampNeg) x1))
def P_12_readsStep_44 (rF : Mem → Mem) (rP : Mem → Prop) (x1 : Int32) (M : Mem) : Prop := (vp_in (rd M 0 30) 80) ∧ ((¬ x1 = 0 → P_12_readsStep_88 rF rP x1 ((rd M 0 30).toNatClampNeg) (wr (wr M 0 30 ((rd M 0 30) + 1)) (398 + (rd M 0 30).toNatClampNeg) ((0 : Int32).toNatClampNeg) x1)) ∧ (x1 = 0 → ((P_12_number_0 0 ((rd (wr (wr M 0 30 ((rd M 0 30) + 1)) (398 + (rd M 0 30).toNatClampNeg) ((0 : Int32).toNatClampNeg) x1) 4 ((2 : Int32).toNatClampNeg)) - 1) (wr (wr M 0 30 ((rd M 0 30) + 1)) (398 + (rd M 0 30).toNatClampNeg) ((0 : Int32).toNatClampNeg) x1)) ∧ (P_12_readsStep_87 rF rP x1 ((rd M 0 30).toNatClampNeg) ((F_12_number_0 0 ((rd (wr (wr M 0 30 ((rd M 0 30) + 1)) (398 + (rd M 0 30).toNatClampNeg) ((0 : Int32).toNatClampNeg) x1) 4 ((2 : Int32).toNatClampNeg)) - 1) (wr (wr M 0 30 ((rd M 0 30) + 1)) (398 + (rd M 0 30).toNatClampNeg) ((0 : Int32).toNatClampNeg) x1)).1) 1 ((rd M 0 30).toNatClampNeg) ((F_12_number_0 0 ((rd (wr (wr M 0 30 ((rd M 0 30) + 1)) (398 + (rd M 0 30).toNatClampNeg) ((0 : Int32).toNatClampNeg) x1) 4 ((2 : Int32).toNatClampNeg)) - 1) (wr (wr M 0 30 ((rd M 0 30) + 1)) (398 + (rd M 0 30).toNatClampNeg) ((0 : Int32).toNatClampNeg) x1)).2)))))
theorem T_12_readsStep_44 {g : Gl} (rF : Mem → Mem) (rP : Mem → Prop) {dr : Nat} (rT : ∀  (M : Mem), rP M → Ms g dr m12_readsStep [.ref 0] M (none) ((rF M))) (x1 : Int32) (M : Mem) (hp : P_12_readsStep_44 rF rP x1 M) : Rn g (dr + 5) m12_readsStep 44 [some (.ref 0), some (.int x1), none] [] M (none) ((F_12_readsStep_44 rF x1 M)) := by
  rw [F_12_readsStep_44]
  rw [P_12_readsStep_44] at hp
  obtain ⟨p0, hp⟩ := hp
  refine b12_readsStep_44 p0 (vpl (by decide)) (fun h => ?_) (fun h => ?_)
  · rw [if_neg h]
    have hp := hp.1 h
    exact T_12_readsStep_88 rF rP rT x1 ((rd M 0 30).toNatClampNeg) (wr (wr M 0 30 ((rd M 0 30) + 1)) (398 + (rd M 0 30).toNatClampNeg) ((0 : Int32).toNatClampNeg) x1) hp
  · rw [if_pos h]
    have hp := hp.2 h
    obtain ⟨hc, hp⟩ := hp
    refine b12_readsStep_72 ((vp_lt p0)) (vpl (by decide)) (C_12_number 0 ((rd (wr (wr M 0 30 ((rd M 0 30) + 1)) (398 + (rd M 0 30).toNatClampNeg) ((0 : Int32).toNatClampNeg) x1) 4 ((2 : Int32).toNatClampNeg)) - 1) (wr (wr M 0 30 ((rd M 0 30) + 1)) (398 + (rd M 0 30).toNatClampNeg) ((0 : Int32).toNatClampNeg) x1) hc) (by omega) ?_
    exact T_12_readsStep_87 rF rP rT x1 ((rd M 0 30).toNatClampNeg) ((F_12_number_0 0 ((rd (wr (wr M 0 30 ((rd M 0 30) + 1)) (398 + (rd M 0 30).toNatClampNeg) ((0 : Int32).toNatClampNeg) x1) 4 ((2 : Int32).toNatClampNeg)) - 1) (wr (wr M 0 30 ((rd M 0 30) + 1)) (398 + (rd M 0 30).toNatClampNeg) ((0 : Int32).toNatClampNeg) x1)).1) 1 ((rd M 0 30).toNatClampNeg) ((F_12_number_0 0 ((rd (wr (wr M 0 30 ((rd M 0 30) + 1)) (398 + (rd M 0 30).toNatClampNeg) ((0 : Int32).toNatClampNeg) x1) 4 ((2 : Int32).toNatClampNeg)) - 1) (wr (wr M 0 30 ((rd M 0 30) + 1)) (398 + (rd M 0 30).toNatClampNeg) ((0 : Int32).toNatClampNeg) x1)).2) hp
def F_12_readsStep_32 (rF : Mem → Mem) (x1 : Int32) (M : Mem) : Mem := if (rd M 0 5) = 0 then (F_12_readsStep_44 rF x1 (F_12_skipWord_0 FU M)) else (M)
def P_12_readsStep_32 (rF : Mem → Mem) (rP : Mem → Prop) (x1 : Int32) (M : Mem) : Prop := (((rd M 0 5) = 0 → ((P_12_skipWord_0 FU M) ∧ (P_12_readsStep_44 rF rP x1 (F_12_skipWord_0 FU M)))) ∧ (¬ (rd M 0 5) = 0 → True))
theorem T_12_readsStep_32 {g : Gl} (rF : Mem → Mem) (rP : Mem → Prop) {dr : Nat} (rT : ∀  (M : Mem), rP M → Ms g dr m12_readsStep [.ref 0] M (none) ((rF M))) (x1 : Int32) (M : Mem) (hp : P_12_readsStep_32 rF rP x1 M) : Rn g (dr + 5) m12_readsStep 32 [some (.ref 0), some (.int x1), none] [] M (none) ((F_12_readsStep_32 rF x1 M)) := by
  rw [F_12_readsStep_32]
  rw [P_12_readsStep_32] at hp
  refine b12_readsStep_32  (fun h => ?_) (fun h => ?_)
  · rw [if_pos h]
    have hp := hp.1 h
    obtain ⟨hc, hp⟩ := hp
    refine b12_readsStep_40  (C_12_skipWord  M hc) (by omega) ?_
    exact T_12_readsStep_44 rF rP rT x1 (F_12_skipWord_0 FU M) hp
  · rw [if_neg h]
    exact b12_readsStep_39  rfl rfl
def F_12_readsStep_28 (rF : Mem → Mem) (x1 : Int32) (xs0 : Int32) (M : Mem) : Mem := if xs0 = 0 then (M) else (F_12_readsStep_32 rF x1 M)
def P_12_readsStep_28 (rF : Mem → Mem) (rP : Mem → Prop) (x1 : Int32) (xs0 : Int32) (M : Mem) : Prop := ((¬ xs0 = 0 → P_12_readsStep_32 rF rP x1 M) ∧ (xs0 = 0 → True))
theorem T_12_readsStep_28 {g : Gl} (rF : Mem → Mem) (rP : Mem → Prop) {dr : Nat} (rT : ∀  (M : Mem), rP M → Ms g dr m12_readsStep [.ref 0] M (none) ((rF M))) (x1 : Int32) (xs0 : Int32) (M : Mem) (hp : P_12_readsStep_28 rF rP x1 xs0 M) : Rn g (dr + 5) m12_readsStep 28 [some (.ref 0), some (.int x1), none] [.int xs0] M (none) ((F_12_readsStep_28 rF x1 xs0 M)) := by
  rw [F_12_readsStep_28]
  rw [P_12_readsStep_28] at hp
  refine b12_readsStep_28  (fun h => ?_) (fun h => ?_)
  · rw [if_neg h]
    have hp := hp.1 h
    exact T_12_readsStep_32 rF rP rT x1 M hp
  · rw [if_pos h]
    exact b12_readsStep_31  rfl rfl
def F_12_readsStep_19 (rF : Mem → Mem) (x1 : Int32) (M : Mem) : Mem := if x1 = 4 then (F_12_readsStep_28 rF x1 ((F_12_opensOne_0 M).1) ((F_12_opensOne_0 M).2)) else (F_12_readsStep_32 rF x1 M)
def P_12_readsStep_19 (rF : Mem → Mem) (rP : Mem → Prop) (x1 : Int32) (M : Mem) : Prop := ((¬ x1 = 4 → P_12_readsStep_32 rF rP x1 M) ∧ (x1 = 4 → ((P_12_readsStep_28 rF rP x1 ((F_12_opensOne_0 M).1) ((F_12_opensOne_0 M).2)))))
theorem T_12_readsStep_19 {g : Gl} (rF : Mem → Mem) (rP : Mem → Prop) {dr : Nat} (rT : ∀  (M : Mem), rP M → Ms g dr m12_readsStep [.ref 0] M (none) ((rF M))) (x1 : Int32) (M : Mem) (hp : P_12_readsStep_19 rF rP x1 M) : Rn g (dr + 5) m12_readsStep 19 [some (.ref 0), some (.int x1), none] [] M (none) ((F_12_readsStep_19 rF x1 M)) := by
  rw [F_12_readsStep_19]
  rw [P_12_readsStep_19] at hp
  refine b12_readsStep_19  (fun h => ?_) (fun h => ?_)
  · rw [if_neg h]
    have hp := hp.1 h
    exact T_12_readsStep_32 rF rP rT x1 M hp
  · rw [if_pos h]
    have hp := hp.2 h
    refine b12_readsStep_24  (C_12_opensOne  M) (by omega) ?_
    exact T_12_readsStep_28 rF rP rT x1 ((F_12_opensOne_0 M).1) ((F_12_opensOne_0 M).2) hp
def F_12_readsStep_4 (rF : Mem → Mem) (xs0 : Int32) (M : Mem) : Mem := if xs0 = (-1) then (F_12_readsStep_19 rF xs0 (F_12_wrong_0 1 (rd M 0 4) M)) else (F_12_readsStep_19 rF xs0 M)
def P_12_readsStep_4 (rF : Mem → Mem) (rP : Mem → Prop) (xs0 : Int32) (M : Mem) : Prop := ((¬ xs0 = (-1) → P_12_readsStep_19 rF rP xs0 M) ∧ (xs0 = (-1) → ((P_12_readsStep_19 rF rP xs0 (F_12_wrong_0 1 (rd M 0 4) M)))))
theorem T_12_readsStep_4 {g : Gl} (rF : Mem → Mem) (rP : Mem → Prop) {dr : Nat} (rT : ∀  (M : Mem), rP M → Ms g dr m12_readsStep [.ref 0] M (none) ((rF M))) (xs0 : Int32) (M : Mem) (hp : P_12_readsStep_4 rF rP xs0 M) : Rn g (dr + 5) m12_readsStep 4 [some (.ref 0), none, none] [.int xs0] M (none) ((F_12_readsStep_4 rF xs0 M)) := by
  rw [F_12_readsStep_4]
  rw [P_12_readsStep_4] at hp
  refine b12_readsStep_4  (fun h => ?_) (fun h => ?_)
  · rw [if_neg h]
    have hp := hp.1 h
    exact T_12_readsStep_19 rF rP rT xs0 M hp
  · rw [if_pos h]
    have hp := hp.2 h
    refine b12_readsStep_10  (C_12_wrong 1 (rd M 0 4) M) (by omega) ?_
    exact T_12_readsStep_19 rF rP rT xs0 (F_12_wrong_0 1 (rd M 0 4) M) hp
def F_12_readsStep_0 (rF : Mem → Mem) (M : Mem) : Mem := F_12_readsStep_4 rF ((F_12_stepHere_0 M).1) ((F_12_stepHere_0 M).2)
def P_12_readsStep_0 (rF : Mem → Mem) (rP : Mem → Prop) (M : Mem) : Prop := ((P_12_stepHere_0 M) ∧ (P_12_readsStep_4 rF rP ((F_12_stepHere_0 M).1) ((F_12_stepHere_0 M).2)))
theorem T_12_readsStep_0 {g : Gl} (rF : Mem → Mem) (rP : Mem → Prop) {dr : Nat} (rT : ∀  (M : Mem), rP M → Ms g dr m12_readsStep [.ref 0] M (none) ((rF M))) (M : Mem) (hp : P_12_readsStep_0 rF rP M) : Rn g (dr + 5) m12_readsStep 0 [some (.ref 0), none, none] [] M (none) ((F_12_readsStep_0 rF M)) := by
  rw [F_12_readsStep_0]
  rw [P_12_readsStep_0] at hp
  obtain ⟨hc, hp⟩ := hp
  refine b12_readsStep_0  (C_12_stepHere  M hc) (by omega) ?_
  exact T_12_readsStep_4 rF rP rT ((F_12_stepHere_0 M).1) ((F_12_stepHere_0 M).2) hp
theorem C_12_readsStep {g : Gl} (rF : Mem → Mem) (rP : Mem → Prop) {dr : Nat} (rT : ∀  (M : Mem), rP M → Ms g dr m12_readsStep [.ref 0] M (none) ((rF M)))  (M : Mem) (hp : P_12_readsStep_0 rF rP M) : Ms g (dr + 5) m12_readsStep [.ref 0] M (none) ((F_12_readsStep_0 rF M)) := Ms.of okM_m12_readsStep (Nat.le_of_ble_eq_true rfl) (R_wk (lc rfl (ln (ln l0))) (T_12_readsStep_0 rF rP rT M hp))
def G_12_readsStep  : Nat → Mem → Mem
  | 0, M => M
  | n + 1, M => F_12_readsStep_0 (G_12_readsStep n) M
def H_12_readsStep  : Nat → Mem → Prop
  | 0, _ => False
  | n + 1, M => P_12_readsStep_0 (G_12_readsStep n) (H_12_readsStep n) M
theorem D_12_readsStep {g : Gl}  : ∀ (n : Nat)  (M : Mem), H_12_readsStep n M → Ms g (5 * n) m12_readsStep [.ref 0] M (none) ((G_12_readsStep n M)) := by
  intro n
  induction n with
  | zero => intro M hp; exact hp.elim
  | succ n ih =>
    intro M hp
    rw [G_12_readsStep]
    rw [H_12_readsStep] at hp
    exact C_12_readsStep (G_12_readsStep n) (H_12_readsStep n) ih M hp
def F_12_walk_125 (k46 : Int32 → Mem → Int32 × Mem) (x2 : Int32) (M : Mem) : Int32 × Mem := k46 x2 M
def P_12_walk_125 (pk46 : Int32 → Mem → Prop) (x2 : Int32) (M : Mem) : Prop := (pk46 x2 M)
theorem T_12_walk_125 {g : Gl} (k46 : Int32 → Mem → Int32 × Mem) (pk46 : Int32 → Mem → Prop) (ih46 : ∀ (x2 : Int32) (M : Mem), pk46 x2 M → Rn g 3 m12_walk 46 [some (.ref 0), none, some (.int x2), none, none] [] M (some (.int (k46 x2 M).1)) ((k46 x2 M).2)) (x2 : Int32) (M : Mem) (hp : P_12_walk_125 pk46 x2 M) : Rn g 3 m12_walk 125 [some (.ref 0), none, some (.int x2), none, none] [] M (some (.int (F_12_walk_125 k46 x2 M).1)) ((F_12_walk_125 k46 x2 M).2) := by
  rw [F_12_walk_125]
  rw [P_12_walk_125] at hp
  refine b12_walk_125  ?_
  exact ih46 x2 M hp
def F_12_walk_121 (k46 : Int32 → Mem → Int32 × Mem) (x2 : Int32) (M : Mem) : Int32 × Mem := F_12_walk_125 k46 x2 (F_12_blanks_0 FU M)
def P_12_walk_121 (pk46 : Int32 → Mem → Prop) (x2 : Int32) (M : Mem) : Prop := ((P_12_blanks_0 FU M) ∧ (P_12_walk_125 pk46 x2 (F_12_blanks_0 FU M)))
theorem T_12_walk_121 {g : Gl} (k46 : Int32 → Mem → Int32 × Mem) (pk46 : Int32 → Mem → Prop) (ih46 : ∀ (x2 : Int32) (M : Mem), pk46 x2 M → Rn g 3 m12_walk 46 [some (.ref 0), none, some (.int x2), none, none] [] M (some (.int (k46 x2 M).1)) ((k46 x2 M).2)) (x2 : Int32) (M : Mem) (hp : P_12_walk_121 pk46 x2 M) : Rn g 3 m12_walk 121 [some (.ref 0), none, some (.int x2), none, none] [] M (some (.int (F_12_walk_121 k46 x2 M).1)) ((F_12_walk_121 k46 x2 M).2) := by
  rw [F_12_walk_121]
  rw [P_12_walk_121] at hp
  obtain ⟨hc, hp⟩ := hp
  refine b12_walk_121  (C_12_blanks  M hc) (Nat.le_of_ble_eq_true rfl) ?_
  exact T_12_walk_125 k46 pk46 ih46 x2 (F_12_blanks_0 FU M) hp
def F_12_walk_103 (k46 : Int32 → Mem → Int32 × Mem) (x2 : Int32) (x4 : Int32) (M : Mem) : Int32 × Mem := if (rd M 0 5) = 0 then (F_12_walk_121 k46 (x2 + 1) (wr M 18 x2.toNatClampNeg x4)) else (F_12_walk_121 k46 x2 M)
def P_12_walk_103 (pk46 : Int32 → Mem → Prop) (x2 : Int32) (x4 : Int32) (M : Mem) : Prop := ((¬ (rd M 0 5) = 0 → P_12_walk_121 pk46 x2 M) ∧ ((rd M 0 5) = 0 → (vp_in x2 12) ∧ (P_12_walk_121 pk46 (x2 + 1) (wr M 18 x2.toNatClampNeg x4))))
theorem T_12_walk_103 {g : Gl} (k46 : Int32 → Mem → Int32 × Mem) (pk46 : Int32 → Mem → Prop) (ih46 : ∀ (x2 : Int32) (M : Mem), pk46 x2 M → Rn g 3 m12_walk 46 [some (.ref 0), none, some (.int x2), none, none] [] M (some (.int (k46 x2 M).1)) ((k46 x2 M).2)) (x2 : Int32) (x4 : Int32) (M : Mem) (hp : P_12_walk_103 pk46 x2 x4 M) : Rn g 3 m12_walk 103 [some (.ref 0), none, some (.int x2), none, some (.int x4)] [] M (some (.int (F_12_walk_103 k46 x2 x4 M).1)) ((F_12_walk_103 k46 x2 x4 M).2) := by
  rw [F_12_walk_103]
  rw [P_12_walk_103] at hp
  refine b12_walk_103  (fun h => ?_) (fun h => ?_)
  · rw [if_neg h]
    have hp := hp.1 h
    exact T_12_walk_121 k46 pk46 ih46 x2 M hp
  · rw [if_pos h]
    have hp := hp.2 h
    obtain ⟨p0, hp⟩ := hp
    refine b12_walk_110 p0 ?_
    exact T_12_walk_121 k46 pk46 ih46 (x2 + 1) (wr M 18 x2.toNatClampNeg x4) hp
def F_12_walk_97 (k46 : Int32 → Mem → Int32 × Mem) (x2 : Int32) (x4 : Int32) (M : Mem) : Int32 × Mem := F_12_walk_103 k46 x2 x4 (F_12_sign_0 59 M)
def P_12_walk_97 (pk46 : Int32 → Mem → Prop) (x2 : Int32) (x4 : Int32) (M : Mem) : Prop := ((P_12_sign_0 59 M) ∧ (P_12_walk_103 pk46 x2 x4 (F_12_sign_0 59 M)))
theorem T_12_walk_97 {g : Gl} (k46 : Int32 → Mem → Int32 × Mem) (pk46 : Int32 → Mem → Prop) (ih46 : ∀ (x2 : Int32) (M : Mem), pk46 x2 M → Rn g 3 m12_walk 46 [some (.ref 0), none, some (.int x2), none, none] [] M (some (.int (k46 x2 M).1)) ((k46 x2 M).2)) (x2 : Int32) (x4 : Int32) (M : Mem) (hp : P_12_walk_97 pk46 x2 x4 M) : Rn g 3 m12_walk 97 [some (.ref 0), none, some (.int x2), none, some (.int x4)] [] M (some (.int (F_12_walk_97 k46 x2 x4 M).1)) ((F_12_walk_97 k46 x2 x4 M).2) := by
  rw [F_12_walk_97]
  rw [P_12_walk_97] at hp
  obtain ⟨hc, hp⟩ := hp
  refine b12_walk_97  (C_12_sign 59 M hc) (Nat.le_of_ble_eq_true rfl) ?_
  exact T_12_walk_103 k46 pk46 ih46 x2 x4 (F_12_sign_0 59 M) hp
def F_12_walk_76 (k46 : Int32 → Mem → Int32 × Mem) (x2 : Int32) (x3 : Int32) (xs0 : Int32) (M : Mem) : Int32 × Mem := if (rd M 0 5) = 0 then (if x2 = 12 then (F_12_walk_97 k46 x2 xs0 (F_12_wrong_0 3 x3 M)) else (F_12_walk_97 k46 x2 xs0 M)) else (F_12_walk_97 k46 x2 xs0 M)
def P_12_walk_76 (pk46 : Int32 → Mem → Prop) (x2 : Int32) (x3 : Int32) (xs0 : Int32) (M : Mem) : Prop := ((¬ (rd M 0 5) = 0 → P_12_walk_97 pk46 x2 xs0 M) ∧ ((rd M 0 5) = 0 → ((¬ x2 = 12 → P_12_walk_97 pk46 x2 xs0 M) ∧ (x2 = 12 → ((P_12_walk_97 pk46 x2 xs0 (F_12_wrong_0 3 x3 M)))))))
theorem T_12_walk_76 {g : Gl} (k46 : Int32 → Mem → Int32 × Mem) (pk46 : Int32 → Mem → Prop) (ih46 : ∀ (x2 : Int32) (M : Mem), pk46 x2 M → Rn g 3 m12_walk 46 [some (.ref 0), none, some (.int x2), none, none] [] M (some (.int (k46 x2 M).1)) ((k46 x2 M).2)) (x2 : Int32) (x3 : Int32) (xs0 : Int32) (M : Mem) (hp : P_12_walk_76 pk46 x2 x3 xs0 M) : Rn g 3 m12_walk 76 [some (.ref 0), none, some (.int x2), some (.int x3), none] [.int xs0] M (some (.int (F_12_walk_76 k46 x2 x3 xs0 M).1)) ((F_12_walk_76 k46 x2 x3 xs0 M).2) := by
  rw [F_12_walk_76]
  rw [P_12_walk_76] at hp
  refine b12_walk_76  (fun h => ?_) (fun h => ?_)
  · rw [if_neg h]
    have hp := hp.1 h
    exact T_12_walk_97 k46 pk46 ih46 x2 xs0 M hp
  · rw [if_pos h]
    have hp := hp.2 h
    refine b12_walk_85  (fun h => ?_) (fun h => ?_)
    · rw [if_neg h]
      have hp := hp.1 h
      exact T_12_walk_97 k46 pk46 ih46 x2 xs0 M hp
    · rw [if_pos h]
      have hp := hp.2 h
      refine b12_walk_91  (C_12_wrong 3 x3 M) (Nat.le_of_ble_eq_true rfl) ?_
      exact T_12_walk_97 k46 pk46 ih46 x2 xs0 (F_12_wrong_0 3 x3 M) hp
def F_12_walk_139 (xs0 : Int32) (M : Mem) : Int32 × Mem := (xs0, M)
theorem T_12_walk_139 {g : Gl} (xs0 : Int32) (M : Mem)  : Rn g 3 m12_walk 139 [none, none, none, none, none] [.int xs0] M (some (.int (F_12_walk_139 xs0 M).1)) ((F_12_walk_139 xs0 M).2) := by
  rw [F_12_walk_139]
  exact b12_walk_139  rfl rfl
def F_12_walk_152  : Nat → Int32 → Int32 → Mem → Int32 × Mem
  | 0, _, _, M => (0, M)
  | n + 1, x2, x3, M => if x2 ≤ x3 then ((x2, M)) else ((F_12_walk_152 n) x2 (x3 + 1) (wr M 17 x3.toNatClampNeg (rd M 18 x3.toNatClampNeg)))
def P_12_walk_152  : Nat → Int32 → Int32 → Mem → Prop
  | 0, _, _, _ => False
  | n + 1, x2, x3, M => ((x2 ≤ x3 → True) ∧ (¬ x2 ≤ x3 → (vp_in x3 12) ∧ ((P_12_walk_152 n) x2 (x3 + 1) (wr M 17 x3.toNatClampNeg (rd M 18 x3.toNatClampNeg)))))
theorem T_12_walk_152 {g : Gl} : ∀ (n : Nat) (x2 : Int32) (x3 : Int32) (M : Mem) (hp : P_12_walk_152 n x2 x3 M), Rn g 3 m12_walk 152 [some (.ref 0), none, some (.int x2), some (.int x3), none] [] M (some (.int (F_12_walk_152 n x2 x3 M).1)) ((F_12_walk_152 n x2 x3 M).2) := by
  intro n
  induction n with
  | zero => intro x2 x3 M hp; exact hp.elim
  | succ n ih =>
    intro x2 x3 M hp
    rw [F_12_walk_152]
    rw [P_12_walk_152] at hp
    refine b12_walk_152  (fun h => ?_) (fun h => ?_)
    · rw [if_pos h]
      exact b12_walk_175  rfl rfl
    · rw [if_neg h]
      have hp := hp.2 h
      obtain ⟨p0, hp⟩ := hp
      refine b12_walk_157 p0 ?_
      exact ih x2 (x3 + 1) (wr M 17 x3.toNatClampNeg (rd M 18 x3.toNatClampNeg)) hp
def F_12_walk_128 (x2 : Int32) (M : Mem) : Int32 × Mem := if (rd M 0 5) = 0 then (F_12_walk_152 FU x2 0 (wr (wr M 0 3 (-1)) 0 35 x2)) else (F_12_walk_139 ((F_12_ends2_0 M).1) ((F_12_ends2_0 M).2))
def P_12_walk_128 (x2 : Int32) (M : Mem) : Prop := (((rd M 0 5) = 0 → (P_12_walk_152 FU x2 0 (wr (wr M 0 3 (-1)) 0 35 x2))) ∧ (¬ (rd M 0 5) = 0 → True))
theorem T_12_walk_128 {g : Gl} (x2 : Int32) (M : Mem) (hp : P_12_walk_128 x2 M) : Rn g 3 m12_walk 128 [some (.ref 0), none, some (.int x2), none, none] [] M (some (.int (F_12_walk_128 x2 M).1)) ((F_12_walk_128 x2 M).2) := by
  rw [F_12_walk_128]
  rw [P_12_walk_128] at hp
  refine b12_walk_128  (fun h => ?_) (fun h => ?_)
  · rw [if_pos h]
    have hp := hp.1 h
    refine b12_walk_140  ?_
    exact T_12_walk_152 FU x2 0 (wr (wr M 0 3 (-1)) 0 35 x2) hp
  · rw [if_neg h]
    refine b12_walk_135  (C_12_ends2  M) (Nat.le_of_ble_eq_true rfl) ?_
    exact T_12_walk_139 ((F_12_ends2_0 M).1) ((F_12_ends2_0 M).2)
def F_12_walk_46  : Nat → Int32 → Mem → Int32 × Mem
  | 0, _, M => (0, M)
  | n + 1, x2, M => if (rd M 0 5) = 0 then (if (rd M 0 2) ≤ (rd M 0 4) then (F_12_walk_128 x2 M) else (F_12_walk_76 (F_12_walk_46 n) x2 (rd M 0 4) ((F_12_number_0 0 7 M).1) ((F_12_number_0 0 7 M).2))) else (F_12_walk_128 x2 M)
def P_12_walk_46  : Nat → Int32 → Mem → Prop
  | 0, _, _ => False
  | n + 1, x2, M => ((¬ (rd M 0 5) = 0 → P_12_walk_128 x2 M) ∧ ((rd M 0 5) = 0 → (((rd M 0 2) ≤ (rd M 0 4) → P_12_walk_128 x2 M) ∧ (¬ (rd M 0 2) ≤ (rd M 0 4) → ((P_12_number_0 0 7 M) ∧ (P_12_walk_76 (P_12_walk_46 n) x2 (rd M 0 4) ((F_12_number_0 0 7 M).1) ((F_12_number_0 0 7 M).2)))))))
theorem T_12_walk_46 {g : Gl} : ∀ (n : Nat) (x2 : Int32) (M : Mem) (hp : P_12_walk_46 n x2 M), Rn g 3 m12_walk 46 [some (.ref 0), none, some (.int x2), none, none] [] M (some (.int (F_12_walk_46 n x2 M).1)) ((F_12_walk_46 n x2 M).2) := by
  intro n
  induction n with
  | zero => intro x2 M hp; exact hp.elim
  | succ n ih =>
    intro x2 M hp
    rw [F_12_walk_46]
    rw [P_12_walk_46] at hp
    refine b12_walk_46  (fun h => ?_) (fun h => ?_)
    · rw [if_neg h]
      have hp := hp.1 h
      exact T_12_walk_128 x2 M hp
    · rw [if_pos h]
      have hp := hp.2 h
      refine b12_walk_53  (fun h => ?_) (fun h => ?_)
      · rw [if_pos h]
        have hp := hp.1 h
        exact T_12_walk_128 x2 M hp
      · rw [if_neg h]
        have hp := hp.2 h
        obtain ⟨hc, hp⟩ := hp
        refine b12_walk_64  (C_12_number 0 7 M hc) (Nat.le_of_ble_eq_true rfl) ?_
        exact T_12_walk_76 (F_12_walk_46 n) (P_12_walk_46 n) ih x2 (rd M 0 4) ((F_12_number_0 0 7 M).1) ((F_12_number_0 0 7 M).2) hp
def F_12_walk_44 (M : Mem) : Int32 × Mem := F_12_walk_46 FU 0 M
def P_12_walk_44 (M : Mem) : Prop := (P_12_walk_46 FU 0 M)
theorem T_12_walk_44 {g : Gl} (M : Mem) (hp : P_12_walk_44 M) : Rn g 3 m12_walk 44 [some (.ref 0), none, none, none, none] [] M (some (.int (F_12_walk_44 M).1)) ((F_12_walk_44 M).2) := by
  rw [F_12_walk_44]
  rw [P_12_walk_44] at hp
  refine b12_walk_44  ?_
  exact T_12_walk_46 FU 0 M hp
def F_12_walk_34 (x1 : Int32) (xs0 : Int32) (M : Mem) : Int32 × Mem := if xs0 = 0 then (F_12_walk_44 (F_12_starts_0 x1 M)) else ((0, M))
def P_12_walk_34 (x1 : Int32) (xs0 : Int32) (M : Mem) : Prop := ((xs0 = 0 → ((P_12_starts_0 x1 M) ∧ (P_12_walk_44 (F_12_starts_0 x1 M)))) ∧ (¬ xs0 = 0 → True))
theorem T_12_walk_34 {g : Gl} (x1 : Int32) (xs0 : Int32) (M : Mem) (hp : P_12_walk_34 x1 xs0 M) : Rn g 3 m12_walk 34 [some (.ref 0), some (.int x1), none, none, none] [.int xs0] M (some (.int (F_12_walk_34 x1 xs0 M).1)) ((F_12_walk_34 x1 xs0 M).2) := by
  rw [F_12_walk_34]
  rw [P_12_walk_34] at hp
  refine b12_walk_34  (fun h => ?_) (fun h => ?_)
  · rw [if_pos h]
    have hp := hp.1 h
    obtain ⟨hc, hp⟩ := hp
    refine b12_walk_39  (C_12_starts x1 M hc) (Nat.le_of_ble_eq_true rfl) ?_
    exact T_12_walk_44 (F_12_starts_0 x1 M) hp
  · rw [if_neg h]
    exact b12_walk_37  rfl rfl
def F_12_walk_29 (x1 : Int32) (xs0 : Int32) (M : Mem) : Int32 × Mem := F_12_walk_34 x1 ((F_12_bad_0 xs0 1 1 M).1) ((F_12_bad_0 xs0 1 1 M).2)
def P_12_walk_29 (x1 : Int32) (xs0 : Int32) (M : Mem) : Prop := ((P_12_bad_0 xs0 1 1 M) ∧ (P_12_walk_34 x1 ((F_12_bad_0 xs0 1 1 M).1) ((F_12_bad_0 xs0 1 1 M).2)))
theorem T_12_walk_29 {g : Gl} (x1 : Int32) (xs0 : Int32) (M : Mem) (hp : P_12_walk_29 x1 xs0 M) : Rn g 3 m12_walk 29 [some (.ref 0), some (.int x1), none, none, none] [.int xs0, .ref 0] M (some (.int (F_12_walk_29 x1 xs0 M).1)) ((F_12_walk_29 x1 xs0 M).2) := by
  rw [F_12_walk_29]
  rw [P_12_walk_29] at hp
  obtain ⟨hc, hp⟩ := hp
  refine b12_walk_29  (C_12_bad xs0 1 1 M hc) (Nat.le_of_ble_eq_true rfl) ?_
  exact T_12_walk_34 x1 ((F_12_bad_0 xs0 1 1 M).1) ((F_12_bad_0 xs0 1 1 M).2) hp
def F_12_walk_24 (x1 : Int32) (M : Mem) : Int32 × Mem := F_12_walk_29 x1 1 M
def P_12_walk_24 (x1 : Int32) (M : Mem) : Prop := (P_12_walk_29 x1 1 M)
theorem T_12_walk_24 {g : Gl} (x1 : Int32) (M : Mem) (hp : P_12_walk_24 x1 M) : Rn g 3 m12_walk 24 [some (.ref 0), some (.int x1), none, none, none] [.ref 0] M (some (.int (F_12_walk_24 x1 M).1)) ((F_12_walk_24 x1 M).2) := by
  rw [F_12_walk_24]
  rw [P_12_walk_24] at hp
  refine b12_walk_24  ?_
  exact T_12_walk_29 x1 1 M hp
def F_12_walk_0 (x1 : Int32) (M : Mem) : Int32 × Mem := if (F_12_in_0 (wr M 0 0 0) x1 0 (rd (wr M 0 0 0) 0 1)) = 0 then (F_12_walk_24 x1 (wr M 0 0 0)) else (if x1 ≤ 60 then (F_12_walk_29 x1 0 (wr M 0 0 0)) else (F_12_walk_24 x1 (wr M 0 0 0)))
def P_12_walk_0 (x1 : Int32) (M : Mem) : Prop := (((((F_12_in_0 (wr M 0 0 0) x1 0 (rd (wr M 0 0 0) 0 1)) = 0 → P_12_walk_24 x1 (wr M 0 0 0)) ∧ (¬ (F_12_in_0 (wr M 0 0 0) x1 0 (rd (wr M 0 0 0) 0 1)) = 0 → ((x1 ≤ 60 → (P_12_walk_29 x1 0 (wr M 0 0 0))) ∧ (¬ x1 ≤ 60 → P_12_walk_24 x1 (wr M 0 0 0)))))))
theorem T_12_walk_0 {g : Gl} (x1 : Int32) (M : Mem) (hp : P_12_walk_0 x1 M) : Rn g 3 m12_walk 0 [some (.ref 0), some (.int x1), none, none, none] [] M (some (.int (F_12_walk_0 x1 M).1)) ((F_12_walk_0 x1 M).2) := by
  rw [F_12_walk_0]
  rw [P_12_walk_0] at hp
  refine b12_walk_0  (C_12_in x1 0 (rd (wr M 0 0 0) 0 1) (wr M 0 0 0)) (Nat.le_of_ble_eq_true rfl) ?_
  refine b12_walk_15  (fun h => ?_) (fun h => ?_)
  · rw [if_pos h]
    have hp := hp.1 h
    exact T_12_walk_24 x1 (wr M 0 0 0) hp
  · rw [if_neg h]
    have hp := hp.2 h
    refine b12_walk_18  (fun h => ?_) (fun h => ?_)
    · rw [if_pos h]
      have hp := hp.1 h
      refine b12_walk_28  ?_
      exact T_12_walk_29 x1 0 (wr M 0 0 0) hp
    · rw [if_neg h]
      have hp := hp.2 h
      exact T_12_walk_24 x1 (wr M 0 0 0) hp
theorem C_12_walk {g : Gl}  (x1 : Int32) (M : Mem) (hp : P_12_walk_0 x1 M) : Ms g 3 m12_walk [.ref 0, .int x1] M (some (.int (F_12_walk_0 x1 M).1)) ((F_12_walk_0 x1 M).2) := Ms.of okM_m12_walk (Nat.le_of_ble_eq_true rfl) (R_wk (lc rfl (lc rfl (ln (ln (ln l0))))) (T_12_walk_0 x1 M hp))
