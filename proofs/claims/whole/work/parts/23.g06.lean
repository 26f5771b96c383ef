def F_10_readSteps_52 (rF : Int32 → Mem → Int32 × Mem) (k3 : Int32 → Int32 → Mem → Int32 × Mem) (x3 : Int32) (x4 : Int32) (xs0 : Int32) (M : Mem) : Int32 × Mem := if xs0 = 0 then ((0, M)) else (k3 x3 (x4 + 1) M)
def P_10_readSteps_52 (rF : Int32 → Mem → Int32 × Mem) (rP : Int32 → Mem → Prop) (pk3 : Int32 → Int32 → Mem → Prop) (x3 : Int32) (x4 : Int32) (xs0 : Int32) (M : Mem) : Prop := ((¬ xs0 = 0 → (pk3 x3 (x4 + 1) M)) ∧ (xs0 = 0 → True))
theorem T_10_readSteps_52 {g : Gl} (rF : Int32 → Mem → Int32 × Mem) (rP : Int32 → Mem → Prop) (k3 : Int32 → Int32 → Mem → Int32 × Mem) (pk3 : Int32 → Int32 → Mem → Prop) {dr : Nat} (rT : ∀ (a0 : Int32) (M : Mem), rP a0 M → Ms g dr m10_readSteps [.ref 1587, .ref 1560, .ref 1561, .int a0] M (some (.int (rF a0 M).1)) ((rF a0 M).2)) (ih3 : ∀ (x3 : Int32) (x4 : Int32) (M : Mem), pk3 x3 x4 M → Rn g (dr + 6) m10_readSteps 3 [some (.ref 1587), some (.ref 1560), some (.ref 1561), some (.int x3), some (.int x4)] [] M (some (.int (k3 x3 x4 M).1)) ((k3 x3 x4 M).2)) (x3 : Int32) (x4 : Int32) (xs0 : Int32) (M : Mem) (hp : P_10_readSteps_52 rF rP pk3 x3 x4 xs0 M) : Rn g (dr + 6) m10_readSteps 52 [some (.ref 1587), some (.ref 1560), some (.ref 1561), some (.int x3), some (.int x4)] [.int xs0] M (some (.int (F_10_readSteps_52 rF k3 x3 x4 xs0 M).1)) ((F_10_readSteps_52 rF k3 x3 x4 xs0 M).2) := by
  rw [F_10_readSteps_52]
  rw [P_10_readSteps_52] at hp
  refine b10_readSteps_52  (fun h => ?_) (fun h => ?_)
  · rw [if_neg h]
    have hp := hp.1 h
    refine b10_readSteps_57  ?_
    exact ih3 x3 (x4 + 1) M hp
  · rw [if_pos h]
    exact b10_readSteps_55  rfl rfl
def F_10_readSteps_43 (rF : Int32 → Mem → Int32 × Mem) (k3 : Int32 → Int32 → Mem → Int32 × Mem) (x3 : Int32) (x4 : Int32) (xs0 : Int32) (M : Mem) : Int32 × Mem := if xs0 = 0 then ((0, M)) else (F_10_readSteps_52 rF k3 x3 x4 ((F_5_needs_0 59 M).1) ((F_5_needs_0 59 M).2))
def P_10_readSteps_43 (rF : Int32 → Mem → Int32 × Mem) (rP : Int32 → Mem → Prop) (pk3 : Int32 → Int32 → Mem → Prop) (x3 : Int32) (x4 : Int32) (xs0 : Int32) (M : Mem) : Prop := ((xs0 = 0 → True) ∧ (¬ xs0 = 0 → ((P_5_needs_0 59 M) ∧ (P_10_readSteps_52 rF rP pk3 x3 x4 ((F_5_needs_0 59 M).1) ((F_5_needs_0 59 M).2)))))
theorem T_10_readSteps_43 {g : Gl} (rF : Int32 → Mem → Int32 × Mem) (rP : Int32 → Mem → Prop) (k3 : Int32 → Int32 → Mem → Int32 × Mem) (pk3 : Int32 → Int32 → Mem → Prop) {dr : Nat} (rT : ∀ (a0 : Int32) (M : Mem), rP a0 M → Ms g dr m10_readSteps [.ref 1587, .ref 1560, .ref 1561, .int a0] M (some (.int (rF a0 M).1)) ((rF a0 M).2)) (ih3 : ∀ (x3 : Int32) (x4 : Int32) (M : Mem), pk3 x3 x4 M → Rn g (dr + 6) m10_readSteps 3 [some (.ref 1587), some (.ref 1560), some (.ref 1561), some (.int x3), some (.int x4)] [] M (some (.int (k3 x3 x4 M).1)) ((k3 x3 x4 M).2)) (x3 : Int32) (x4 : Int32) (xs0 : Int32) (M : Mem) (hp : P_10_readSteps_43 rF rP pk3 x3 x4 xs0 M) : Rn g (dr + 6) m10_readSteps 43 [some (.ref 1587), some (.ref 1560), some (.ref 1561), some (.int x3), some (.int x4)] [.int xs0] M (some (.int (F_10_readSteps_43 rF k3 x3 x4 xs0 M).1)) ((F_10_readSteps_43 rF k3 x3 x4 xs0 M).2) := by
  rw [F_10_readSteps_43]
  rw [P_10_readSteps_43] at hp
  refine b10_readSteps_43  (fun h => ?_) (fun h => ?_)
  · rw [if_pos h]
    exact b10_readSteps_55  rfl rfl
  · rw [if_neg h]
    have hp := hp.2 h
    obtain ⟨hc, hp⟩ := hp
    refine b10_readSteps_46  (C_5_needs 59 M hc) (by omega) ?_
    exact T_10_readSteps_52 rF rP k3 pk3 rT ih3 x3 x4 ((F_5_needs_0 59 M).1) ((F_5_needs_0 59 M).2) hp
def F_10_readSteps_36 (rF : Int32 → Mem → Int32 × Mem) (k3 : Int32 → Int32 → Mem → Int32 × Mem) (x3 : Int32) (x4 : Int32) (M : Mem) : Int32 × Mem := F_10_readSteps_43 rF k3 x3 x4 ((F_10_readStep_0 rF x3 M).1) ((F_10_readStep_0 rF x3 M).2)
def P_10_readSteps_36 (rF : Int32 → Mem → Int32 × Mem) (rP : Int32 → Mem → Prop) (pk3 : Int32 → Int32 → Mem → Prop) (x3 : Int32) (x4 : Int32) (M : Mem) : Prop := ((P_10_readStep_0 rF rP x3 M) ∧ (P_10_readSteps_43 rF rP pk3 x3 x4 ((F_10_readStep_0 rF x3 M).1) ((F_10_readStep_0 rF x3 M).2)))
theorem T_10_readSteps_36 {g : Gl} (rF : Int32 → Mem → Int32 × Mem) (rP : Int32 → Mem → Prop) (k3 : Int32 → Int32 → Mem → Int32 × Mem) (pk3 : Int32 → Int32 → Mem → Prop) {dr : Nat} (rT : ∀ (a0 : Int32) (M : Mem), rP a0 M → Ms g dr m10_readSteps [.ref 1587, .ref 1560, .ref 1561, .int a0] M (some (.int (rF a0 M).1)) ((rF a0 M).2)) (ih3 : ∀ (x3 : Int32) (x4 : Int32) (M : Mem), pk3 x3 x4 M → Rn g (dr + 6) m10_readSteps 3 [some (.ref 1587), some (.ref 1560), some (.ref 1561), some (.int x3), some (.int x4)] [] M (some (.int (k3 x3 x4 M).1)) ((k3 x3 x4 M).2)) (x3 : Int32) (x4 : Int32) (M : Mem) (hp : P_10_readSteps_36 rF rP pk3 x3 x4 M) : Rn g (dr + 6) m10_readSteps 36 [some (.ref 1587), some (.ref 1560), some (.ref 1561), some (.int x3), some (.int x4)] [] M (some (.int (F_10_readSteps_36 rF k3 x3 x4 M).1)) ((F_10_readSteps_36 rF k3 x3 x4 M).2) := by
  rw [F_10_readSteps_36]
  rw [P_10_readSteps_36] at hp
  obtain ⟨hc, hp⟩ := hp
  refine b10_readSteps_36  (C_10_readStep rF rP rT x3 M hc) (by omega) ?_
  exact T_10_readSteps_43 rF rP k3 pk3 rT ih3 x3 x4 ((F_10_readStep_0 rF x3 M).1) ((F_10_readStep_0 rF x3 M).2) hp
def F_10_readSteps_19 (rF : Int32 → Mem → Int32 × Mem) (k3 : Int32 → Int32 → Mem → Int32 × Mem) (x3 : Int32) (x4 : Int32) (xs0 : Int32) (M : Mem) : Int32 × Mem := if xs0 = 0 then (F_10_readSteps_36 rF k3 x3 x4 M) else ((1, M))
def P_10_readSteps_19 (rF : Int32 → Mem → Int32 × Mem) (rP : Int32 → Mem → Prop) (pk3 : Int32 → Int32 → Mem → Prop) (x3 : Int32) (x4 : Int32) (xs0 : Int32) (M : Mem) : Prop := ((xs0 = 0 → P_10_readSteps_36 rF rP pk3 x3 x4 M) ∧ (¬ xs0 = 0 → True))
theorem T_10_readSteps_19 {g : Gl} (rF : Int32 → Mem → Int32 × Mem) (rP : Int32 → Mem → Prop) (k3 : Int32 → Int32 → Mem → Int32 × Mem) (pk3 : Int32 → Int32 → Mem → Prop) {dr : Nat} (rT : ∀ (a0 : Int32) (M : Mem), rP a0 M → Ms g dr m10_readSteps [.ref 1587, .ref 1560, .ref 1561, .int a0] M (some (.int (rF a0 M).1)) ((rF a0 M).2)) (ih3 : ∀ (x3 : Int32) (x4 : Int32) (M : Mem), pk3 x3 x4 M → Rn g (dr + 6) m10_readSteps 3 [some (.ref 1587), some (.ref 1560), some (.ref 1561), some (.int x3), some (.int x4)] [] M (some (.int (k3 x3 x4 M).1)) ((k3 x3 x4 M).2)) (x3 : Int32) (x4 : Int32) (xs0 : Int32) (M : Mem) (hp : P_10_readSteps_19 rF rP pk3 x3 x4 xs0 M) : Rn g (dr + 6) m10_readSteps 19 [some (.ref 1587), some (.ref 1560), some (.ref 1561), some (.int x3), some (.int x4)] [.int xs0] M (some (.int (F_10_readSteps_19 rF k3 x3 x4 xs0 M).1)) ((F_10_readSteps_19 rF k3 x3 x4 xs0 M).2) := by
  rw [F_10_readSteps_19]
  rw [P_10_readSteps_19] at hp
  refine b10_readSteps_19  (fun h => ?_) (fun h => ?_)
  · rw [if_pos h]
    have hp := hp.1 h
    exact T_10_readSteps_36 rF rP k3 pk3 rT ih3 x3 x4 M hp
  · rw [if_neg h]
    refine b10_readSteps_22  ?_
    exact b10_readSteps_34  rfl rfl
def F_10_readSteps_31 (rF : Int32 → Mem → Int32 × Mem) (k3 : Int32 → Int32 → Mem → Int32 × Mem) (x3 : Int32) (x4 : Int32) (xs0 : Int32) (M : Mem) : Int32 × Mem := if xs0 = 0 then (F_10_readSteps_36 rF k3 x3 x4 M) else ((1, M))
def P_10_readSteps_31 (rF : Int32 → Mem → Int32 × Mem) (rP : Int32 → Mem → Prop) (pk3 : Int32 → Int32 → Mem → Prop) (x3 : Int32) (x4 : Int32) (xs0 : Int32) (M : Mem) : Prop := ((xs0 = 0 → P_10_readSteps_36 rF rP pk3 x3 x4 M) ∧ (¬ xs0 = 0 → True))
theorem T_10_readSteps_31 {g : Gl} (rF : Int32 → Mem → Int32 × Mem) (rP : Int32 → Mem → Prop) (k3 : Int32 → Int32 → Mem → Int32 × Mem) (pk3 : Int32 → Int32 → Mem → Prop) {dr : Nat} (rT : ∀ (a0 : Int32) (M : Mem), rP a0 M → Ms g dr m10_readSteps [.ref 1587, .ref 1560, .ref 1561, .int a0] M (some (.int (rF a0 M).1)) ((rF a0 M).2)) (ih3 : ∀ (x3 : Int32) (x4 : Int32) (M : Mem), pk3 x3 x4 M → Rn g (dr + 6) m10_readSteps 3 [some (.ref 1587), some (.ref 1560), some (.ref 1561), some (.int x3), some (.int x4)] [] M (some (.int (k3 x3 x4 M).1)) ((k3 x3 x4 M).2)) (x3 : Int32) (x4 : Int32) (xs0 : Int32) (M : Mem) (hp : P_10_readSteps_31 rF rP pk3 x3 x4 xs0 M) : Rn g (dr + 6) m10_readSteps 31 [some (.ref 1587), some (.ref 1560), some (.ref 1561), some (.int x3), some (.int x4)] [.int xs0] M (some (.int (F_10_readSteps_31 rF k3 x3 x4 xs0 M).1)) ((F_10_readSteps_31 rF k3 x3 x4 xs0 M).2) := by
  rw [F_10_readSteps_31]
  rw [P_10_readSteps_31] at hp
  refine b10_readSteps_31  (fun h => ?_) (fun h => ?_)
  · rw [if_pos h]
    have hp := hp.1 h
    exact T_10_readSteps_36 rF rP k3 pk3 rT ih3 x3 x4 M hp
  · rw [if_neg h]
    exact b10_readSteps_34  rfl rfl
def F_10_readSteps_80 (rF : Int32 → Mem → Int32 × Mem) (xs0 : Int32) (M : Mem) : Int32 × Mem := (xs0, M)
def P_10_readSteps_80 (rF : Int32 → Mem → Int32 × Mem) (rP : Int32 → Mem → Prop) (xs0 : Int32) (M : Mem) : Prop := (narrow .boolean (.int xs0) = .int xs0)
theorem T_10_readSteps_80 {g : Gl} (rF : Int32 → Mem → Int32 × Mem) (rP : Int32 → Mem → Prop) {dr : Nat} (rT : ∀ (a0 : Int32) (M : Mem), rP a0 M → Ms g dr m10_readSteps [.ref 1587, .ref 1560, .ref 1561, .int a0] M (some (.int (rF a0 M).1)) ((rF a0 M).2)) (xs0 : Int32) (M : Mem) (hp : P_10_readSteps_80 rF rP xs0 M) : Rn g (dr + 6) m10_readSteps 80 [none, none, none, none, none] [.int xs0] M (some (.int (F_10_readSteps_80 rF xs0 M).1)) ((F_10_readSteps_80 rF xs0 M).2) := by
  rw [F_10_readSteps_80]
  rw [P_10_readSteps_80] at hp
  have p0 := hp
  exact b10_readSteps_80  rfl rfl p0
def F_10_readSteps_71 (rF : Int32 → Mem → Int32 × Mem) (xs0 : Int32) (M : Mem) : Int32 × Mem := F_10_readSteps_80 rF xs0 M
def P_10_readSteps_71 (rF : Int32 → Mem → Int32 × Mem) (rP : Int32 → Mem → Prop) (xs0 : Int32) (M : Mem) : Prop := (P_10_readSteps_80 rF rP xs0 M)
theorem T_10_readSteps_71 {g : Gl} (rF : Int32 → Mem → Int32 × Mem) (rP : Int32 → Mem → Prop) {dr : Nat} (rT : ∀ (a0 : Int32) (M : Mem), rP a0 M → Ms g dr m10_readSteps [.ref 1587, .ref 1560, .ref 1561, .int a0] M (some (.int (rF a0 M).1)) ((rF a0 M).2)) (xs0 : Int32) (M : Mem) (hp : P_10_readSteps_71 rF rP xs0 M) : Rn g (dr + 6) m10_readSteps 71 [none, none, none, none, none] [.int xs0] M (some (.int (F_10_readSteps_71 rF xs0 M).1)) ((F_10_readSteps_71 rF xs0 M).2) := by
  rw [F_10_readSteps_71]
  rw [P_10_readSteps_71] at hp
  refine b10_readSteps_71  ?_
  exact T_10_readSteps_80 rF rP rT xs0 M hp
def F_10_readSteps_3 (rF : Int32 → Mem → Int32 × Mem) : Nat → Int32 → Int32 → Mem → Int32 × Mem
  | 0, _, _, M => (0, M)
  | n + 1, x3, x4, M => if (150 : Int32) ≤ x4 then (if x3 = 0 then (F_10_readSteps_71 rF ((F_5_needsEnd_0 M).1) ((F_5_needsEnd_0 M).2)) else (F_10_readSteps_80 rF ((F_5_needs_0 93 M).1) ((F_5_needs_0 93 M).2))) else (if x3 = 0 then (F_10_readSteps_19 rF (F_10_readSteps_3 rF n) x3 x4 ((F_5_atEnd_0 M).1) ((F_5_atEnd_0 M).2)) else (F_10_readSteps_31 rF (F_10_readSteps_3 rF n) x3 x4 ((F_5_takes_0 93 M).1) ((F_5_takes_0 93 M).2)))
def P_10_readSteps_3 (rF : Int32 → Mem → Int32 × Mem) (rP : Int32 → Mem → Prop) : Nat → Int32 → Int32 → Mem → Prop
  | 0, _, _, _ => False
  | n + 1, x3, x4, M => (((150 : Int32) ≤ x4 → ((¬ x3 = 0 → ((P_5_needs_0 93 M) ∧ (P_10_readSteps_80 rF rP ((F_5_needs_0 93 M).1) ((F_5_needs_0 93 M).2)))) ∧ (x3 = 0 → ((P_5_needsEnd_0 M) ∧ (P_10_readSteps_71 rF rP ((F_5_needsEnd_0 M).1) ((F_5_needsEnd_0 M).2)))))) ∧ (¬ (150 : Int32) ≤ x4 → ((¬ x3 = 0 → ((P_5_takes_0 93 M) ∧ (P_10_readSteps_31 rF rP (P_10_readSteps_3 rF rP n) x3 x4 ((F_5_takes_0 93 M).1) ((F_5_takes_0 93 M).2)))) ∧ (x3 = 0 → ((P_5_atEnd_0 M) ∧ (P_10_readSteps_19 rF rP (P_10_readSteps_3 rF rP n) x3 x4 ((F_5_atEnd_0 M).1) ((F_5_atEnd_0 M).2)))))))
theorem T_10_readSteps_3 {g : Gl} (rF : Int32 → Mem → Int32 × Mem) (rP : Int32 → Mem → Prop) {dr : Nat} (rT : ∀ (a0 : Int32) (M : Mem), rP a0 M → Ms g dr m10_readSteps [.ref 1587, .ref 1560, .ref 1561, .int a0] M (some (.int (rF a0 M).1)) ((rF a0 M).2)) : ∀ (n : Nat) (x3 : Int32) (x4 : Int32) (M : Mem) (hp : P_10_readSteps_3 rF rP n x3 x4 M), Rn g (dr + 6) m10_readSteps 3 [some (.ref 1587), some (.ref 1560), some (.ref 1561), some (.int x3), some (.int x4)] [] M (some (.int (F_10_readSteps_3 rF n x3 x4 M).1)) ((F_10_readSteps_3 rF n x3 x4 M).2) := by
  intro n
  induction n with
  | zero => intro x3 x4 M hp; exact hp.elim
  | succ n ih =>
    intro x3 x4 M hp
    rw [F_10_readSteps_3]
    rw [P_10_readSteps_3] at hp
    refine b10_readSteps_3  (fun h => ?_) (fun h => ?_)
    · rw [if_pos h]
      have hp := hp.1 h
      refine b10_readSteps_63  (fun h => ?_) (fun h => ?_)
      · rw [if_neg h]
        have hp := hp.1 h
        obtain ⟨hc, hp⟩ := hp
        refine b10_readSteps_74  (C_5_needs 93 M hc) (by omega) ?_
        exact T_10_readSteps_80 rF rP rT ((F_5_needs_0 93 M).1) ((F_5_needs_0 93 M).2) hp
      · rw [if_pos h]
        have hp := hp.2 h
        obtain ⟨hc, hp⟩ := hp
        refine b10_readSteps_67  (C_5_needsEnd  M hc) (by omega) ?_
        exact T_10_readSteps_71 rF rP rT ((F_5_needsEnd_0 M).1) ((F_5_needsEnd_0 M).2) hp
    · rw [if_neg h]
      have hp := hp.2 h
      refine b10_readSteps_11  (fun h => ?_) (fun h => ?_)
      · rw [if_neg h]
        have hp := hp.1 h
        obtain ⟨hc, hp⟩ := hp
        refine b10_readSteps_25  (C_5_takes 93 M hc) (by omega) ?_
        exact T_10_readSteps_31 rF rP (F_10_readSteps_3 rF n) (P_10_readSteps_3 rF rP n) rT ih x3 x4 ((F_5_takes_0 93 M).1) ((F_5_takes_0 93 M).2) hp
      · rw [if_pos h]
        have hp := hp.2 h
        obtain ⟨hc, hp⟩ := hp
        refine b10_readSteps_15  (C_5_atEnd  M hc) (by omega) ?_
        exact T_10_readSteps_19 rF rP (F_10_readSteps_3 rF n) (P_10_readSteps_3 rF rP n) rT ih x3 x4 ((F_5_atEnd_0 M).1) ((F_5_atEnd_0 M).2) hp
def F_10_readSteps_0 (rF : Int32 → Mem → Int32 × Mem) (x3 : Int32) (M : Mem) : Int32 × Mem := F_10_readSteps_3 rF FU x3 0 M
def P_10_readSteps_0 (rF : Int32 → Mem → Int32 × Mem) (rP : Int32 → Mem → Prop) (x3 : Int32) (M : Mem) : Prop := (P_10_readSteps_3 rF rP FU x3 0 M)
theorem T_10_readSteps_0 {g : Gl} (rF : Int32 → Mem → Int32 × Mem) (rP : Int32 → Mem → Prop) {dr : Nat} (rT : ∀ (a0 : Int32) (M : Mem), rP a0 M → Ms g dr m10_readSteps [.ref 1587, .ref 1560, .ref 1561, .int a0] M (some (.int (rF a0 M).1)) ((rF a0 M).2)) (x3 : Int32) (M : Mem) (hp : P_10_readSteps_0 rF rP x3 M) : Rn g (dr + 6) m10_readSteps 0 [some (.ref 1587), some (.ref 1560), some (.ref 1561), some (.int x3), none] [] M (some (.int (F_10_readSteps_0 rF x3 M).1)) ((F_10_readSteps_0 rF x3 M).2) := by
  rw [F_10_readSteps_0]
  rw [P_10_readSteps_0] at hp
  refine b10_readSteps_0  ?_
  exact T_10_readSteps_3 rF rP rT FU x3 0 M hp
theorem C_10_readSteps {g : Gl} (rF : Int32 → Mem → Int32 × Mem) (rP : Int32 → Mem → Prop) {dr : Nat} (rT : ∀ (a0 : Int32) (M : Mem), rP a0 M → Ms g dr m10_readSteps [.ref 1587, .ref 1560, .ref 1561, .int a0] M (some (.int (rF a0 M).1)) ((rF a0 M).2)) (x3 : Int32) (M : Mem) (hp : P_10_readSteps_0 rF rP x3 M) : Ms g (dr + 6) m10_readSteps [.ref 1587, .ref 1560, .ref 1561, .int x3] M (some (.int (F_10_readSteps_0 rF x3 M).1)) ((F_10_readSteps_0 rF x3 M).2) := Ms.of okM_m10_readSteps (Nat.le_of_ble_eq_true rfl) (R_wk (lc rfl (lc rfl (lc rfl (lc rfl (ln l0))))) (T_10_readSteps_0 rF rP rT x3 M hp))
def G_10_readSteps  : Nat → Int32 → Mem → Int32 × Mem
  | 0, _, M => (0, M)
  | n + 1, a0, M => F_10_readSteps_0 (G_10_readSteps n) a0 M
def H_10_readSteps  : Nat → Int32 → Mem → Prop
  | 0, _, _ => False
  | n + 1, a0, M => P_10_readSteps_0 (G_10_readSteps n) (H_10_readSteps n) a0 M
theorem D_10_readSteps {g : Gl}  : ∀ (n : Nat) (a0 : Int32) (M : Mem), H_10_readSteps n a0 M → Ms g (6 * n) m10_readSteps [.ref 1587, .ref 1560, .ref 1561, .int a0] M (some (.int (G_10_readSteps n a0 M).1)) ((G_10_readSteps n a0 M).2) := by
  intro n
  induction n with
  | zero => intro a0 M hp; exact hp.elim
  | succ n ih =>
    intro a0 M hp
    rw [G_10_readSteps]
    rw [H_10_readSteps] at hp
    exact C_10_readSteps (G_10_readSteps n) (H_10_readSteps n) ih a0 M hp
def F_10_read_12 (xs0 : Int32) (M : Mem) : Int32 × Mem := (xs0, M)
def P_10_read_12 (xs0 : Int32) (M : Mem) : Prop := (narrow .boolean (.int xs0) = .int xs0)
theorem T_10_read_12 {g : Gl} (xs0 : Int32) (M : Mem) (hp : P_10_read_12 xs0 M) : Rn g 49 m10_read 12 [none, none, none] [.int xs0] M (some (.int (F_10_read_12 xs0 M).1)) ((F_10_read_12 xs0 M).2) := by
  rw [F_10_read_12]
  rw [P_10_read_12] at hp
  have p0 := hp
  exact b10_read_12  rfl rfl p0
def F_10_read_0 (M : Mem) : Int32 × Mem := F_10_read_12 ((G_10_readSteps 8 0 (wr M 1587 4 0)).1) ((G_10_readSteps 8 0 (wr M 1587 4 0)).2)
def P_10_read_0 (M : Mem) : Prop := ((H_10_readSteps 8 0 (wr M 1587 4 0)) ∧ (P_10_read_12 ((G_10_readSteps 8 0 (wr M 1587 4 0)).1) ((G_10_readSteps 8 0 (wr M 1587 4 0)).2)))
theorem T_10_read_0 {g : Gl} (M : Mem) (hp : P_10_read_0 M) : Rn g 49 m10_read 0 [some (.ref 1587), some (.ref 1560), some (.ref 1561)] [] M (some (.int (F_10_read_0 M).1)) ((F_10_read_0 M).2) := by
  rw [F_10_read_0]
  rw [P_10_read_0] at hp
  obtain ⟨hc, hp⟩ := hp
  refine b10_read_0  (D_10_readSteps 8 0 (wr M 1587 4 0) hc) (Nat.le_of_ble_eq_true rfl) ?_
  exact T_10_read_12 ((G_10_readSteps 8 0 (wr M 1587 4 0)).1) ((G_10_readSteps 8 0 (wr M 1587 4 0)).2) hp
theorem C_10_read {g : Gl}   (M : Mem) (hp : P_10_read_0 M) : Ms g 49 m10_read [.ref 1587, .ref 1560, .ref 1561] M (some (.int (F_10_read_0 M).1)) ((F_10_read_0 M).2) := Ms.of okM_m10_read (Nat.le_of_ble_eq_true rfl) (R_wk (lc rfl (lc rfl (lc rfl l0))) (T_10_read_0 M hp))
def F_10_turnBack_0 (x1 : Int32) (M : Mem) : Int32 × Mem := if (rd (wr M 1591 ((rd M 1589 x1.toNatClampNeg).toNatClampNeg) ((rd M 1591 ((rd M 1589 x1.toNatClampNeg).toNatClampNeg)) - 1)) 1591 ((rd M 1589 x1.toNatClampNeg).toNatClampNeg)) ≤ 0 then (((x1 + 1), (wr M 1591 ((rd M 1589 x1.toNatClampNeg).toNatClampNeg) ((rd M 1591 ((rd M 1589 x1.toNatClampNeg).toNatClampNeg)) - 1)))) else ((((rd M 1589 x1.toNatClampNeg) + 1), (wr M 1591 ((rd M 1589 x1.toNatClampNeg).toNatClampNeg) ((rd M 1591 ((rd M 1589 x1.toNatClampNeg).toNatClampNeg)) - 1))))
def P_10_turnBack_0 (x1 : Int32) (M : Mem) : Prop := (vp_in x1 150) ∧ (vp_in (rd M 1589 x1.toNatClampNeg) 150)
theorem T_10_turnBack_0 {g : Gl} (x1 : Int32) (M : Mem) (hp : P_10_turnBack_0 x1 M) : Rn g 0 m10_turnBack 0 [some (.ref 1587), some (.int x1), none] [] M (some (.int (F_10_turnBack_0 x1 M).1)) ((F_10_turnBack_0 x1 M).2) := by
  rw [F_10_turnBack_0]
  rw [P_10_turnBack_0] at hp
  obtain ⟨p0, p1⟩ := hp
  refine b10_turnBack_0 p0 p1 (fun h => ?_) (fun h => ?_)
  · rw [if_pos h]
    refine b10_turnBack_32  ?_
    exact b10_turnBack_35  rfl rfl
  · rw [if_neg h]
    refine b10_turnBack_26  ?_
    exact b10_turnBack_35  rfl rfl
theorem C_10_turnBack {g : Gl}  (x1 : Int32) (M : Mem) (hp : P_10_turnBack_0 x1 M) : Ms g 0 m10_turnBack [.ref 1587, .int x1] M (some (.int (F_10_turnBack_0 x1 M).1)) ((F_10_turnBack_0 x1 M).2) := Ms.of okM_m10_turnBack (Nat.le_of_ble_eq_true rfl) (R_wk (lc rfl (lc rfl (ln l0))) (T_10_turnBack_0 x1 M hp))
def F_10_goes_25 (x0 : Int32) (x1 : Int32) (xs0 : Int32) (M : Mem) : Int32 × Mem := if xs0 = 0 then ((0, M)) else ((1, wr (wr (wr M 1622 1 ((rd M 1622 1) + (F_7_toursIn_0 M (rd M 1568 x1.toNatClampNeg) (rd M 1561 2)))) 1624 x0.toNatClampNeg (rd (wr M 1622 1 ((rd M 1622 1) + (F_7_toursIn_0 M (rd M 1568 x1.toNatClampNeg) (rd M 1561 2)))) 1568 x1.toNatClampNeg)) 1623 x1.toNatClampNeg ((rd (wr (wr M 1622 1 ((rd M 1622 1) + (F_7_toursIn_0 M (rd M 1568 x1.toNatClampNeg) (rd M 1561 2)))) 1624 x0.toNatClampNeg (rd (wr M 1622 1 ((rd M 1622 1) + (F_7_toursIn_0 M (rd M 1568 x1.toNatClampNeg) (rd M 1561 2)))) 1568 x1.toNatClampNeg)) 1623 x1.toNatClampNeg) + 1)))
def P_10_goes_25 (x0 : Int32) (x1 : Int32) (xs0 : Int32) (M : Mem) : Prop := ((¬ xs0 = 0 → (vp_in x1 24) ∧ ((P_7_toursIn_0 M (rd M 1568 x1.toNatClampNeg) (rd M 1561 2)) ∧ ((vp_in x1 24) ∧ (vp_in x0 6)))) ∧ (xs0 = 0 → True))
theorem T_10_goes_25 {g : Gl} (x0 : Int32) (x1 : Int32) (xs0 : Int32) (M : Mem) (hp : P_10_goes_25 x0 x1 xs0 M) : Rn g 4 m10_goes 25 [some (.int x0), some (.int x1), some (.ref 1561), some (.ref 1622), none] [.int xs0] M (some (.int (F_10_goes_25 x0 x1 xs0 M).1)) ((F_10_goes_25 x0 x1 xs0 M).2) := by
  rw [F_10_goes_25]
  rw [P_10_goes_25] at hp
  refine b10_goes_25  (fun h => ?_) (fun h => ?_)
  · rw [if_neg h]
    have hp := hp.1 h
    obtain ⟨p0, hp⟩ := hp
    obtain ⟨hc, hp⟩ := hp
    refine b10_goes_30 p0 (C_7_toursIn (rd M 1568 x1.toNatClampNeg) (rd M 1561 2) M hc) (Nat.le_of_ble_eq_true rfl) ?_
    obtain ⟨p1, p2⟩ := hp
    exact b10_goes_49 p1 p2 rfl rfl
  · rw [if_pos h]
    exact b10_goes_28  rfl rfl
def F_10_goes_0 (x0 : Int32) (x1 : Int32) (M : Mem) : Int32 × Mem := if (rd M 1624 x0.toNatClampNeg) = (rd M 1567 x1.toNatClampNeg) then (F_10_goes_25 x0 x1 ((F_1_isOpen_0 x1 (rd M 1622 0) M).1) ((F_1_isOpen_0 x1 (rd M 1622 0) M).2)) else ((0, M))
def P_10_goes_0 (x0 : Int32) (x1 : Int32) (M : Mem) : Prop := (vp_in x0 6) ∧ (vp_in x1 24) ∧ ((¬ (rd M 1624 x0.toNatClampNeg) = (rd M 1567 x1.toNatClampNeg) → True) ∧ ((rd M 1624 x0.toNatClampNeg) = (rd M 1567 x1.toNatClampNeg) → ((P_1_isOpen_0 x1 (rd M 1622 0) M) ∧ (P_10_goes_25 x0 x1 ((F_1_isOpen_0 x1 (rd M 1622 0) M).1) ((F_1_isOpen_0 x1 (rd M 1622 0) M).2)))))
theorem T_10_goes_0 {g : Gl} (x0 : Int32) (x1 : Int32) (M : Mem) (hp : P_10_goes_0 x0 x1 M) : Rn g 4 m10_goes 0 [some (.int x0), some (.int x1), some (.ref 1561), some (.ref 1622), some (.ref 1598)] [] M (some (.int (F_10_goes_0 x0 x1 M).1)) ((F_10_goes_0 x0 x1 M).2) := by
  rw [F_10_goes_0]
  rw [P_10_goes_0] at hp
  obtain ⟨p0, p1, hp⟩ := hp
  refine b10_goes_0 p0 p1 (fun h => ?_) (fun h => ?_)
  · rw [if_neg h]
    exact b10_goes_28  rfl rfl
  · rw [if_pos h]
    have hp := hp.2 h
    obtain ⟨hc, hp⟩ := hp
    refine b10_goes_15  (C_1_isOpen x1 (rd M 1622 0) M hc) (Nat.le_of_ble_eq_true rfl) ?_
    exact T_10_goes_25 x0 x1 ((F_1_isOpen_0 x1 (rd M 1622 0) M).1) ((F_1_isOpen_0 x1 (rd M 1622 0) M).2) hp
theorem C_10_goes {g : Gl}  (x0 : Int32) (x1 : Int32) (M : Mem) (hp : P_10_goes_0 x0 x1 M) : Ms g 4 m10_goes [.int x0, .int x1, .ref 1561, .ref 1622, .ref 1598] M (some (.int (F_10_goes_0 x0 x1 M).1)) ((F_10_goes_0 x0 x1 M).2) := Ms.of okM_m10_goes (Nat.le_of_ble_eq_true rfl) (R_wk (lc rfl (lc rfl (lc rfl (lc rfl (lc rfl l0))))) (T_10_goes_0 x0 x1 M hp))
def F_10_isDone_55 (xs0 : Int32) (M : Mem) : Int32 × Mem := (xs0, M)
def P_10_isDone_55 (xs0 : Int32) (M : Mem) : Prop := (narrow .boolean (.int xs0) = .int xs0)
theorem T_10_isDone_55 {g : Gl} (xs0 : Int32) (M : Mem) (hp : P_10_isDone_55 xs0 M) : Rn g 5 m10_isDone 55 [none, none, none, none, none, none] [.int xs0] M (some (.int (F_10_isDone_55 xs0 M).1)) ((F_10_isDone_55 xs0 M).2) := by
  rw [F_10_isDone_55]
  rw [P_10_isDone_55] at hp
  have p0 := hp
  exact b10_isDone_55  rfl rfl p0
def F_10_isDone_63 (xs0 : Int32) (M : Mem) : Int32 × Mem := (xs0, M)
def P_10_isDone_63 (xs0 : Int32) (M : Mem) : Prop := (narrow .boolean (.int xs0) = .int xs0)
theorem T_10_isDone_63 {g : Gl} (xs0 : Int32) (M : Mem) (hp : P_10_isDone_63 xs0 M) : Rn g 5 m10_isDone 63 [none, none, none, none, none, none] [.int xs0] M (some (.int (F_10_isDone_63 xs0 M).1)) ((F_10_isDone_63 xs0 M).2) := by
  rw [F_10_isDone_63]
  rw [P_10_isDone_63] at hp
  have p0 := hp
  exact b10_isDone_63  rfl rfl p0
def F_10_isDone_71 (xs0 : Int32) (M : Mem) : Int32 × Mem := (xs0, M)
def P_10_isDone_71 (xs0 : Int32) (M : Mem) : Prop := (narrow .boolean (.int xs0) = .int xs0)
theorem T_10_isDone_71 {g : Gl} (xs0 : Int32) (M : Mem) (hp : P_10_isDone_71 xs0 M) : Rn g 5 m10_isDone 71 [none, none, none, none, none, none] [.int xs0] M (some (.int (F_10_isDone_71 xs0 M).1)) ((F_10_isDone_71 xs0 M).2) := by
  rw [F_10_isDone_71]
  rw [P_10_isDone_71] at hp
  have p0 := hp
  exact b10_isDone_71  rfl rfl p0
def F_10_isDone_76 (xs0 : Int32) (M : Mem) : Int32 × Mem := (xs0, M)
def P_10_isDone_76 (xs0 : Int32) (M : Mem) : Prop := (narrow .boolean (.int xs0) = .int xs0)
theorem T_10_isDone_76 {g : Gl} (xs0 : Int32) (M : Mem) (hp : P_10_isDone_76 xs0 M) : Rn g 5 m10_isDone 76 [none, none, none, none, none, none] [.int xs0] M (some (.int (F_10_isDone_76 xs0 M).1)) ((F_10_isDone_76 xs0 M).2) := by
  rw [F_10_isDone_76]
  rw [P_10_isDone_76] at hp
  have p0 := hp
  exact b10_isDone_76  rfl rfl p0
def F_10_isDone_0 (x1 : Int32) (M : Mem) : Int32 × Mem := (if (rd M 1588 x1.toNatClampNeg) = 1 then (F_10_isDone_55 ((F_10_goes_0 (rd M 1589 x1.toNatClampNeg) (rd M 1590 x1.toNatClampNeg) M).1) ((F_10_goes_0 (rd M 1589 x1.toNatClampNeg) (rd M 1590 x1.toNatClampNeg) M).2)) else (if (rd M 1588 x1.toNatClampNeg) = 2 then (F_10_isDone_63 ((F_7_setsBar_0 (rd M 1589 x1.toNatClampNeg) 1 M).1) ((F_7_setsBar_0 (rd M 1589 x1.toNatClampNeg) 1 M).2)) else (if (rd M 1588 x1.toNatClampNeg) = 3 then (F_10_isDone_71 ((F_7_setsBar_0 (rd M 1589 x1.toNatClampNeg) 0 M).1) ((F_7_setsBar_0 (rd M 1589 x1.toNatClampNeg) 0 M).2)) else (F_10_isDone_76 ((F_7_waits_0 M).1) ((F_7_waits_0 M).2)))))
def P_10_isDone_0 (x1 : Int32) (M : Mem) : Prop := (vp_in x1 150) ∧ (((rd M 1588 x1.toNatClampNeg) = 1 → (vp_in x1 150) ∧ ((P_10_goes_0 (rd M 1589 x1.toNatClampNeg) (rd M 1590 x1.toNatClampNeg) M) ∧ (P_10_isDone_55 ((F_10_goes_0 (rd M 1589 x1.toNatClampNeg) (rd M 1590 x1.toNatClampNeg) M).1) ((F_10_goes_0 (rd M 1589 x1.toNatClampNeg) (rd M 1590 x1.toNatClampNeg) M).2)))) ∧ ((rd M 1588 x1.toNatClampNeg) = 2 → ((P_10_isDone_63 ((F_7_setsBar_0 (rd M 1589 x1.toNatClampNeg) 1 M).1) ((F_7_setsBar_0 (rd M 1589 x1.toNatClampNeg) 1 M).2)))) ∧ ((rd M 1588 x1.toNatClampNeg) = 3 → ((P_10_isDone_71 ((F_7_setsBar_0 (rd M 1589 x1.toNatClampNeg) 0 M).1) ((F_7_setsBar_0 (rd M 1589 x1.toNatClampNeg) 0 M).2)))) ∧ (¬ (rd M 1588 x1.toNatClampNeg) = 1 ∧ ¬ (rd M 1588 x1.toNatClampNeg) = 2 ∧ ¬ (rd M 1588 x1.toNatClampNeg) = 3 → ((P_10_isDone_76 ((F_7_waits_0 M).1) ((F_7_waits_0 M).2)))))
theorem T_10_isDone_0 {g : Gl} (x1 : Int32) (M : Mem) (hp : P_10_isDone_0 x1 M) : Rn g 5 m10_isDone 0 [some (.ref 1587), some (.int x1), some (.ref 1561), some (.ref 1622), some (.ref 1598), none] [] M (some (.int (F_10_isDone_0 x1 M).1)) ((F_10_isDone_0 x1 M).2) := by
  rw [F_10_isDone_0]
  rw [P_10_isDone_0] at hp
  obtain ⟨p0, hp⟩ := hp
  by_cases h0 : (rd M 1588 x1.toNatClampNeg) = 1
  · rw [if_pos h0]
    have hp := hp.1 h0
    refine b10_isDone_0_c1 p0 h0 ?_
    obtain ⟨p1, hp⟩ := hp
    obtain ⟨hc, hp⟩ := hp
    refine b10_isDone_40 p1 (C_10_goes (rd M 1589 x1.toNatClampNeg) (rd M 1590 x1.toNatClampNeg) M hc) (Nat.le_of_ble_eq_true rfl) ?_
    exact T_10_isDone_55 ((F_10_goes_0 (rd M 1589 x1.toNatClampNeg) (rd M 1590 x1.toNatClampNeg) M).1) ((F_10_goes_0 (rd M 1589 x1.toNatClampNeg) (rd M 1590 x1.toNatClampNeg) M).2) hp
  rw [if_neg h0]
  by_cases h1 : (rd M 1588 x1.toNatClampNeg) = 2
  · rw [if_pos h1]
    have hp := hp.2.1 h1
    refine b10_isDone_0_c2 p0 h1 ?_
    refine b10_isDone_56  (C_7_setsBar (rd M 1589 x1.toNatClampNeg) 1 M) (Nat.le_of_ble_eq_true rfl) ?_
    exact T_10_isDone_63 ((F_7_setsBar_0 (rd M 1589 x1.toNatClampNeg) 1 M).1) ((F_7_setsBar_0 (rd M 1589 x1.toNatClampNeg) 1 M).2) hp
  rw [if_neg h1]
  by_cases h2 : (rd M 1588 x1.toNatClampNeg) = 3
  · rw [if_pos h2]
    have hp := hp.2.2.1 h2
    refine b10_isDone_0_c3 p0 h2 ?_
    refine b10_isDone_64  (C_7_setsBar (rd M 1589 x1.toNatClampNeg) 0 M) (Nat.le_of_ble_eq_true rfl) ?_
    exact T_10_isDone_71 ((F_7_setsBar_0 (rd M 1589 x1.toNatClampNeg) 0 M).1) ((F_7_setsBar_0 (rd M 1589 x1.toNatClampNeg) 0 M).2) hp
  rw [if_neg h2]
  have hp := hp.2.2.2 ⟨h0, h1, h2⟩
  refine b10_isDone_0_d p0 (sw_out (x := (rd M 1588 x1.toNatClampNeg)) (lo := 1) (hi := 3) (by intro z ha hb e; rcases (show z = 1 ∨ z = 2 ∨ z = 3 by omega) with r | r | r <;> subst r <;> first | exact h0 (Int32.toInt_inj.mp (e.trans (by decide))) | exact h1 (Int32.toInt_inj.mp (e.trans (by decide))) | exact h2 (Int32.toInt_inj.mp (e.trans (by decide))))) ?_
  refine b10_isDone_72  (C_7_waits  M) (Nat.le_of_ble_eq_true rfl) ?_
  exact T_10_isDone_76 ((F_7_waits_0 M).1) ((F_7_waits_0 M).2) hp
theorem C_10_isDone {g : Gl}  (x1 : Int32) (M : Mem) (hp : P_10_isDone_0 x1 M) : Ms g 5 m10_isDone [.ref 1587, .int x1, .ref 1561, .ref 1622, .ref 1598] M (some (.int (F_10_isDone_0 x1 M).1)) ((F_10_isDone_0 x1 M).2) := Ms.of okM_m10_isDone (Nat.le_of_ble_eq_true rfl) (R_wk (lc rfl (lc rfl (lc rfl (lc rfl (lc rfl (ln l0)))))) (T_10_isDone_0 x1 M hp))
def F_10_run_168 (k19 : Int32 → Int32 → Int32 → Mem → Mem) (x4 : Int32) (x5 : Int32) (x6 : Int32) (M : Mem) : Mem := k19 x4 x5 (x6 + 1) M
def P_10_run_168 (pk19 : Int32 → Int32 → Int32 → Mem → Prop) (x4 : Int32) (x5 : Int32) (x6 : Int32) (M : Mem) : Prop := (pk19 x4 x5 (x6 + 1) M)
theorem T_10_run_168 {g : Gl} (k19 : Int32 → Int32 → Int32 → Mem → Mem) (pk19 : Int32 → Int32 → Int32 → Mem → Prop) (ih19 : ∀ (x4 : Int32) (x5 : Int32) (x6 : Int32) (M : Mem), pk19 x4 x5 x6 M → Rn g 6 m10_run 19 [some (.ref 1587), some (.ref 1561), some (.ref 1622), some (.ref 1598), some (.int x4), some (.int x5), some (.int x6)] [] M (none) ((k19 x4 x5 x6 M))) (x4 : Int32) (x5 : Int32) (x6 : Int32) (M : Mem) (hp : P_10_run_168 pk19 x4 x5 x6 M) : Rn g 6 m10_run 168 [some (.ref 1587), some (.ref 1561), some (.ref 1622), some (.ref 1598), some (.int x4), some (.int x5), some (.int x6)] [] M (none) ((F_10_run_168 k19 x4 x5 x6 M)) := by
  rw [F_10_run_168]
  rw [P_10_run_168] at hp
  refine b10_run_168  ?_
  exact ih19 x4 x5 (x6 + 1) M hp
def F_10_run_68 (k19 : Int32 → Int32 → Int32 → Mem → Mem) (x4 : Int32) (x6 : Int32) (xs0 : Int32) (M : Mem) : Mem := F_10_run_168 k19 x4 xs0 x6 M
def P_10_run_68 (pk19 : Int32 → Int32 → Int32 → Mem → Prop) (x4 : Int32) (x6 : Int32) (xs0 : Int32) (M : Mem) : Prop := (P_10_run_168 pk19 x4 xs0 x6 M)
theorem T_10_run_68 {g : Gl} (k19 : Int32 → Int32 → Int32 → Mem → Mem) (pk19 : Int32 → Int32 → Int32 → Mem → Prop) (ih19 : ∀ (x4 : Int32) (x5 : Int32) (x6 : Int32) (M : Mem), pk19 x4 x5 x6 M → Rn g 6 m10_run 19 [some (.ref 1587), some (.ref 1561), some (.ref 1622), some (.ref 1598), some (.int x4), some (.int x5), some (.int x6)] [] M (none) ((k19 x4 x5 x6 M))) (x4 : Int32) (x6 : Int32) (xs0 : Int32) (M : Mem) (hp : P_10_run_68 pk19 x4 x6 xs0 M) : Rn g 6 m10_run 68 [some (.ref 1587), some (.ref 1561), some (.ref 1622), some (.ref 1598), some (.int x4), none, some (.int x6)] [.int xs0] M (none) ((F_10_run_68 k19 x4 x6 xs0 M)) := by
  rw [F_10_run_68]
  rw [P_10_run_68] at hp
  refine b10_run_68  ?_
  exact T_10_run_168 k19 pk19 ih19 x4 xs0 x6 M hp
def F_10_run_125 (k19 : Int32 → Int32 → Int32 → Mem → Mem) (x4 : Int32) (x6 : Int32) (xs0 : Int32) (M : Mem) : Mem := F_10_run_168 k19 x4 xs0 x6 M
def P_10_run_125 (pk19 : Int32 → Int32 → Int32 → Mem → Prop) (x4 : Int32) (x6 : Int32) (xs0 : Int32) (M : Mem) : Prop := (P_10_run_168 pk19 x4 xs0 x6 M)
theorem T_10_run_125 {g : Gl} (k19 : Int32 → Int32 → Int32 → Mem → Mem) (pk19 : Int32 → Int32 → Int32 → Mem → Prop) (ih19 : ∀ (x4 : Int32) (x5 : Int32) (x6 : Int32) (M : Mem), pk19 x4 x5 x6 M → Rn g 6 m10_run 19 [some (.ref 1587), some (.ref 1561), some (.ref 1622), some (.ref 1598), some (.int x4), some (.int x5), some (.int x6)] [] M (none) ((k19 x4 x5 x6 M))) (x4 : Int32) (x6 : Int32) (xs0 : Int32) (M : Mem) (hp : P_10_run_125 pk19 x4 x6 xs0 M) : Rn g 6 m10_run 125 [some (.ref 1587), some (.ref 1561), some (.ref 1622), some (.ref 1598), some (.int x4), none, some (.int x6)] [.int xs0] M (none) ((F_10_run_125 k19 x4 x6 xs0 M)) := by
  rw [F_10_run_125]
  rw [P_10_run_125] at hp
  refine b10_run_125  ?_
  exact T_10_run_168 k19 pk19 ih19 x4 xs0 x6 M hp
def F_10_run_165 (k19 : Int32 → Int32 → Int32 → Mem → Mem) (x4 : Int32) (x5 : Int32) (x6 : Int32) (M : Mem) : Mem := F_10_run_168 k19 x4 (x5 + 1) x6 M
def P_10_run_165 (pk19 : Int32 → Int32 → Int32 → Mem → Prop) (x4 : Int32) (x5 : Int32) (x6 : Int32) (M : Mem) : Prop := (P_10_run_168 pk19 x4 (x5 + 1) x6 M)
theorem T_10_run_165 {g : Gl} (k19 : Int32 → Int32 → Int32 → Mem → Mem) (pk19 : Int32 → Int32 → Int32 → Mem → Prop) (ih19 : ∀ (x4 : Int32) (x5 : Int32) (x6 : Int32) (M : Mem), pk19 x4 x5 x6 M → Rn g 6 m10_run 19 [some (.ref 1587), some (.ref 1561), some (.ref 1622), some (.ref 1598), some (.int x4), some (.int x5), some (.int x6)] [] M (none) ((k19 x4 x5 x6 M))) (x4 : Int32) (x5 : Int32) (x6 : Int32) (M : Mem) (hp : P_10_run_165 pk19 x4 x5 x6 M) : Rn g 6 m10_run 165 [some (.ref 1587), some (.ref 1561), some (.ref 1622), some (.ref 1598), some (.int x4), some (.int x5), some (.int x6)] [] M (none) ((F_10_run_165 k19 x4 x5 x6 M)) := by
  rw [F_10_run_165]
  rw [P_10_run_165] at hp
  refine b10_run_165  ?_
  exact T_10_run_168 k19 pk19 ih19 x4 (x5 + 1) x6 M hp
def F_10_run_139 (k19 : Int32 → Int32 → Int32 → Mem → Mem) (x4 : Int32) (x5 : Int32) (x6 : Int32) (xs0 : Int32) (M : Mem) : Mem := if xs0 = 0 then (F_10_run_165 k19 x4 x5 x6 (wr M 1587 6 ((rd M 1587 6) + 1))) else (F_10_run_165 k19 x4 x5 x6 (wr M 1587 5 ((rd M 1587 5) + 1)))
def P_10_run_139 (pk19 : Int32 → Int32 → Int32 → Mem → Prop) (x4 : Int32) (x5 : Int32) (x6 : Int32) (xs0 : Int32) (M : Mem) : Prop := ((xs0 = 0 → (P_10_run_165 pk19 x4 x5 x6 (wr M 1587 6 ((rd M 1587 6) + 1)))) ∧ (¬ xs0 = 0 → (P_10_run_165 pk19 x4 x5 x6 (wr M 1587 5 ((rd M 1587 5) + 1)))))
theorem T_10_run_139 {g : Gl} (k19 : Int32 → Int32 → Int32 → Mem → Mem) (pk19 : Int32 → Int32 → Int32 → Mem → Prop) (ih19 : ∀ (x4 : Int32) (x5 : Int32) (x6 : Int32) (M : Mem), pk19 x4 x5 x6 M → Rn g 6 m10_run 19 [some (.ref 1587), some (.ref 1561), some (.ref 1622), some (.ref 1598), some (.int x4), some (.int x5), some (.int x6)] [] M (none) ((k19 x4 x5 x6 M))) (x4 : Int32) (x5 : Int32) (x6 : Int32) (xs0 : Int32) (M : Mem) (hp : P_10_run_139 pk19 x4 x5 x6 xs0 M) : Rn g 6 m10_run 139 [some (.ref 1587), some (.ref 1561), some (.ref 1622), some (.ref 1598), some (.int x4), some (.int x5), some (.int x6)] [.int xs0] M (none) ((F_10_run_139 k19 x4 x5 x6 xs0 M)) := by
  rw [F_10_run_139]
  rw [P_10_run_139] at hp
  refine b10_run_139  (fun h => ?_) (fun h => ?_)
  · rw [if_pos h]
    have hp := hp.1 h
    refine b10_run_155  ?_
    exact T_10_run_165 k19 pk19 ih19 x4 x5 x6 (wr M 1587 6 ((rd M 1587 6) + 1)) hp
  · rw [if_neg h]
    have hp := hp.2 h
    refine b10_run_142  ?_
    exact T_10_run_165 k19 pk19 ih19 x4 x5 x6 (wr M 1587 5 ((rd M 1587 5) + 1)) hp
def F_10_run_19  : Nat → Int32 → Int32 → Int32 → Mem → Mem
  | 0, _, _, _, M => M
  | n + 1, x4, x5, x6, M => if (6200 : Int32) ≤ x6 then (M) else (if (200 : Int32) ≤ x4 then (M) else (if x5 < 0 then (M) else (if x5 < (rd M 1587 4) then (if (rd M 1588 x5.toNatClampNeg) = 6 then (F_10_run_68 (F_10_run_19 n) x4 x6 ((F_10_turnBack_0 x5 M).1) ((F_10_turnBack_0 x5 M).2)) else (if (rd M 1588 x5.toNatClampNeg) = 5 then (if (rd (wr M 1591 x5.toNatClampNeg (rd M 1589 x5.toNatClampNeg)) 1589 x5.toNatClampNeg) ≤ 0 then (F_10_run_125 (F_10_run_19 n) (x4 + 1) x6 (rd (wr M 1591 x5.toNatClampNeg (rd M 1589 x5.toNatClampNeg)) 1590 x5.toNatClampNeg) (wr M 1591 x5.toNatClampNeg (rd M 1589 x5.toNatClampNeg))) else (F_10_run_125 (F_10_run_19 n) (x4 + 1) x6 (x5 + 1) (wr M 1591 x5.toNatClampNeg (rd M 1589 x5.toNatClampNeg)))) else (F_10_run_139 (F_10_run_19 n) (x4 + 1) x5 x6 ((F_10_isDone_0 x5 M).1) ((F_10_isDone_0 x5 M).2)))) else (M))))
def P_10_run_19  : Nat → Int32 → Int32 → Int32 → Mem → Prop
  | 0, _, _, _, _ => False
  | n + 1, x4, x5, x6, M => (((6200 : Int32) ≤ x6 → True) ∧ (¬ (6200 : Int32) ≤ x6 → (((200 : Int32) ≤ x4 → True) ∧ (¬ (200 : Int32) ≤ x4 → ((x5 < 0 → True) ∧ (¬ x5 < 0 → ((x5 < (rd M 1587 4) → (vp_in x5 150) ∧ ((¬ (rd M 1588 x5.toNatClampNeg) = 6 → (vp_in x5 150) ∧ ((¬ (rd M 1588 x5.toNatClampNeg) = 5 → ((P_10_isDone_0 x5 M) ∧ (P_10_run_139 (P_10_run_19 n) (x4 + 1) x5 x6 ((F_10_isDone_0 x5 M).1) ((F_10_isDone_0 x5 M).2)))) ∧ ((rd M 1588 x5.toNatClampNeg) = 5 → (vp_in x5 150) ∧ (((rd (wr M 1591 x5.toNatClampNeg (rd M 1589 x5.toNatClampNeg)) 1589 x5.toNatClampNeg) ≤ 0 → (vp_in x5 150) ∧ (P_10_run_125 (P_10_run_19 n) (x4 + 1) x6 (rd (wr M 1591 x5.toNatClampNeg (rd M 1589 x5.toNatClampNeg)) 1590 x5.toNatClampNeg) (wr M 1591 x5.toNatClampNeg (rd M 1589 x5.toNatClampNeg)))) ∧ (¬ (rd (wr M 1591 x5.toNatClampNeg (rd M 1589 x5.toNatClampNeg)) 1589 x5.toNatClampNeg) ≤ 0 → (P_10_run_125 (P_10_run_19 n) (x4 + 1) x6 (x5 + 1) (wr M 1591 x5.toNatClampNeg (rd M 1589 x5.toNatClampNeg)))))))) ∧ ((rd M 1588 x5.toNatClampNeg) = 6 → ((P_10_turnBack_0 x5 M) ∧ (P_10_run_68 (P_10_run_19 n) x4 x6 ((F_10_turnBack_0 x5 M).1) ((F_10_turnBack_0 x5 M).2)))))) ∧ (¬ x5 < (rd M 1587 4) → True))))))))
theorem T_10_run_19 {g : Gl} : ∀ (n : Nat) (x4 : Int32) (x5 : Int32) (x6 : Int32) (M : Mem) (hp : P_10_run_19 n x4 x5 x6 M), Rn g 6 m10_run 19 [some (.ref 1587), some (.ref 1561), some (.ref 1622), some (.ref 1598), some (.int x4), some (.int x5), some (.int x6)] [] M (none) ((F_10_run_19 n x4 x5 x6 M)) := by
  intro n
  induction n with
  | zero => intro x4 x5 x6 M hp; exact hp.elim
  | succ n ih =>
    intro x4 x5 x6 M hp
    rw [F_10_run_19]
    rw [P_10_run_19] at hp
    refine b10_run_19  (fun h => ?_) (fun h => ?_)
    · rw [if_pos h]
      exact b10_run_174  rfl rfl
    · rw [if_neg h]
      have hp := hp.2 h
      refine b10_run_27  (fun h => ?_) (fun h => ?_)
      · rw [if_pos h]
        exact b10_run_49  rfl rfl
      · rw [if_neg h]
        have hp := hp.2 h
        refine b10_run_35  (fun h => ?_) (fun h => ?_)
        · rw [if_pos h]
          exact b10_run_49  rfl rfl
        · rw [if_neg h]
          have hp := hp.2 h
          refine b10_run_40  (fun h => ?_) (fun h => ?_)
          · rw [if_pos h]
            have hp := hp.1 h
            obtain ⟨p0, hp⟩ := hp
            refine b10_run_50 p0 (fun h => ?_) (fun h => ?_)
            · rw [if_neg h]
              have hp := hp.1 h
              obtain ⟨p1, hp⟩ := hp
              refine b10_run_73 p1 (fun h => ?_) (fun h => ?_)
              · rw [if_neg h]
                have hp := hp.1 h
                obtain ⟨hc, hp⟩ := hp
                refine b10_run_130  (C_10_isDone x5 M hc) (Nat.le_of_ble_eq_true rfl) ?_
                exact T_10_run_139 (F_10_run_19 n) (P_10_run_19 n) ih (x4 + 1) x5 x6 ((F_10_isDone_0 x5 M).1) ((F_10_isDone_0 x5 M).2) hp
              · rw [if_pos h]
                have hp := hp.2 h
                obtain ⟨p2, hp⟩ := hp
                refine b10_run_87 p2 (fun h => ?_) (fun h => ?_)
                · rw [if_pos h]
                  have hp := hp.1 h
                  obtain ⟨p3, hp⟩ := hp
                  refine b10_run_118 p3 ?_
                  exact T_10_run_125 (F_10_run_19 n) (P_10_run_19 n) ih (x4 + 1) x6 (rd (wr M 1591 x5.toNatClampNeg (rd M 1589 x5.toNatClampNeg)) 1590 x5.toNatClampNeg) (wr M 1591 x5.toNatClampNeg (rd M 1589 x5.toNatClampNeg)) hp
                · rw [if_neg h]
                  have hp := hp.2 h
                  refine b10_run_111  ?_
                  exact T_10_run_125 (F_10_run_19 n) (P_10_run_19 n) ih (x4 + 1) x6 (x5 + 1) (wr M 1591 x5.toNatClampNeg (rd M 1589 x5.toNatClampNeg)) hp
            · rw [if_pos h]
              have hp := hp.2 h
              obtain ⟨hc, hp⟩ := hp
              refine b10_run_62  (C_10_turnBack x5 M hc) (Nat.le_of_ble_eq_true rfl) ?_
              exact T_10_run_68 (F_10_run_19 n) (P_10_run_19 n) ih x4 x6 ((F_10_turnBack_0 x5 M).1) ((F_10_turnBack_0 x5 M).2) hp
          · rw [if_neg h]
            exact b10_run_49  rfl rfl
def F_10_run_0 (M : Mem) : Mem := F_10_run_19 FU 0 0 0 (wr (wr M 1587 5 0) 1587 6 0)
def P_10_run_0 (M : Mem) : Prop := (P_10_run_19 FU 0 0 0 (wr (wr M 1587 5 0) 1587 6 0))
theorem T_10_run_0 {g : Gl} (M : Mem) (hp : P_10_run_0 M) : Rn g 6 m10_run 0 [some (.ref 1587), some (.ref 1561), some (.ref 1622), some (.ref 1598), none, none, none] [] M (none) ((F_10_run_0 M)) := by
  rw [F_10_run_0]
  rw [P_10_run_0] at hp
  refine b10_run_0  ?_
  exact T_10_run_19 FU 0 0 0 (wr (wr M 1587 5 0) 1587 6 0) hp
theorem C_10_run {g : Gl}   (M : Mem) (hp : P_10_run_0 M) : Ms g 6 m10_run [.ref 1587, .ref 1561, .ref 1622, .ref 1598] M (none) ((F_10_run_0 M)) := Ms.of okM_m10_run (Nat.le_of_ble_eq_true rfl) (R_wk (lc rfl (lc rfl (lc rfl (lc rfl (ln (ln (ln l0))))))) (T_10_run_0 M hp))
def F_11_putNumber_3  : Nat → Int32 → Int32 → Mem → Mem
  | 0, _, _, M => M
  | n + 1, x1, x2, M => if x2 < 0 then (M) else (if (600 : Int32) ≤ (rd M 1558 1) then (M) else ((F_11_putNumber_3 n) x1 (x2 + (-8)) (wr (wr M 1559 ((rd M 1558 1).toNatClampNeg) (vp_nar .byte (((x1.toUInt32 >>> (x2.toUInt32 &&& Int32.toUInt32 31)).toInt32).toInt8.toInt32))) 1558 1 ((rd (wr M 1559 ((rd M 1558 1).toNatClampNeg) (vp_nar .byte (((x1.toUInt32 >>> (x2.toUInt32 &&& Int32.toUInt32 31)).toInt32).toInt8.toInt32))) 1558 1) + 1))))
def P_11_putNumber_3  : Nat → Int32 → Int32 → Mem → Prop
  | 0, _, _, _ => False
  | n + 1, x1, x2, M => ((x2 < 0 → True) ∧ (¬ x2 < 0 → (((600 : Int32) ≤ (rd M 1558 1) → True) ∧ (¬ (600 : Int32) ≤ (rd M 1558 1) → (vp_in (rd M 1558 1) 600) ∧ (((P_11_putNumber_3 n) x1 (x2 + (-8)) (wr (wr M 1559 ((rd M 1558 1).toNatClampNeg) (vp_nar .byte (((x1.toUInt32 >>> (x2.toUInt32 &&& Int32.toUInt32 31)).toInt32).toInt8.toInt32))) 1558 1 ((rd (wr M 1559 ((rd M 1558 1).toNatClampNeg) (vp_nar .byte (((x1.toUInt32 >>> (x2.toUInt32 &&& Int32.toUInt32 31)).toInt32).toInt8.toInt32))) 1558 1) + 1))))))))
theorem T_11_putNumber_3 {g : Gl} : ∀ (n : Nat) (x1 : Int32) (x2 : Int32) (M : Mem) (hp : P_11_putNumber_3 n x1 x2 M), Rn g 0 m11_putNumber 3 [some (.ref 1558), some (.int x1), some (.int x2)] [] M (none) ((F_11_putNumber_3 n x1 x2 M)) := by
  intro n
  induction n with
  | zero => intro x1 x2 M hp; exact hp.elim
  | succ n ih =>
    intro x1 x2 M hp
    rw [F_11_putNumber_3]
    rw [P_11_putNumber_3] at hp
    refine b11_putNumber_3  (fun h => ?_) (fun h => ?_)
    · rw [if_pos h]
      exact b11_putNumber_46  rfl rfl
    · rw [if_neg h]
      have hp := hp.2 h
      refine b11_putNumber_7  (fun h => ?_) (fun h => ?_)
      · rw [if_pos h]
        exact b11_putNumber_46  rfl rfl
      · rw [if_neg h]
        have hp := hp.2 h
        obtain ⟨p0, hp⟩ := hp
        refine b11_putNumber_17 p0 ?_
        refine b11_putNumber_30  ?_
        exact ih x1 (x2 + (-8)) (wr (wr M 1559 ((rd M 1558 1).toNatClampNeg) (vp_nar .byte (((x1.toUInt32 >>> (x2.toUInt32 &&& Int32.toUInt32 31)).toInt32).toInt8.toInt32))) 1558 1 ((rd (wr M 1559 ((rd M 1558 1).toNatClampNeg) (vp_nar .byte (((x1.toUInt32 >>> (x2.toUInt32 &&& Int32.toUInt32 31)).toInt32).toInt8.toInt32))) 1558 1) + 1)) hp
def F_11_putNumber_0 (x1 : Int32) (M : Mem) : Mem := F_11_putNumber_3 FU x1 24 M
def P_11_putNumber_0 (x1 : Int32) (M : Mem) : Prop := (P_11_putNumber_3 FU x1 24 M)
theorem T_11_putNumber_0 {g : Gl} (x1 : Int32) (M : Mem) (hp : P_11_putNumber_0 x1 M) : Rn g 0 m11_putNumber 0 [some (.ref 1558), some (.int x1), none] [] M (none) ((F_11_putNumber_0 x1 M)) := by
  rw [F_11_putNumber_0]
  rw [P_11_putNumber_0] at hp
  refine b11_putNumber_0  ?_
  exact T_11_putNumber_3 FU x1 24 M hp
theorem C_11_putNumber {g : Gl}  (x1 : Int32) (M : Mem) (hp : P_11_putNumber_0 x1 M) : Ms g 0 m11_putNumber [.ref 1558, .int x1] M (none) ((F_11_putNumber_0 x1 M)) := Ms.of okM_m11_putNumber (Nat.le_of_ble_eq_true rfl) (R_wk (lc rfl (lc rfl (ln l0))) (T_11_putNumber_0 x1 M hp))
def F_11_feed_39 (M : Mem) : Int32 × Mem := (rd M 1558 1, M)
theorem T_11_feed_39 {g : Gl} (M : Mem)  : Rn g 1 m11_feed 39 [some (.ref 1558), none, none, none, none, none] [] M (some (.int (F_11_feed_39 M).1)) ((F_11_feed_39 M).2) := by
  rw [F_11_feed_39]
  exact b11_feed_39  rfl rfl
def F_11_feed_33 (x5 : Int32) (M : Mem) : Int32 × Mem := F_11_feed_39 (F_11_putNumber_0 x5 M)
def P_11_feed_33 (x5 : Int32) (M : Mem) : Prop := ((P_11_putNumber_0 x5 M))
theorem T_11_feed_33 {g : Gl} (x5 : Int32) (M : Mem) (hp : P_11_feed_33 x5 M) : Rn g 1 m11_feed 33 [some (.ref 1558), none, none, none, none, some (.int x5)] [] M (some (.int (F_11_feed_33 x5 M).1)) ((F_11_feed_33 x5 M).2) := by
  rw [F_11_feed_33]
  rw [P_11_feed_33] at hp
  have hc := hp
  refine b11_feed_33  (C_11_putNumber x5 M hc) (Nat.le_of_ble_eq_true rfl) ?_
  exact T_11_feed_39 (F_11_putNumber_0 x5 M)
def F_11_feed_27 (x4 : Int32) (x5 : Int32) (M : Mem) : Int32 × Mem := F_11_feed_33 x5 (F_11_putNumber_0 x4 M)
def P_11_feed_27 (x4 : Int32) (x5 : Int32) (M : Mem) : Prop := ((P_11_putNumber_0 x4 M) ∧ (P_11_feed_33 x5 (F_11_putNumber_0 x4 M)))
theorem T_11_feed_27 {g : Gl} (x4 : Int32) (x5 : Int32) (M : Mem) (hp : P_11_feed_27 x4 x5 M) : Rn g 1 m11_feed 27 [some (.ref 1558), none, none, none, some (.int x4), some (.int x5)] [] M (some (.int (F_11_feed_27 x4 x5 M).1)) ((F_11_feed_27 x4 x5 M).2) := by
  rw [F_11_feed_27]
  rw [P_11_feed_27] at hp
  obtain ⟨hc, hp⟩ := hp
  refine b11_feed_27  (C_11_putNumber x4 M hc) (Nat.le_of_ble_eq_true rfl) ?_
  exact T_11_feed_33 x5 (F_11_putNumber_0 x4 M) hp
def F_11_feed_22 (x3 : Int32) (x4 : Int32) (x5 : Int32) (M : Mem) : Int32 × Mem := F_11_feed_27 x4 x5 (F_11_putNumber_0 x3 M)
def P_11_feed_22 (x3 : Int32) (x4 : Int32) (x5 : Int32) (M : Mem) : Prop := ((P_11_putNumber_0 x3 M) ∧ (P_11_feed_27 x4 x5 (F_11_putNumber_0 x3 M)))
theorem T_11_feed_22 {g : Gl} (x3 : Int32) (x4 : Int32) (x5 : Int32) (M : Mem) (hp : P_11_feed_22 x3 x4 x5 M) : Rn g 1 m11_feed 22 [some (.ref 1558), none, none, some (.int x3), some (.int x4), some (.int x5)] [] M (some (.int (F_11_feed_22 x3 x4 x5 M).1)) ((F_11_feed_22 x3 x4 x5 M).2) := by
  rw [F_11_feed_22]
  rw [P_11_feed_22] at hp
  obtain ⟨hc, hp⟩ := hp
  refine b11_feed_22  (C_11_putNumber x3 M hc) (Nat.le_of_ble_eq_true rfl) ?_
  exact T_11_feed_27 x4 x5 (F_11_putNumber_0 x3 M) hp
def F_11_feed_17 (x2 : Int32) (x3 : Int32) (x4 : Int32) (x5 : Int32) (M : Mem) : Int32 × Mem := F_11_feed_22 x3 x4 x5 (F_11_putNumber_0 x2 M)
def P_11_feed_17 (x2 : Int32) (x3 : Int32) (x4 : Int32) (x5 : Int32) (M : Mem) : Prop := ((P_11_putNumber_0 x2 M) ∧ (P_11_feed_22 x3 x4 x5 (F_11_putNumber_0 x2 M)))
theorem T_11_feed_17 {g : Gl} (x2 : Int32) (x3 : Int32) (x4 : Int32) (x5 : Int32) (M : Mem) (hp : P_11_feed_17 x2 x3 x4 x5 M) : Rn g 1 m11_feed 17 [some (.ref 1558), none, some (.int x2), some (.int x3), some (.int x4), some (.int x5)] [] M (some (.int (F_11_feed_17 x2 x3 x4 x5 M).1)) ((F_11_feed_17 x2 x3 x4 x5 M).2) := by
  rw [F_11_feed_17]
  rw [P_11_feed_17] at hp
  obtain ⟨hc, hp⟩ := hp
  refine b11_feed_17  (C_11_putNumber x2 M hc) (Nat.le_of_ble_eq_true rfl) ?_
  exact T_11_feed_22 x3 x4 x5 (F_11_putNumber_0 x2 M) hp
def F_11_feed_0 (x1 : Int32) (x2 : Int32) (x3 : Int32) (x4 : Int32) (x5 : Int32) (M : Mem) : Int32 × Mem := if (rd M 1558 1) ≤ 580 then (F_11_feed_17 x2 x3 x4 x5 (F_11_putNumber_0 x1 M)) else (((-1), M))
def P_11_feed_0 (x1 : Int32) (x2 : Int32) (x3 : Int32) (x4 : Int32) (x5 : Int32) (M : Mem) : Prop := (((rd M 1558 1) ≤ 580 → ((P_11_putNumber_0 x1 M) ∧ (P_11_feed_17 x2 x3 x4 x5 (F_11_putNumber_0 x1 M)))) ∧ (¬ (rd M 1558 1) ≤ 580 → True))
theorem T_11_feed_0 {g : Gl} (x1 : Int32) (x2 : Int32) (x3 : Int32) (x4 : Int32) (x5 : Int32) (M : Mem) (hp : P_11_feed_0 x1 x2 x3 x4 x5 M) : Rn g 1 m11_feed 0 [some (.ref 1558), some (.int x1), some (.int x2), some (.int x3), some (.int x4), some (.int x5)] [] M (some (.int (F_11_feed_0 x1 x2 x3 x4 x5 M).1)) ((F_11_feed_0 x1 x2 x3 x4 x5 M).2) := by
  rw [F_11_feed_0]
  rw [P_11_feed_0] at hp
  refine b11_feed_0  (fun h => ?_) (fun h => ?_)
  · rw [if_pos h]
    have hp := hp.1 h
    obtain ⟨hc, hp⟩ := hp
    refine b11_feed_12  (C_11_putNumber x1 M hc) (Nat.le_of_ble_eq_true rfl) ?_
    exact T_11_feed_17 x2 x3 x4 x5 (F_11_putNumber_0 x1 M) hp
  · rw [if_neg h]
    exact b11_feed_10  rfl rfl
theorem C_11_feed {g : Gl}  (x1 : Int32) (x2 : Int32) (x3 : Int32) (x4 : Int32) (x5 : Int32) (M : Mem) (hp : P_11_feed_0 x1 x2 x3 x4 x5 M) : Ms g 1 m11_feed [.ref 1558, .int x1, .int x2, .int x3, .int x4, .int x5] M (some (.int (F_11_feed_0 x1 x2 x3 x4 x5 M).1)) ((F_11_feed_0 x1 x2 x3 x4 x5 M).2) := Ms.of okM_m11_feed (Nat.le_of_ble_eq_true rfl) (R_wk (lc rfl (lc rfl (lc rfl (lc rfl (lc rfl (lc rfl l0)))))) (T_11_feed_0 x1 x2 x3 x4 x5 M hp))
def F_11_takeTape_8 (M : Mem) : Mem := wr M 1558 1 0
theorem T_11_takeTape_8 {g : Gl} (M : Mem)  : Rn g 2 m11_takeTape 8 [some (.ref 1558), none] [] M (none) ((F_11_takeTape_8 M)) := by
  rw [F_11_takeTape_8]
  exact b11_takeTape_8  rfl rfl
def F_11_takeTape_0 (x1 : Int32) (M : Mem) : Mem := F_11_takeTape_8 (F_5_begin_0 x1 M)
theorem T_11_takeTape_0 {g : Gl} (x1 : Int32) (M : Mem)  : Rn g 2 m11_takeTape 0 [some (.ref 1558), some (.int x1)] [] M (none) ((F_11_takeTape_0 x1 M)) := by
  rw [F_11_takeTape_0]
  refine b11_takeTape_0  (C_5_begin x1 M) (Nat.le_of_ble_eq_true rfl) ?_
  exact T_11_takeTape_8 (F_5_begin_0 x1 M)
theorem C_11_takeTape {g : Gl}  (x1 : Int32) (M : Mem)  : Ms g 2 m11_takeTape [.ref 1558, .int x1] M (none) ((F_11_takeTape_0 x1 M)) := Ms.of okM_m11_takeTape (Nat.le_of_ble_eq_true rfl) (R_wk (lc rfl (lc rfl l0)) (T_11_takeTape_0 x1 M))
def F_11_faultOfText_0 (M : Mem) : Int32 × Mem := ((rd (wr M 1558 2 (rd M 1560 7)) 1560 6) - 10, wr M 1558 2 (rd M 1560 7))
theorem T_11_faultOfText_0 {g : Gl} (M : Mem)  : Rn g 0 m11_faultOfText 0 [some (.ref 1558)] [] M (some (.int (F_11_faultOfText_0 M).1)) ((F_11_faultOfText_0 M).2) := by
  rw [F_11_faultOfText_0]
  exact b11_faultOfText_0  rfl rfl
theorem C_11_faultOfText {g : Gl}   (M : Mem)  : Ms g 0 m11_faultOfText [.ref 1558] M (some (.int (F_11_faultOfText_0 M).1)) ((F_11_faultOfText_0 M).2) := Ms.of okM_m11_faultOfText (Nat.le_of_ble_eq_true rfl) (R_wk (lc rfl l0) (T_11_faultOfText_0 M))
def F_11_museum_31 (xs0 : Int32) (M : Mem) : Oc := .inl (some (.int xs0), M)
theorem T_11_museum_31 {g : Gl} (xs0 : Int32) (M : Mem)  : Rc g 8 0 m11_museum 31 [none, none] [.int xs0] M ((F_11_museum_31 xs0 M)) := by
  rw [F_11_museum_31]
  exact b11_museum_31  rfl
def F_11_museum_73 (M : Mem) : Oc := .inl (some (.int (rd (wr (wr M 1558 14 0) 1558 5 0) 1561 0)), wr (wr M 1558 14 0) 1558 5 0)
theorem T_11_museum_73 {g : Gl} (M : Mem)  : Rc g 8 0 m11_museum 73 [some (.ref 1558), none] [] M ((F_11_museum_73 M)) := by
  rw [F_11_museum_73]
  exact b11_museum_73  rfl
def F_11_museum_66 (M : Mem) : Oc := F_11_museum_73 (F_9_clear_0 M)
theorem T_11_museum_66 {g : Gl} (M : Mem)  : Rc g 8 0 m11_museum 66 [some (.ref 1558), none] [] M ((F_11_museum_66 M)) := by
  rw [F_11_museum_66]
  refine b11_museum_66  (C_9_clear  M) (Nat.le_of_ble_eq_true rfl) ?_
  exact R_cw (Nat.le_of_ble_eq_true rfl) (T_11_museum_73 (F_9_clear_0 M))
def F_11_museum_59 (M : Mem) : Oc := F_11_museum_66 (F_2_clear_0 M)
theorem T_11_museum_59 {g : Gl} (M : Mem)  : Rc g 8 0 m11_museum 59 [some (.ref 1558), none] [] M ((F_11_museum_59 M)) := by
  rw [F_11_museum_59]
  refine b11_museum_59  (C_2_clear  M) (Nat.le_of_ble_eq_true rfl) ?_
  exact R_cw (Nat.le_of_ble_eq_true rfl) (T_11_museum_66 (F_2_clear_0 M))
def F_11_museum_48 (M : Mem) : Oc := F_11_museum_59 (F_8_begin_0 M)
def P_11_museum_48 (M : Mem) : Prop := ((P_8_begin_0 M))
theorem T_11_museum_48 {g : Gl} (M : Mem) (hp : P_11_museum_48 M) : Rc g 8 0 m11_museum 48 [some (.ref 1558), none] [] M ((F_11_museum_48 M)) := by
  rw [F_11_museum_48]
  rw [P_11_museum_48] at hp
  have hc := hp
  refine b11_museum_48  (C_8_begin  M hc) (Nat.le_of_ble_eq_true rfl) ?_
  exact R_cw (Nat.le_of_ble_eq_true rfl) (T_11_museum_59 (F_8_begin_0 M))
def F_11_museum_24 (xs0 : Int32) (M : Mem) : Oc := if xs0 = 0 then (F_11_museum_31 ((F_11_faultOfText_0 M).1) ((F_11_faultOfText_0 M).2)) else (F_11_museum_48 (F_4_copyFrom_0 (wr M 1558 2 (-1))))
def P_11_museum_24 (xs0 : Int32) (M : Mem) : Prop := ((¬ xs0 = 0 → ((P_11_museum_48 (F_4_copyFrom_0 (wr M 1558 2 (-1)))))) ∧ (xs0 = 0 → True))
theorem T_11_museum_24 {g : Gl} (xs0 : Int32) (M : Mem) (hp : P_11_museum_24 xs0 M) : Rc g 8 0 m11_museum 24 [some (.ref 1558), none] [.int xs0] M ((F_11_museum_24 xs0 M)) := by
  rw [F_11_museum_24]
  rw [P_11_museum_24] at hp
  refine b11_museum_24  (fun h => ?_) (fun h => ?_)
  · rw [if_neg h]
    have hp := hp.1 h
    refine b11_museum_32  (C_4_copyFrom  (wr M 1558 2 (-1))) (Nat.le_of_ble_eq_true rfl) ?_
    exact R_cw (Nat.le_of_ble_eq_true rfl) (T_11_museum_48 (F_4_copyFrom_0 (wr M 1558 2 (-1))) hp)
  · rw [if_pos h]
    refine b11_museum_27  (C_11_faultOfText  M) (Nat.le_of_ble_eq_true rfl) ?_
    exact R_cw (Nat.le_of_ble_eq_true rfl) (T_11_museum_31 ((F_11_faultOfText_0 M).1) ((F_11_faultOfText_0 M).2))
def F_11_museum_13 (M : Mem) : Oc := F_11_museum_24 ((F_4_read_0 M).1) ((F_4_read_0 M).2)
def P_11_museum_13 (M : Mem) : Prop := ((P_4_read_0 M) ∧ (P_11_museum_24 ((F_4_read_0 M).1) ((F_4_read_0 M).2)))
theorem T_11_museum_13 {g : Gl} (M : Mem) (hp : P_11_museum_13 M) : Rc g 8 0 m11_museum 13 [some (.ref 1558), none] [] M ((F_11_museum_13 M)) := by
  rw [F_11_museum_13]
  rw [P_11_museum_13] at hp
  obtain ⟨hc, hp⟩ := hp
  refine b11_museum_13  (C_4_read  M hc) (Nat.le_of_ble_eq_true rfl) ?_
  exact R_cw (Nat.le_of_ble_eq_true rfl) (T_11_museum_24 ((F_4_read_0 M).1) ((F_4_read_0 M).2) hp)
def F_11_museum_0 (x1 : Int32) (M : Mem) : Oc := if 0 ≤ x1 ∧ x1 ≤ (if rd M 1558 1 < 600 then rd M 1558 1 else 600) then (F_11_museum_13 (F_11_takeTape_0 x1 M)) else (.inr ("java/lang/IllegalArgumentException", wr M 1558 4 (rd M 1558 4 + 1)))
def P_11_museum_0 (x1 : Int32) (M : Mem) : Prop := ((0 ≤ x1 ∧ x1 ≤ (if rd M 1558 1 < 600 then rd M 1558 1 else 600) → ((P_11_museum_13 (F_11_takeTape_0 x1 M)))))
theorem T_11_museum_0 {g : Gl} (x1 : Int32) (M : Mem) (hp : P_11_museum_0 x1 M) : Rc g 8 1 m11_museum 0 [some (.ref 1558), some (.int x1)] [] M ((F_11_museum_0 x1 M)) := by
  rw [F_11_museum_0]
  rw [P_11_museum_0] at hp
  refine b11_museum_0  (C_needBytes x1 600 M) (Nat.le_of_ble_eq_true rfl) (fun h => ?_) (fun h => ?_)
  · rw [if_pos h]
    have hp := hp h
    refine b11_museum_8  (C_11_takeTape x1 M) (Nat.le_of_ble_eq_true rfl) ?_
    exact R_cw (Nat.le_of_ble_eq_true rfl) (T_11_museum_13 (F_11_takeTape_0 x1 M) hp)
  · rw [if_neg h]
theorem C_11_museum {g : Gl} (x1 : Int32) (M : Mem) (hp : P_11_museum_0 x1 M) : MsX g 8 1 m11_museum [.ref 1558, .int x1] M (F_11_museum_0 x1 M) := MsX.of okM_m11_museum (Nat.le_of_ble_eq_true rfl) (R_wk (lc rfl (lc rfl l0)) (T_11_museum_0 x1 M hp))
def F_11_law_31 (xs0 : Int32) (M : Mem) : Oc := .inl (some (.int xs0), M)
theorem T_11_law_31 {g : Gl} (xs0 : Int32) (M : Mem)  : Rc g 66 0 m11_law 31 [none, none] [.int xs0] M ((F_11_law_31 xs0 M)) := by
  rw [F_11_law_31]
  exact b11_law_31  rfl
def F_11_law_24 (xs0 : Int32) (M : Mem) : Oc := if xs0 = 0 then (F_11_law_31 ((F_11_faultOfText_0 M).1) ((F_11_faultOfText_0 M).2)) else (.inl (some (.int 1), wr M 1558 2 (-1)))
theorem T_11_law_24 {g : Gl} (xs0 : Int32) (M : Mem)  : Rc g 66 0 m11_law 24 [some (.ref 1558), none] [.int xs0] M ((F_11_law_24 xs0 M)) := by
  rw [F_11_law_24]
  refine b11_law_24  (fun h => ?_) (fun h => ?_)
  · rw [if_neg h]
    exact b11_law_32  rfl
  · rw [if_pos h]
    refine b11_law_27  (C_11_faultOfText  M) (Nat.le_of_ble_eq_true rfl) ?_
    exact R_cw (Nat.le_of_ble_eq_true rfl) (T_11_law_31 ((F_11_faultOfText_0 M).1) ((F_11_faultOfText_0 M).2))
def F_11_law_13 (M : Mem) : Oc := F_11_law_24 ((F_2_read_0 M).1) ((F_2_read_0 M).2)
def P_11_law_13 (M : Mem) : Prop := ((P_2_read_0 M))
theorem T_11_law_13 {g : Gl} (M : Mem) (hp : P_11_law_13 M) : Rc g 66 0 m11_law 13 [some (.ref 1558), none] [] M ((F_11_law_13 M)) := by
  rw [F_11_law_13]
  rw [P_11_law_13] at hp
  have hc := hp
  refine b11_law_13  (C_2_read  M hc) (Nat.le_of_ble_eq_true rfl) ?_
  exact R_cw (Nat.le_of_ble_eq_true rfl) (T_11_law_24 ((F_2_read_0 M).1) ((F_2_read_0 M).2))
def F_11_law_0 (x1 : Int32) (M : Mem) : Oc := if 0 ≤ x1 ∧ x1 ≤ (if rd M 1558 1 < 150 then rd M 1558 1 else 150) then (F_11_law_13 (F_11_takeTape_0 x1 M)) else (.inr ("java/lang/IllegalArgumentException", wr M 1558 4 (rd M 1558 4 + 1)))
def P_11_law_0 (x1 : Int32) (M : Mem) : Prop := ((0 ≤ x1 ∧ x1 ≤ (if rd M 1558 1 < 150 then rd M 1558 1 else 150) → ((P_11_law_13 (F_11_takeTape_0 x1 M)))))
theorem T_11_law_0 {g : Gl} (x1 : Int32) (M : Mem) (hp : P_11_law_0 x1 M) : Rc g 66 1 m11_law 0 [some (.ref 1558), some (.int x1)] [] M ((F_11_law_0 x1 M)) := by
  rw [F_11_law_0]
  rw [P_11_law_0] at hp
  refine b11_law_0  (C_needBytes x1 150 M) (Nat.le_of_ble_eq_true rfl) (fun h => ?_) (fun h => ?_)
  · rw [if_pos h]
    have hp := hp h
    refine b11_law_8  (C_11_takeTape x1 M) (Nat.le_of_ble_eq_true rfl) ?_
    exact R_cw (Nat.le_of_ble_eq_true rfl) (T_11_law_13 (F_11_takeTape_0 x1 M) hp)
  · rw [if_neg h]
theorem C_11_law {g : Gl} (x1 : Int32) (M : Mem) (hp : P_11_law_0 x1 M) : MsX g 66 1 m11_law [.ref 1558, .int x1] M (F_11_law_0 x1 M) := MsX.of okM_m11_law (Nat.le_of_ble_eq_true rfl) (R_wk (lc rfl (lc rfl l0)) (T_11_law_0 x1 M hp))
def F_11_work_55 (xs0 : Int32) (M : Mem) : Oc := .inl (some (.int xs0), M)
theorem T_11_work_55 {g : Gl} (xs0 : Int32) (M : Mem)  : Rc g 50 0 m11_work 55 [none, none] [.int xs0] M ((F_11_work_55 xs0 M)) := by
  rw [F_11_work_55]
  exact b11_work_55  rfl
def F_11_work_87 (M : Mem) : Oc := .inl (some (.int (rd (wr M 1558 5 (rd M 1587 6)) 1587 5)), wr M 1558 5 (rd M 1587 6))
theorem T_11_work_87 {g : Gl} (M : Mem)  : Rc g 50 0 m11_work 87 [some (.ref 1558), none] [] M ((F_11_work_87 M)) := by
  rw [F_11_work_87]
  exact b11_work_87  rfl
def F_11_work_68 (M : Mem) : Oc := F_11_work_87 (F_10_run_0 M)
def P_11_work_68 (M : Mem) : Prop := ((P_10_run_0 M))
theorem T_11_work_68 {g : Gl} (M : Mem) (hp : P_11_work_68 M) : Rc g 50 0 m11_work 68 [some (.ref 1558), none] [] M ((F_11_work_68 M)) := by
  rw [F_11_work_68]
  rw [P_11_work_68] at hp
  have hc := hp
  refine b11_work_68  (C_10_run  M hc) (Nat.le_of_ble_eq_true rfl) ?_
  exact R_cw (Nat.le_of_ble_eq_true rfl) (T_11_work_87 (F_10_run_0 M))
def F_11_work_48 (xs0 : Int32) (M : Mem) : Oc := if xs0 = 0 then (F_11_work_55 ((F_11_faultOfText_0 M).1) ((F_11_faultOfText_0 M).2)) else (F_11_work_68 (F_8_keep_0 (wr M 1558 2 (-1))))
def P_11_work_48 (xs0 : Int32) (M : Mem) : Prop := ((¬ xs0 = 0 → ((P_8_keep_0 (wr M 1558 2 (-1))) ∧ (P_11_work_68 (F_8_keep_0 (wr M 1558 2 (-1)))))) ∧ (xs0 = 0 → True))
theorem T_11_work_48 {g : Gl} (xs0 : Int32) (M : Mem) (hp : P_11_work_48 xs0 M) : Rc g 50 0 m11_work 48 [some (.ref 1558), none] [.int xs0] M ((F_11_work_48 xs0 M)) := by
  rw [F_11_work_48]
  rw [P_11_work_48] at hp
  refine b11_work_48  (fun h => ?_) (fun h => ?_)
  · rw [if_neg h]
    have hp := hp.1 h
    obtain ⟨hc, hp⟩ := hp
    refine b11_work_56  (C_8_keep  (wr M 1558 2 (-1)) hc) (Nat.le_of_ble_eq_true rfl) ?_
    exact R_cw (Nat.le_of_ble_eq_true rfl) (T_11_work_68 (F_8_keep_0 (wr M 1558 2 (-1))) hp)
  · rw [if_pos h]
    refine b11_work_51  (C_11_faultOfText  M) (Nat.le_of_ble_eq_true rfl) ?_
    exact R_cw (Nat.le_of_ble_eq_true rfl) (T_11_work_55 ((F_11_faultOfText_0 M).1) ((F_11_faultOfText_0 M).2))
def F_11_work_13 (M : Mem) : Oc := if (rd M 1614 2) < 16 then (F_11_work_48 ((F_10_read_0 M).1) ((F_10_read_0 M).2)) else (.inl (some (.int (-20)), wr M 1558 2 (-1)))
def P_11_work_13 (M : Mem) : Prop := (((rd M 1614 2) < 16 → ((P_10_read_0 M) ∧ (P_11_work_48 ((F_10_read_0 M).1) ((F_10_read_0 M).2)))) ∧ (¬ (rd M 1614 2) < 16 → True))
theorem T_11_work_13 {g : Gl} (M : Mem) (hp : P_11_work_13 M) : Rc g 50 0 m11_work 13 [some (.ref 1558), none] [] M ((F_11_work_13 M)) := by
  rw [F_11_work_13]
  rw [P_11_work_13] at hp
  refine b11_work_13  (fun h => ?_) (fun h => ?_)
  · rw [if_pos h]
    have hp := hp.1 h
    obtain ⟨hc, hp⟩ := hp
    refine b11_work_33  (C_10_read  M hc) (Nat.le_of_ble_eq_true rfl) ?_
    exact R_cw (Nat.le_of_ble_eq_true rfl) (T_11_work_48 ((F_10_read_0 M).1) ((F_10_read_0 M).2) hp)
  · rw [if_neg h]
    exact b11_work_25  rfl
def F_11_work_0 (x1 : Int32) (M : Mem) : Oc := if 0 ≤ x1 ∧ x1 ≤ (if rd M 1558 1 < 150 then rd M 1558 1 else 150) then (F_11_work_13 (F_11_takeTape_0 x1 M)) else (.inr ("java/lang/IllegalArgumentException", wr M 1558 4 (rd M 1558 4 + 1)))
def P_11_work_0 (x1 : Int32) (M : Mem) : Prop := ((0 ≤ x1 ∧ x1 ≤ (if rd M 1558 1 < 150 then rd M 1558 1 else 150) → ((P_11_work_13 (F_11_takeTape_0 x1 M)))))
theorem T_11_work_0 {g : Gl} (x1 : Int32) (M : Mem) (hp : P_11_work_0 x1 M) : Rc g 50 1 m11_work 0 [some (.ref 1558), some (.int x1)] [] M ((F_11_work_0 x1 M)) := by
  rw [F_11_work_0]
  rw [P_11_work_0] at hp
  refine b11_work_0  (C_needBytes x1 150 M) (Nat.le_of_ble_eq_true rfl) (fun h => ?_) (fun h => ?_)
  · rw [if_pos h]
    have hp := hp h
    refine b11_work_8  (C_11_takeTape x1 M) (Nat.le_of_ble_eq_true rfl) ?_
    exact R_cw (Nat.le_of_ble_eq_true rfl) (T_11_work_13 (F_11_takeTape_0 x1 M) hp)
  · rw [if_neg h]
theorem C_11_work {g : Gl} (x1 : Int32) (M : Mem) (hp : P_11_work_0 x1 M) : MsX g 50 1 m11_work [.ref 1558, .int x1] M (F_11_work_0 x1 M) := MsX.of okM_m11_work (Nat.le_of_ble_eq_true rfl) (R_wk (lc rfl (lc rfl l0)) (T_11_work_0 x1 M hp))
def F_11_walk_30 (xs0 : Int32) (M : Mem) : Oc := .inl (some (.int xs0), M)
theorem T_11_walk_30 {g : Gl} (xs0 : Int32) (M : Mem)  : Rc g 8 0 m11_walk 30 [none, none] [.int xs0] M ((F_11_walk_30 xs0 M)) := by
  rw [F_11_walk_30]
  exact b11_walk_30  rfl
def F_11_walk_23 (xs0 : Int32) (M : Mem) : Oc := if xs0 = 0 then (F_11_walk_30 ((F_11_faultOfText_0 M).1) ((F_11_faultOfText_0 M).2)) else (.inl (some (.int (rd (wr M 1558 2 (-1)) 1592 7)), wr M 1558 2 (-1)))
theorem T_11_walk_23 {g : Gl} (xs0 : Int32) (M : Mem)  : Rc g 8 0 m11_walk 23 [some (.ref 1558), none] [.int xs0] M ((F_11_walk_23 xs0 M)) := by
  rw [F_11_walk_23]
  refine b11_walk_23  (fun h => ?_) (fun h => ?_)
  · rw [if_neg h]
    exact b11_walk_31  rfl
  · rw [if_pos h]
    refine b11_walk_26  (C_11_faultOfText  M) (Nat.le_of_ble_eq_true rfl) ?_
    exact R_cw (Nat.le_of_ble_eq_true rfl) (T_11_walk_30 ((F_11_faultOfText_0 M).1) ((F_11_faultOfText_0 M).2))
def F_11_walk_12 (M : Mem) : Oc := F_11_walk_23 ((F_9_read_0 M).1) ((F_9_read_0 M).2)
def P_11_walk_12 (M : Mem) : Prop := ((P_9_read_0 M))
theorem T_11_walk_12 {g : Gl} (M : Mem) (hp : P_11_walk_12 M) : Rc g 8 0 m11_walk 12 [some (.ref 1558), none] [] M ((F_11_walk_12 M)) := by
  rw [F_11_walk_12]
  rw [P_11_walk_12] at hp
  have hc := hp
  refine b11_walk_12  (C_9_read  M hc) (Nat.le_of_ble_eq_true rfl) ?_
  exact R_cw (Nat.le_of_ble_eq_true rfl) (T_11_walk_23 ((F_9_read_0 M).1) ((F_9_read_0 M).2))
def F_11_walk_0 (x1 : Int32) (M : Mem) : Oc := if 0 ≤ x1 ∧ x1 ≤ (if rd M 1558 1 < 60 then rd M 1558 1 else 60) then (F_11_walk_12 (F_11_takeTape_0 x1 M)) else (.inr ("java/lang/IllegalArgumentException", wr M 1558 4 (rd M 1558 4 + 1)))
def P_11_walk_0 (x1 : Int32) (M : Mem) : Prop := ((0 ≤ x1 ∧ x1 ≤ (if rd M 1558 1 < 60 then rd M 1558 1 else 60) → ((P_11_walk_12 (F_11_takeTape_0 x1 M)))))
theorem T_11_walk_0 {g : Gl} (x1 : Int32) (M : Mem) (hp : P_11_walk_0 x1 M) : Rc g 8 1 m11_walk 0 [some (.ref 1558), some (.int x1)] [] M ((F_11_walk_0 x1 M)) := by
  rw [F_11_walk_0]
  rw [P_11_walk_0] at hp
  refine b11_walk_0  (C_needBytes x1 60 M) (Nat.le_of_ble_eq_true rfl) (fun h => ?_) (fun h => ?_)
  · rw [if_pos h]
    have hp := hp h
    refine b11_walk_7  (C_11_takeTape x1 M) (Nat.le_of_ble_eq_true rfl) ?_
    exact R_cw (Nat.le_of_ble_eq_true rfl) (T_11_walk_12 (F_11_takeTape_0 x1 M) hp)
  · rw [if_neg h]
theorem C_11_walk {g : Gl} (x1 : Int32) (M : Mem) (hp : P_11_walk_0 x1 M) : MsX g 8 1 m11_walk [.ref 1558, .int x1] M (F_11_walk_0 x1 M) := MsX.of okM_m11_walk (Nat.le_of_ble_eq_true rfl) (R_wk (lc rfl (lc rfl l0)) (T_11_walk_0 x1 M hp))
