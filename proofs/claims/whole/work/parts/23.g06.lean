def F_10_readSteps_52 (rF : Int32 → Mem → Int32 × Mem) (k3 : Int32 → Int32 → Mem → Int32 × Mem) (x3 : Int32) (x4 : Int32) (xs0 : Int32) (M : Mem) : Int32 × Mem := if xs0 = 0 then ((0, M)) else (k3 x3 (x4 + 1) M)
def P_10_readSteps_52 (rF : Int32 → Mem → Int32 × Mem) (rP : Int32 → Mem → Prop) (pk3 : Int32 → Int32 → Mem → Prop) (x3 : Int32) (x4 : Int32) (xs0 : Int32) (M : Mem) : Prop := ((¬ xs0 = 0 → (pk3 x3 (x4 + 1) M)) ∧ (xs0 = 0 → True))
theorem T_10_readSteps_52 {g : Gl} (rF : Int32 → Mem → Int32 × Mem) (rP : Int32 → Mem → Prop) (k3 : Int32 → Int32 → Mem → Int32 × Mem) (pk3 : Int32 → Int32 → Mem → Prop) {dr : Nat} (rT : ∀ (a0 : Int32) (M : Mem), rP a0 M → Ms g dr m10_readSteps [.ref 1587, .ref 1560, .ref 1561, .int a0] M (some (.int (rF a0 M).1)) ((rF a0 M).2)) (ih3 : ∀ (x3 : Int32) (x4 : Int32) (M : Mem), pk3 x3 x4 M → Rn g (dr + 6) m10_readSteps 3 [some (.ref 1587), some (.ref 1560), some (.ref 1561), some (.int x3), some (.int x4)] [] M (some (.int (k3 x3 x4 M).1)) ((k3 x3 x4 M).2)) (x3 : Int32) (x4 : Int32) (xs0 : Int32) (M : Mem) (hp : P_10_readSteps_52 rF rP pk3 x3 x4 xs0 M) : Rn g (dr + 6) m10_readSteps 52 [some (.ref 1587), some (.ref 1560), some (.ref 1561), some (.int x3), some (.int x4)] [.int xs0] M (some (.int (F_10_readSteps_52 rF k3 x3 x4 xs0 M).1)) ((F_10_readSteps_52 rF k3 x3 x4 xs0 M).2) := by
  rw [F_10_readSteps_52]
  rw [P_10_readSteps_52] at hp
  refine b10_readSteps_52  (fun h => ?_) (fun h => ?_)
  · rw [if_neg h]
    have hp := hp.1 h
    refine b10_readSteps_57  ?_
    exact ih3 x3 (x4 + 1) M hp
  · rw [if_pos h]
    exact b10_readSteps_55  rfl rfl
def F_10_readSteps_43 (rF : Int32 → Mem → Int32 × Mem) (k3 : Int32 → Int32 → Mem → Int32 × Mem) (x3 : Int32) (x4 : Int32) (xs0 : Int32) (M : Mem) : Int32 × Mem := if xs0 = 0 then ((0, M)) else (F_10_readSteps_52 rF k3 x3 x4 ((F_5_needs_0 59 M).1) ((F_5_needs_0 59 M).2))
def P_10_readSteps_43 (rF : Int32 → Mem → Int32 × Mem) (rP : Int32 → Mem → Prop) (pk3 : Int32 → Int32 → Mem → Prop) (x3 : Int32) (x4 : Int32) (xs0 : Int32) (M : Mem) : Prop := ((xs0 = 0 → True) ∧ (¬ xs0 = 0 → ((P_5_needs_0 59 M) ∧ (P_10_readSteps_52 rF rP pk3 x3 x4 ((F_5_needs_0 59 M).1) ((F_5_needs_0 59 M).2)))))
theorem T_10_readSteps_43 {g : Gl} (rF : Int32 → Mem → Int32 × Mem) (rP : Int32 → Mem → Prop) (k3 : Int32 → Int32 → Mem → Int32 × Mem) (pk3 : Int32 → Int32 → Mem → Prop) {dr : Nat} (rT : ∀ (a0 : Int32) (M : Mem), rP a0 M → Ms g dr m10_readSteps [.ref 1587, .ref 1560, .ref 1561, .int a0] M (some (.int (rF a0 M).1)) ((rF a0 M).2)) (ih3 : ∀ (x3 : Int32) (x4 : Int32) (M : Mem), pk3 x3 x4 M → Rn g (dr + 6) m10_readSteps 3 [some (.ref 1587), some (.ref 1560), some (.ref 1561), some (.int x3), some (.int x4)] [] M (some (.int (k3 x3 x4 M).1)) ((k3 x3 x4 M).2)) (x3 : Int32) (x4 : Int32) (xs0 : Int32) (M : Mem) (hp : P_10_readSteps_43 rF rP pk3 x3 x4 xs0 M) : Rn g (dr + 6) m10_readSteps 43 [some (.ref 1587), some (.ref 1560), some (.ref 1561), some (.int x3), some (.int x4)] [.int xs0] M (some (.int (F_10_readSteps_43 rF k3 x3 x4 xs0 M).1)) ((F_10_readSteps_43 rF k3 x3 x4 xs0 M).2) := by
  rw [F_10_readSteps_43]
  rw [P_10_readSteps_43] at hp
  refine b10_readSteps_43  (fun h => ?_) (fun h => ?_)
  · rw [if_pos h]
    exact b10_readSteps_55  rfl rfl
  · rw [if_neg h]
    have hp := hp.2 h
    obtain ⟨hc, hp⟩ := hp
    refine b10_readSteps_46  (C_5_needs 59 M hc) (by omega) ?_
    exact T_10_readSteps_52 rF rP k3 pk3 rT ih3 x3 x4 ((F_5_needs_0 59 M).1) ((F_5_needs_0 59 M).2) hp
def F_10_readSteps_36 (rF : Int32 → Mem → Int32 × Mem) (k3 : Int32 → Int32 → Mem → Int32 × Mem) (x3 : Int32) (x4 : Int32) (M : Mem) : Int32 × Mem := F_10_readSteps_43 rF k3 x3 x4 ((F_10_readStep_0 rF x3 M).1) ((F_10_readStep_0 rF x3 M).2)
def P_10_readSteps_36 (rF : Int32 → Mem → Int32 × Mem) (rP : Int32 → Mem → Prop) (pk3 : Int32 → Int32 → Mem → Prop) (x3 : Int32) (x4 : Int32) (M : Mem) : Prop := ((P_10_readStep_0 rF rP x3 M) ∧ (P_10_readSteps_43 rF rP pk3 x3 x4 ((F_10_readStep_0 rF x3 M).1) ((F_10_readStep_0 rF x3 M).2)))
theorem T_10_readSteps_36 {g : Gl} (rF : Int32 → Mem → Int32 × Mem) (rP : Int32 → Mem → Prop) (k3 : Int32 → Int32 → Mem → Int32 × Mem) (pk3 : Int32 → Int32 → Mem → Prop) {dr : Nat} (rT : ∀ (a0 : Int32) (M : Mem), rP a0 M → Ms g dr m10_readSteps [.ref 1587, .ref 1560, .ref 1561, .int a0] M (some (.int (rF a0 M).1)) ((rF a0 M).2)) (ih3 : ∀ (x3 : Int32) (x4 : Int32) (M : Mem), pk3 x3 x4 M → Rn g (dr + 6) m10_readSteps 3 [some (.ref 1587), some (.ref 1560), some (.ref 1561), some (.int x3), some (.int x4)] [] M (some (.int (k3 x3 x4 M).1)) ((k3 x3 x4 M).2)) (x3 : Int32) (x4 : Int32) (M : Mem) (hp : P_10_readSteps_36 rF rP pk3 x3 x4 M) : Rn g (dr + 6) m10_readSteps 36 [some (.ref 1587), some (.ref 1560), some (.ref 1561), some (.int x3), some (.int x4)] [] M (some (.int (F_10_readSteps_36 rF k3 x3 x4 M).1)) ((F_10_readSteps_36 rF k3 x3 x4 M).2) := by
  rw [F_10_readSteps_36]
  rw [P_10_readSteps_36] at hp
  obtain ⟨hc, hp⟩ := hp
  refine b10_readSteps_36  (C_10_readStep rF rP rT x3 M hc) (by omega) ?_
  exact T_10_readSteps_43 rF rP k3 pk3 rT ih3 x3 x4 ((F_10_readStep_0 rF x3 M).1) ((F_10_readStep_0 rF x3 M).2) hp
def F_10_readSteps_19 (rF : Int32 → Mem → Int32 × Mem) (k3 : Int32 → Int32 → Mem → Int32 × Mem) (x3 : Int32) (x4 : Int32) (xs0 : Int32) (M : Mem) : Int32 × Mem := if xs0 = 0 then (F_10_readSteps_36 rF k3 x3 x4 M) else ((1, M))
def P_10_readSteps_19 (rF : Int32 → Mem → Int32 × Mem) (rP : Int32 → Mem → Prop) (pk3 : Int32 → Int32 → Mem → Prop) (x3 : Int32) (x4 : Int32) (xs0 : Int32) (M : Mem) : Prop := ((xs0 = 0 → P_10_readSteps_36 rF rP pk3 x3 x4 M) ∧ (¬ xs0 = 0 → True))
theorem T_10_readSteps_19 {g : Gl} (rF : Int32 → Mem → Int32 × Mem) (rP : Int32 → Mem → Prop) (k3 : Int32 → Int32 → Mem → Int32 × Mem) (pk3 : Int32 → Int32 → Mem → Prop) {dr : Nat} (rT : ∀ (a0 : Int32) (M : Mem), rP a0 M → Ms g dr m10_readSteps [.ref 1587, .ref 1560, .ref 1561, .int a0] M (some (.int (rF a0 M).1)) ((rF a0 M).2)) (ih3 : ∀ (x3 : Int32) (x4 : Int32) (M : Mem), pk3 x3 x4 M → Rn g (dr + 6) m10_readSteps 3 [some (.ref 1587), some (.ref 1560), some (.ref 1561), some (.int x3), some (.int x4)] [] M (some (.int (k3 x3 x4 M).1)) ((k3 x3 x4 M).2)) (x3 : Int32) (x4 : Int32) (xs0 : Int32) (M : Mem) (hp : P_10_readSteps_19 rF rP pk3 x3 x4 xs0 M) : Rn g (dr + 6) m10_readSteps 19 [some (.ref 1587), some (.ref 1560), some (.ref 1561), some (.int x3), some (.int x4)] [.int xs0] M (some (.int (F_10_readSteps_19 rF k3 x3 x4 xs0 M).1)) ((F_10_readSteps_19 rF k3 x3 x4 xs0 M).2) := by
  rw [F_10_readSteps_19]
  rw [P_10_readSteps_19] at hp
  refine b10_readSteps_19  (fun h => ?_) (fun h => ?_)
  · rw [if_pos h]
    have hp := hp.1 h
    exact T_10_readSteps_36 rF rP k3 pk3 rT ih3 x3 x4 M hp
  · rw [if_neg h]
    refine b10_readSteps_22  ?_
    exact b10_readSteps_34  rfl rfl
def F_10_readSteps_31 (rF : Int32 → Mem → Int32 × Mem) (k3 : Int32 → Int32 → Mem → Int32 × Mem) (x3 : Int32) (x4 : Int32) (xs0 : Int32) (M : Mem) : Int32 × Mem := if xs0 = 0 then (F_10_readSteps_36 rF k3 x3 x4 M) else ((1, M))
def P_10_readSteps_31 (rF : Int32 → Mem → Int32 × Mem) (rP : Int32 → Mem → Prop) (pk3 : Int32 → Int32 → Mem → Prop) (x3 : Int32) (x4 : Int32) (xs0 : Int32) (M : Mem) : Prop := ((xs0 = 0 → P_10_readSteps_36 rF rP pk3 x3 x4 M) ∧ (¬ xs0 = 0 → True))
theorem T_10_readSteps_31 {g : Gl} (rF : Int32 → Mem → Int32 × Mem) (rP : Int32 → Mem → Prop) (k3 : Int32 → Int32 → Mem → Int32 × Mem) (pk3 : Int32 → Int32 → Mem → Prop) {dr : Nat} (rT : ∀ (a0 : Int32) (M : Mem), rP a0 M → Ms g dr m10_readSteps [.ref 1587, .ref 1560, .ref 1561, .int a0] M (some (.int (rF a0 M).1)) ((rF a0 M).2)) (ih3 : ∀ (x3 : Int32) (x4 : Int32) (M : Mem), pk3 x3 x4 M → Rn g (dr + 6) m10_readSteps 3 [some (.ref 1587), some (.ref 1560), some (.ref 1561), some (.int x3), some (.int x4)] [] M (some (.int (k3 x3 x4 M).1)) ((k3 x3 x4 M).2)) (x3 : Int32) (x4 : Int32) (xs0 : Int32) (M : Mem) (hp : P_10_readSteps_31 rF rP pk3 x3 x4 xs0 M) : Rn g (dr + 6) m10_readSteps 31 [some (.ref 1587), some (.ref 1560), some (.ref 1561), some (.int x3), some (.int x4)] [.int xs0] M (some (.int (F_10_readSteps_31 rF k3 x3 x4 xs0 M).1)) ((F_10_readSteps_31 rF k3 x3 x4 xs0 M).2) := by
  rw [F_10_readSteps_31]
  rw [P_10_readSteps_31] at hp
  refine b10_readSteps_31  (fun h => ?_) (fun h => ?_)
  · rw [if_pos h]
    have hp := hp.1 h
    exact T_10_readSteps_36 rF rP k3 pk3 rT ih3 x3 x4 M hp
  · rw [if_neg h]
    exact b10_readSteps_34  rfl rfl
def F_10_readSteps_80 (rF : Int32 → Mem → Int32 × Mem) (xs0 : Int32) (M : Mem) : Int32 × Mem := (xs0, M)
def P_10_readSteps_80 (rF : Int32 → Mem → Int32 × Mem) (rP : Int32 → Mem → Prop) (xs0 : Int32) (M : Mem) : Prop := (narrow .boolean (.int xs0) = .int xs0)
theorem T_10_readSteps_80 {g : Gl} (rF : Int32 → Mem → Int32 × Mem) (rP : Int32 → Mem → Prop) {dr : Nat} (rT : ∀ (a0 : Int32) (M : Mem), rP a0 M → Ms g dr m10_readSteps [.ref 1587, .ref 1560, .ref 1561, .int a0] M (some (.int (rF a0 M).1)) ((rF a0 M).2)) (xs0 : Int32) (M : Mem) (hp : P_10_readSteps_80 rF rP xs0 M) : Rn g (dr + 6) m10_readSteps 80 [none, none, none, none, none] [.int xs0] M (some (.int (F_10_readSteps_80 rF xs0 M).1)) ((F_10_readSteps_80 rF xs0 M).2) := by
  rw [F_10_readSteps_80]
  rw [P_10_readSteps_80] at hp
  have p0 := hp
  exact b10_readSteps_80  rfl rfl p0
def F_10_readSteps_71 (rF : Int32 → Mem → Int32 × Mem) (xs0 : Int32) (M : Mem) : Int32 × Mem := F_10_readSteps_80 rF xs0 M
def P_10_readSteps_71 (rF : Int32 → Mem → Int32 × Mem) (rP : Int32 → Mem → Prop) (xs0 : Int32) (M : Mem) : Prop := (P_10_readSteps_80 rF rP xs0 M)
theorem T_10_readSteps_71 {g : Gl} (rF : Int32 → Mem → Int32 × Mem) (rP : Int32 → Mem → Prop) {dr : Nat} (rT : ∀ (a0 : Int32) (M : Mem), rP a0 M → Ms g dr m10_readSteps [.ref 1587, .ref 1560, .ref 1561, .int a0] M (some (.int (rF a0 M).1)) ((rF a0 M).2)) (xs0 : Int32) (M : Mem) (hp : P_10_readSteps_71 rF rP xs0 M) : Rn g (dr + 6) m10_readSteps 71 [none, none, none, none, none] [.int xs0] M (some (.int (F_10_readSteps_71 rF xs0 M).1)) ((F_10_readSteps_71 rF xs0 M).2) := by
  rw [F_10_readSteps_71]
  rw [P_10_readSteps_71] at hp
  refine b10_readSteps_71  ?_
  exact T_10_readSteps_80 rF rP rT xs0 M hp
def F_10_readSteps_3 (rF : Int32 → Mem → Int32 × Mem) : Nat → Int32 → Int32 → Mem → Int32 × Mem
  | 0, _, _, M => (0, M)
  | n + 1, x3, x4, M => if (150 : Int32) ≤ x4 then (if x3 = 0 then (F_10_readSteps_71 rF ((F_5_needsEnd_0 M).1) ((F_5_needsEnd_0 M).2)) else (F_10_readSteps_80 rF ((F_5_needs_0 93 M).1) ((F_5_needs_0 93 M).2))) else (if x3 = 0 then (F_10_readSteps_19 rF (F_10_readSteps_3 rF n) x3 x4 ((F_5_atEnd_0 M).1) ((F_5_atEnd_0 M).2)) else (F_10_readSteps_31 rF (F_10_readSteps_3 rF n) x3 x4 ((F_5_takes_0 93 M).1) ((F_5_takes_0 93 M).2)))
def P_10_readSteps_3 (rF : Int32 → Mem → Int32 × Mem) (rP : Int32 → Mem → Prop) : Nat → Int32 → Int32 → Mem → Prop
  | 0, _, _, _ => False
  | n + 1, x3, x4, M => (((150 : Int32) ≤ x4 → ((¬ x3 = 0 → ((P_5_needs_0 93 M) ∧ (P_10_readSteps_80 rF rP ((F_5_needs_0 93 M).1) ((F_5_needs_0 93 M).2)))) ∧ (x3 = 0 → ((P_5_needsEnd_0 M) ∧ (P_10_readSteps_71 rF rP ((F_5_needsEnd_0 M).1) ((F_5_needsEnd_0 M).2)))))) ∧ (¬ (150 : Int32) ≤ x4 → ((¬ x3 = 0 → ((P_5_takes_0 93 M) ∧ (P_10_readSteps_31 rF rP (P_10_readSteps_3 rF rP n) x3 x4 ((F_5_takes_0 93 M).1) ((F_5_takes_0 93 M).2)))) ∧ (x3 = 0 → ((P_5_atEnd_0 M) ∧ (P_10_readSteps_19 rF rP (P_10_readSteps_3 rF rP n) x3 x4 ((F_5_atEnd_0 M).1) ((F_5_atEnd_0 M).2)))))))
theorem T_10_readSteps_3 {g : Gl} (rF : Int32 → Mem → Int32 × Mem) (rP : Int32 → Mem → Prop) {dr : Nat} (rT : ∀ (a0 : Int32) (M : Mem), rP a0 M → Ms g dr m10_readSteps [.ref 1587, .ref 1560, .ref 1561, .int a0] M (some (.int (rF a0 M).1)) ((rF a0 M).2)) : ∀ (n : Nat) (x3 : Int32) (x4 : Int32) (M : Mem) (hp : P_10_readSteps_3 rF rP n x3 x4 M), Rn g (dr + 6) m10_readSteps 3 [some (.ref 1587), some (.ref 1560), some (.ref 1561), some (.int x3), some (.int x4)] [] M (some (.int (F_10_readSteps_3 rF n x3 x4 M).1)) ((F_10_readSteps_3 rF n x3 x4 M).2) := by
  intro n
  induction n with
  | zero => intro x3 x4 M hp; exact hp.elim
  | succ n ih =>
    intro x3 x4 M hp
    rw [F_10_readSteps_3]
    rw [P_10_readSteps_3] at hp
    refine b10_readSteps_3  (fun h => ?_) (fun h => ?_)
    · rw [if_pos h]
      have hp := hp.1 h
      refine b10_readSteps_63  (fun h => ?_) (fun h => ?_)
      · rw [if_neg h]
        have hp := hp.1 h
        obtain ⟨hc, hp⟩ := hp
        refine b10_readSteps_74  (C_5_needs 93 M hc) (by omega) ?_
        exact T_10_readSteps_80 rF rP rT ((F_5_needs_0 93 M).1) ((F_5_needs_0 93 M).2) hp
      · rw [if_pos h]
        have hp := hp.2 h
        obtain ⟨hc, hp⟩ := hp
        refine b10_readSteps_67  (C_5_needsEnd  M hc) (by omega) ?_
        exact T_10_readSteps_71 rF rP rT ((F_5_needsEnd_0 M).1) ((F_5_needsEnd_0 M).2) hp
    · rw [if_neg h]
      have hp := hp.2 h
      refine b10_readSteps_11  (fun h => ?_) (fun h => ?_)
      · rw [if_neg h]
        have hp := hp.1 h
        obtain ⟨hc, hp⟩ := hp
        refine b10_readSteps_25  (C_5_takes 93 M hc) (by omega) ?_
        exact T_10_readSteps_31 rF rP (F_10_readSteps_3 rF n) (P_10_readSteps_3 rF rP n) rT ih x3 x4 ((F_5_takes_0 93 M).1) ((F_5_takes_0 93 M).2) hp
      · rw [if_pos h]
        have hp := hp.2 h
        obtain ⟨hc, hp⟩ := hp
        refine b10_readSteps_15  (C_5_atEnd  M hc) (by omega) ?_
        exact T_10_readSteps_19 rF rP (F_10_readSteps_3 rF n) (P_10_readSteps_3 rF rP n) rT ih x3 x4 ((F_5_atEnd_0 M).1) ((F_5_atEnd_0 M).2) hp
def F_10_readSteps_0 (rF : Int32 → Mem → Int32 × Mem) (x3 : Int32) (M : Mem) : Int32 × Mem := F_10_readSteps_3 rF FU x3 0 M
def P_10_readSteps_0 (rF : Int32 → Mem → Int32 × Mem) (rP : Int32 → Mem → Prop) (x3 : Int32) (M : Mem) : Prop := (P_10_readSteps_3 rF rP FU x3 0 M)
theorem T_10_readSteps_0 {g : Gl} (rF : Int32 → Mem → Int32 × Mem) (rP : Int32 → Mem → Prop) {dr : Nat} (rT : ∀ (a0 : Int32) (M : Mem), rP a0 M → Ms g dr m10_readSteps [.ref 1587, .ref 1560, .ref 1561, .int a0] M (some (.int (rF a0 M).1)) ((rF a0 M).2)) (x3 : Int32) (M : Mem) (hp : P_10_readSteps_0 rF rP x3 M) : Rn g (dr + 6) m10_readSteps 0 [some (.ref 1587), some (.ref 1560), some (.ref 1561), some (.int x3), none] [] M (some (.int (F_10_readSteps_0 rF x3 M).1)) ((F_10_readSteps_0 rF x3 M).2) := by
  rw [F_10_readSteps_0]
  rw [P_10_readSteps_0] at hp
  refine b10_readSteps_0  ?_
  exact T_10_readSteps_3 rF rP rT FU x3 0 M hp
theorem C_10_readSteps {g : Gl} (rF : Int32 → Mem → Int32 × Mem) (rP : Int32 → Mem → Prop) {dr : Nat} (rT : ∀ (a0 : Int32) (M : Mem), rP a0 M → Ms g dr m10_readSteps [.ref 1587, .ref 1560, .ref 1561, .int a0] M (some (.int (rF a0 M).1)) ((rF a0 M).2)) (x3 : Int32) (M : Mem) (hp : P_10_readSteps_0 rF rP x3 M) : Ms g (dr + 6) m10_readSteps [.ref 1587, .ref 1560, .ref 1561, .int x3] M (some (.int (F_10_readSteps_0 rF x3 M).1)) ((F_10_readSteps_0 rF x3 M).2) := Ms.of okM_m10_readSteps (Nat.le_of_ble_eq_true rfl) (R_wk (lc rfl (lc rfl (lc rfl (lc rfl (ln l0))))) (T_10_readSteps_0 rF rP rT x3 M hp))
def G_10_readSteps  : Nat → Int32 → Mem → Int32 × Mem
  | 0, _, M => (0, M)
  | n + 1, a0, M => F_10_readSteps_0 (G_10_readSteps n) a0 M
def H_10_readSteps  : Nat → Int32 → Mem → Prop
  | 0, _, _ => False
  | n + 1, a0, M => P_10_readSteps_0 (G_10_readSteps n) (H_10_readSteps n) a0 M
theorem D_10_readSteps {g : Gl}  : ∀ (n : Nat) (a0 : Int32) (M : Mem), H_10_readSteps n a0 M → Ms g (6 * n) m10_readSteps [.ref 1587, .ref 1560, .ref 1561, .int a0] M (some (.int (G_10_readSteps n a0 M).1)) ((G_10_readSteps n a0 M).2) := by
  intro n
  induction n with
  | zero => intro a0 M hp; exact hp.elim
  | succ n ih =>
    intro a0 M hp
    rw [G_10_readSteps]
    rw [H_10_readSteps] at hp
    exact C_10_readSteps (G_10_readSteps n) (H_10_readSteps n) ih a0 M hp
def F_10_read_12 (xs0 : Int32) (M : Mem) : Int32 × Mem := (xs0, M)
def P_10_read_12 (xs0 : Int32) (M : Mem) : Prop := (narrow .boolean (.int xs0) = .int xs0)
theorem T_10_read_12 {g : Gl} (xs0 : Int32) (M : Mem) (hp : P_10_read_12 xs0 M) : Rn g 49 m10_read 12 [none, none, none] [.int xs0] M (some (.int (F_10_read_12 xs0 M).1)) ((F_10_read_12 xs0 M).2) := by
  rw [F_10_read_12]
  rw [P_10_read_12] at hp
  have p0 := hp
  exact b10_read_12  rfl rfl p0
def F_10_read_0 (M : Mem) : Int32 × Mem := F_10_read_12 ((G_10_readSteps 8 0 (wr M 1587 4 0)).1) ((G_10_readSteps 8 0 (wr M 1587 4 0)).2)
def P_10_read_0 (M : Mem) : Prop := ((H_10_readSteps 8 0 (wr M 1587 4 0)) ∧ (P_10_read_12 ((G_10_readSteps 8 0 (wr M 1587 4 0)).1) ((G_10_readSteps 8 0 (wr M 1587 4 0)).2)))
theorem T_10_read_0 {g : Gl} (M : Mem) (hp : P_10_read_0 M) : Rn g 49 m10_read 0 [some (.ref 1587), some (.ref 1560), some (.ref 1561)] [] M (some (.int (F_10_read_0 M).1)) ((F_10_read_0 M).2) := by
  rw [F_10_read_0]
  rw [P_10_read_0] at hp
  obtain ⟨hc, hp⟩ := hp
  refine b10_read_0  (D_10_readSteps 8 0 (wr M 1587 4 0) hc) (Nat.le_of_ble_eq_true rfl) ?_
  exact T_10_read_12 ((G_10_readSteps 8 0 (wr M 1587 4 0)).1) ((G_10_readSteps 8 0 (wr M 1587 4 0)).2) hp
theorem C_10_read {g : Gl}   (M : Mem) (hp : P_10_read_0 M) : Ms g 49 m10_read [.ref 1587, .ref 1560, .ref 1561] M (some (.int (F_10_read_0 M).1)) ((F_10_read_0 M).2) := Ms.of okM_m10_read (Nat.le_of_ble_eq_true rfl) (R_wk (lc rfl (lc rfl (lc rfl l0))) (T_10_read_0 M hp))
def F_10_turnBack_0 (x1 : Int32) (M : Mem) : Int32 × Mem := if (rd (wr M 1591 ((rd M 1589 x1.toNatClampNeg).toNatClampNeg) ((rd M 1591 ((rd M 1589 x1.toNatClampNeg).toNatClampNeg)) - 1)) 1591 ((rd M 1589 x1.toNatClampNeg).toNatClampNeg)) ≤ 0 then (((x1 + 1), (wr M 1591 ((rd M 1589 x1.toNatClampNeg).toNatClampNeg) ((rd M 1591 ((rd M 1589 x1.toNatClampNeg).toNatClampNeg)) - 1)))) else ((((rd M 1589 x1.toNatClampNeg) + 1), (wr M 1591 ((rd M 1589 x1.toNatClampNeg).toNatClampNeg) ((rd M 1591 ((rd M 1589 x1.toNatClampNeg).toNatClampNeg)) - 1))))
def P_10_turnBack_0 (x1 : Int32) (M : Mem) : Prop := (vp_in x1 150) ∧ (vp_in (rd M 1589 x1.toNatClampNeg) 150)
theorem T_10_turnBack_0 {g : Gl} (x1 : Int32) (M : Mem) (hp : P_10_turnBack_0 x1 M) : Rn g 0 m10_turnBack 0 [some (.ref 1587), some (.int x1), none] [] M (some (.int (F_10_turnBack_0 x1 M).1)) ((F_10_turnBack_0 x1 M).2) := by
  rw [F_10_turnBack_0]
  rw [P_10_turnBack_0] at hp
  obtain ⟨p0, p1⟩ := hp
  refine b10_turnBack_0 p0 p1 (fun h => ?_) (fun h => ?_)
  · rw [if_pos h]
    refine b10_turnBack_32  ?_
    exact b10_turnBack_35  rfl rfl
  · rw [if_neg h]
    refine b10_turnBack_26  ?_
    exact b10_turnBack_35  rfl rfl
theorem C_10_turnBack {g : Gl}  (x1 : Int32) (M : Mem) (hp : P_10_turnBack_0 x1 M) : Ms g 0 m10_turnBack [.ref 1587, .int x1] M (some (.int (F_10_turnBack_0 x1 M).1)) ((F_10_turnBack_0 x1 M).2) := Ms.of okM_m10_turnBack (Nat.le_of_ble_eq_true rfl) (R_wk (lc rfl (lc rfl (ln l0))) (T_10_turnBack_0 x1 M hp))
def F_10_goes_25 (x0 : Int32) (x1 : Int32) (xs0 : Int32) (M : Mem) : Int32 × Mem := if xs0 = 0 then ((0, M)) else ((1, wr (wr (wr M 1622 1 ((rd M 1622 1) + (F_7_toursIn_0 M (rd M 1568 x1.toNatClampNeg) (rd M 1561 2)))) 1624 x0.toNatClampNeg (rd (wr M 1622 1 ((rd M 1622 1) + (F_7_toursIn_0 M (rd M 1568 x1.toNatClampNeg) (rd M 1561 2)))) 1568 x1.toNatClampNeg)) 1623 x1.toNatClampNeg ((rd (wr (wr M 1622 1 ((rd M 1622 1) + (F_7_toursIn_0 M (rd M 1568 x1.toNatClampNeg) (rd M 1561 2)))) 1624 x0.toNatClampNeg (rd (wr M 1622 1 ((rd M 1622 1) + (F_7_toursIn_0 M (rd M 1568 x1.toNatClampNeg) (rd M 1561 2)))) 1568 x1.toNatClampNeg)) 1623 x1.toNatClampNeg) + 1)))
def P_10_goes_25 (x0 : Int32) (x1 : Int32) (xs0 : Int32) (M : Mem) : Prop := ((¬ xs0 = 0 → (vp_in x1 24) ∧ ((P_7_toursIn_0 M (rd M 1568 x1.toNatClampNeg) (rd M 1561 2)) ∧ ((vp_in x1 24) ∧ (vp_in x0 6)))) ∧ (xs0 = 0 → True))
theorem T_10_goes_25 {g : Gl} (x0 : Int32) (x1 : Int32) (xs0 : Int32) (M : Mem) (hp : P_10_goes_25 x0 x1 xs0 M) : Rn g 4 m10_goes 25 [some (.int x0), some (.int x1), some (.ref 1561), some (.ref 1622), none] [.int xs0] M (some (.int (F_10_goes_25 x0 x1 xs0 M).1)) ((F_10_goes_25 x0 x1 xs0 M).2) := by
  rw [F_10_goes_25]
  rw [P_10_goes_25] at hp
  refine b10_goes_25  (fun h => ?_) (fun h => ?_)
  · rw [if_neg h]
    have hp := hp.1 h
    obtain ⟨p0, hp⟩ := hp
    obtain ⟨hc, hp⟩ := hp
    refine b10_goes_30 p0 (C_7_toursIn (rd M 1568 x1.toNatClampNeg) (rd M 1561 2) M hc) (Nat.le_of_ble_eq_true rfl) ?_
    obtain ⟨p1, p2⟩ := hp
    exact b10_goes_49 p1 p2 rfl rfl
  · rw [if_pos h]
    exact b10_goes_28  rfl rfl
def F_10_goes_0 (x0 : Int32) (x1 : Int32) (M : Mem) : Int32 × Mem := if (rd M 1624 x0.toNatClampNeg) = (rd M 1567 x1.toNatClampNeg) then (F_10_goes_25 x0 x1 ((F_1_isOpen_0 x1 (rd M 1622 0) M).1) ((F_1_isOpen_0 x1 (rd M 1622 0) M).2)) else ((0, M))
def P_10_goes_0 (x0 : Int32) (x1 : Int32) (M : Mem) : Prop := (vp_in x0 6) ∧ (vp_in x1 24) ∧ ((¬ (rd M 1624 x0.toNatClampNeg) = (rd M 1567 x1.toNatClampNeg) → True) ∧ ((rd M 1624 x0.toNatClampNeg) = (rd M 1567 x1.toNatClampNeg) → ((P_1_isOpen_0 x1 (rd M 1622 0) M) ∧ (P_10_goes_25 x0 x1 ((F_1_isOpen_0 x1 (rd M 1622 0) M).1) ((F_1_isOpen_0 x1 (rd M 1622 0) M).2)))))
theorem T_10_goes_0 {g : Gl} (x0 : Int32) (x1 : Int32) (M : Mem) (hp : P_10_goes_0 x0 x1 M) : Rn g 4 m10_goes 0 [some (.int x0), some (.int x1), some (.ref 1561), some (.ref 1622), some (.ref 1598)] [] M (some (.int (F_10_goes_0 x0 x1 M).1)) ((F_10_goes_0 x0 x1 M).2) := by
  rw [F_10_goes_0]
  rw [P_10_goes_0] at hp
  obtain ⟨p0, p1, hp⟩ := hp
  refine b10_goes_0 p0 p1 (fun h => ?_) (fun h => ?_)
  · rw [if_neg h]
    exact b10_goes_28  rfl rfl
  · rw [if_pos h]
    have hp := hp.2 h
    obtain ⟨hc, hp⟩ := hp
    refine b10_goes_15  (C_1_isOpen x1 (rd M 1622 0) M hc) (Nat.le_of_ble_eq_true rfl) ?_
    exact T_10_goes_25 x0 x1 ((F_1_isOpen_0 x1 (rd M 1622 0) M).1) ((F_1_isOpen_0 x1 (rd M 1622 0) M).2) hp
theorem C_10_goes {g : Gl}  (x0 : Int32) (x1 : Int32) (M : Mem) (hp : P_10_goes_0 x0 x1 M) : Ms g 4 m10_goes [.int x0, .int x1, .ref 1561, .ref 1622, .ref 1598] M (some (.int (F_10_goes_0 x0 x1 M).1)) ((F_10_goes_0 x0 x1 M).2) := Ms.of okM_m10_goes (Nat.le_of_ble_eq_true rfl) (R_wk (lc rfl (lc rfl (lc rfl (lc rfl (lc rfl l0))))) (T_10_goes_0 x0 x1 M hp))
def F_11_putNumber_3  : Nat → Int32 → Int32 → Mem → Mem
  | 0, _, _, M => M
  | n + 1, x1, x2, M => if x2 < 0 then (M) else (if (600 : Int32) ≤ (rd M 1558 1) then (M) else ((F_11_putNumber_3 n) x1 (x2 + (-8)) (wr (wr M 1559 ((rd M 1558 1).toNatClampNeg) (vp_nar .byte (((x1.toUInt32 >>> (x2.toUInt32 &&& Int32.toUInt32 31)).toInt32).toInt8.toInt32))) 1558 1 ((rd (wr M 1559 ((rd M 1558 1).toNatClampNeg) (vp_nar .byte (((x1.toUInt32 >>> (x2.toUInt32 &&& Int32.toUInt32 31)).toInt32).toInt8.toInt32))) 1558 1) + 1))))
def P_11_putNumber_3  : Nat → Int32 → Int32 → Mem → Prop
  | 0, _, _, _ => False
  | n + 1, x1, x2, M => ((x2 < 0 → True) ∧ (¬ x2 < 0 → (((600 : Int32) ≤ (rd M 1558 1) → True) ∧ (¬ (600 : Int32) ≤ (rd M 1558 1) → (vp_in (rd M 1558 1) 600) ∧ (((P_11_putNumber_3 n) x1 (x2 + (-8)) (wr (wr M 1559 ((rd M 1558 1).toNatClampNeg) (vp_nar .byte (((x1.toUInt32 >>> (x2.toUInt32 &&& Int32.toUInt32 31)).toInt32).toInt8.toInt32))) 1558 1 ((rd (wr M 1559 ((rd M 1558 1).toNatClampNeg) (vp_nar .byte (((x1.toUInt32 >>> (x2.toUInt32 &&& Int32.toUInt32 31)).toInt32).toInt8.toInt32))) 1558 1) + 1))))))))
theorem T_11_putNumber_3 {g : Gl} : ∀ (n : Nat) (x1 : Int32) (x2 : Int32) (M : Mem) (hp : P_11_putNumber_3 n x1 x2 M), Rn g 0 m11_putNumber 3 [some (.ref 1558), some (.int x1), some (.int x2)] [] M (none) ((F_11_putNumber_3 n x1 x2 M)) := by
  intro n
  induction n with
  | zero => intro x1 x2 M hp; exact hp.elim
  | succ n ih =>
    intro x1 x2 M hp
    rw [F_11_putNumber_3]
    rw [P_11_putNumber_3] at hp
    refine b11_putNumber_3  (fun h => ?_) (fun h => ?_)
    · rw [if_pos h]
      exact b11_putNumber_46  rfl rfl
    · rw [if_neg h]
      have hp := hp.2 h
      refine b11_putNumber_7  (fun h => ?_) (fun h => ?_)
      · rw [if_pos h]
        exact b11_putNumber_46  rfl rfl
      · rw [if_neg h]
        have hp := hp.2 h
        obtain ⟨p0, hp⟩ := hp
        refine b11_putNumber_17 p0 ?_
        refine b11_putNumber_30  ?_
        exact ih x1 (x2 + (-8)) (wr (wr M 1559 ((rd M 1558 1).toNatClampNeg) (vp_nar .byte (((x1.toUInt32 >>> (x2.toUInt32 &&& Int32.toUInt32 31)).toInt32).toInt8.toInt32))) 1558 1 ((rd (wr M 1559 ((rd M 1558 1).toNatClampNeg) (vp_nar .byte (((x1.toUInt32 >>> (x2.toUInt32 &&& Int32.toUInt32 31)).toInt32).toInt8.toInt32))) 1558 1) + 1)) hp
def F_11_putNumber_0 (x1 : Int32) (M : Mem) : Mem := F_11_putNumber_3 FU x1 24 M
def P_11_putNumber_0 (x1 : Int32) (M : Mem) : Prop := (P_11_putNumber_3 FU x1 24 M)
theorem T_11_putNumber_0 {g : Gl} (x1 : Int32) (M : Mem) (hp : P_11_putNumber_0 x1 M) : Rn g 0 m11_putNumber 0 [some (.ref 1558), some (.int x1), none] [] M (none) ((F_11_putNumber_0 x1 M)) := by
  rw [F_11_putNumber_0]
  rw [P_11_putNumber_0] at hp
  refine b11_putNumber_0  ?_
  exact T_11_putNumber_3 FU x1 24 M hp
theorem C_11_putNumber {g : Gl}  (x1 : Int32) (M : Mem) (hp : P_11_putNumber_0 x1 M) : Ms g 0 m11_putNumber [.ref 1558, .int x1] M (none) ((F_11_putNumber_0 x1 M)) := Ms.of okM_m11_putNumber (Nat.le_of_ble_eq_true rfl) (R_wk (lc rfl (lc rfl (ln l0))) (T_11_putNumber_0 x1 M hp))
def F_11_feed_39 (M : Mem) : Int32 × Mem := (rd M 1558 1, M)
theorem T_11_feed_39 {g : Gl} (M : Mem)  : Rn g 1 m11_feed 39 [some (.ref 1558), none, none, none, none, none] [] M (some (.int (F_11_feed_39 M).1)) ((F_11_feed_39 M).2) := by
  rw [F_11_feed_39]
  exact b11_feed_39  rfl rfl
def F_11_feed_33 (x5 : Int32) (M : Mem) : Int32 × Mem := F_11_feed_39 (F_11_putNumber_0 x5 M)
def P_11_feed_33 (x5 : Int32) (M : Mem) : Prop := ((P_11_putNumber_0 x5 M))
theorem T_11_feed_33 {g : Gl} (x5 : Int32) (M : Mem) (hp : P_11_feed_33 x5 M) : Rn g 1 m11_feed 33 [some (.ref 1558), none, none, none, none, some (.int x5)] [] M (some (.int (F_11_feed_33 x5 M).1)) ((F_11_feed_33 x5 M).2) := by
  rw [F_11_feed_33]
  rw [P_11_feed_33] at hp
  have hc := hp
  refine b11_feed_33  (C_11_putNumber x5 M hc) (Nat.le_of_ble_eq_true rfl) ?_
  exact T_11_feed_39 (F_11_putNumber_0 x5 M)
def F_11_feed_27 (x4 : Int32) (x5 : Int32) (M : Mem) : Int32 × Mem := F_11_feed_33 x5 (F_11_putNumber_0 x4 M)
def P_11_feed_27 (x4 : Int32) (x5 : Int32) (M : Mem) : Prop := ((P_11_putNumber_0 x4 M) ∧ (P_11_feed_33 x5 (F_11_putNumber_0 x4 M)))
theorem T_11_feed_27 {g : Gl} (x4 : Int32) (x5 : Int32) (M : Mem) (hp : P_11_feed_27 x4 x5 M) : Rn g 1 m11_feed 27 [some (.ref 1558), none, none, none, some (.int x4), some (.int x5)] [] M (some (.int (F_11_feed_27 x4 x5 M).1)) ((F_11_feed_27 x4 x5 M).2) := by
  rw [F_11_feed_27]
  rw [P_11_feed_27] at hp
  obtain ⟨hc, hp⟩ := hp
  refine b11_feed_27  (C_11_putNumber x4 M hc) (Nat.le_of_ble_eq_true rfl) ?_
  exact T_11_feed_33 x5 (F_11_putNumber_0 x4 M) hp
def F_11_feed_22 (x3 : Int32) (x4 : Int32) (x5 : Int32) (M : Mem) : Int32 × Mem := F_11_feed_27 x4 x5 (F_11_putNumber_0 x3 M)
def P_11_feed_22 (x3 : Int32) (x4 : Int32) (x5 : Int32) (M : Mem) : Prop := ((P_11_putNumber_0 x3 M) ∧ (P_11_feed_27 x4 x5 (F_11_putNumber_0 x3 M)))
theorem T_11_feed_22 {g : Gl} (x3 : Int32) (x4 : Int32) (x5 : Int32) (M : Mem) (hp : P_11_feed_22 x3 x4 x5 M) : Rn g 1 m11_feed 22 [some (.ref 1558), none, none, some (.int x3), some (.int x4), some (.int x5)] [] M (some (.int (F_11_feed_22 x3 x4 x5 M).1)) ((F_11_feed_22 x3 x4 x5 M).2) := by
  rw [F_11_feed_22]
  rw [P_11_feed_22] at hp
  obtain ⟨hc, hp⟩ := hp
  refine b11_feed_22  (C_11_putNumber x3 M hc) (Nat.le_of_ble_eq_true rfl) ?_
  exact T_11_feed_27 x4 x5 (F_11_putNumber_0 x3 M) hp
def F_11_feed_17 (x2 : Int32) (x3 : Int32) (x4 : Int32) (x5 : Int32) (M : Mem) : Int32 × Mem := F_11_feed_22 x3 x4 x5 (F_11_putNumber_0 x2 M)
def P_11_feed_17 (x2 : Int32) (x3 : Int32) (x4 : Int32) (x5 : Int32) (M : Mem) : Prop := ((P_11_putNumber_0 x2 M) ∧ (P_11_feed_22 x3 x4 x5 (F_11_putNumber_0 x2 M)))
theorem T_11_feed_17 {g : Gl} (x2 : Int32) (x3 : Int32) (x4 : Int32) (x5 : Int32) (M : Mem) (hp : P_11_feed_17 x2 x3 x4 x5 M) : Rn g 1 m11_feed 17 [some (.ref 1558), none, some (.int x2), some (.int x3), some (.int x4), some (.int x5)] [] M (some (.int (F_11_feed_17 x2 x3 x4 x5 M).1)) ((F_11_feed_17 x2 x3 x4 x5 M).2) := by
  rw [F_11_feed_17]
  rw [P_11_feed_17] at hp
  obtain ⟨hc, hp⟩ := hp
  refine b11_feed_17  (C_11_putNumber x2 M hc) (Nat.le_of_ble_eq_true rfl) ?_
  exact T_11_feed_22 x3 x4 x5 (F_11_putNumber_0 x2 M) hp
def F_11_feed_0 (x1 : Int32) (x2 : Int32) (x3 : Int32) (x4 : Int32) (x5 : Int32) (M : Mem) : Int32 × Mem := if (rd M 1558 1) ≤ 580 then (F_11_feed_17 x2 x3 x4 x5 (F_11_putNumber_0 x1 M)) else (((-1), M))
def P_11_feed_0 (x1 : Int32) (x2 : Int32) (x3 : Int32) (x4 : Int32) (x5 : Int32) (M : Mem) : Prop := (((rd M 1558 1) ≤ 580 → ((P_11_putNumber_0 x1 M) ∧ (P_11_feed_17 x2 x3 x4 x5 (F_11_putNumber_0 x1 M)))) ∧ (¬ (rd M 1558 1) ≤ 580 → True))
theorem T_11_feed_0 {g : Gl} (x1 : Int32) (x2 : Int32) (x3 : Int32) (x4 : Int32) (x5 : Int32) (M : Mem) (hp : P_11_feed_0 x1 x2 x3 x4 x5 M) : Rn g 1 m11_feed 0 [some (.ref 1558), some (.int x1), some (.int x2), some (.int x3), some (.int x4), some (.int x5)] [] M (some (.int (F_11_feed_0 x1 x2 x3 x4 x5 M).1)) ((F_11_feed_0 x1 x2 x3 x4 x5 M).2) := by
  rw [F_11_feed_0]
  rw [P_11_feed_0] at hp
  refine b11_feed_0  (fun h => ?_) (fun h => ?_)
  · rw [if_pos h]
    have hp := hp.1 h
    obtain ⟨hc, hp⟩ := hp
    refine b11_feed_12  (C_11_putNumber x1 M hc) (Nat.le_of_ble_eq_true rfl) ?_
    exact T_11_feed_17 x2 x3 x4 x5 (F_11_putNumber_0 x1 M) hp
  · rw [if_neg h]
    exact b11_feed_10  rfl rfl
theorem C_11_feed {g : Gl}  (x1 : Int32) (x2 : Int32) (x3 : Int32) (x4 : Int32) (x5 : Int32) (M : Mem) (hp : P_11_feed_0 x1 x2 x3 x4 x5 M) : Ms g 1 m11_feed [.ref 1558, .int x1, .int x2, .int x3, .int x4, .int x5] M (some (.int (F_11_feed_0 x1 x2 x3 x4 x5 M).1)) ((F_11_feed_0 x1 x2 x3 x4 x5 M).2) := Ms.of okM_m11_feed (Nat.le_of_ble_eq_true rfl) (R_wk (lc rfl (lc rfl (lc rfl (lc rfl (lc rfl (lc rfl l0)))))) (T_11_feed_0 x1 x2 x3 x4 x5 M hp))
def F_11_takeTape_8 (M : Mem) : Mem := wr M 1558 1 0
theorem T_11_takeTape_8 {g : Gl} (M : Mem)  : Rn g 2 m11_takeTape 8 [some (.ref 1558), none] [] M (none) ((F_11_takeTape_8 M)) := by
  rw [F_11_takeTape_8]
  exact b11_takeTape_8  rfl rfl
def F_11_takeTape_0 (x1 : Int32) (M : Mem) : Mem := F_11_takeTape_8 (F_5_begin_0 x1 M)
theorem T_11_takeTape_0 {g : Gl} (x1 : Int32) (M : Mem)  : Rn g 2 m11_takeTape 0 [some (.ref 1558), some (.int x1)] [] M (none) ((F_11_takeTape_0 x1 M)) := by
  rw [F_11_takeTape_0]
  refine b11_takeTape_0  (C_5_begin x1 M) (Nat.le_of_ble_eq_true rfl) ?_
  exact T_11_takeTape_8 (F_5_begin_0 x1 M)
theorem C_11_takeTape {g : Gl}  (x1 : Int32) (M : Mem)  : Ms g 2 m11_takeTape [.ref 1558, .int x1] M (none) ((F_11_takeTape_0 x1 M)) := Ms.of okM_m11_takeTape (Nat.le_of_ble_eq_true rfl) (R_wk (lc rfl (lc rfl l0)) (T_11_takeTape_0 x1 M))
def F_11_faultOfText_0 (M : Mem) : Int32 × Mem := ((rd (wr M 1558 2 (rd M 1560 7)) 1560 6) - 10, wr M 1558 2 (rd M 1560 7))
theorem T_11_faultOfText_0 {g : Gl} (M : Mem)  : Rn g 0 m11_faultOfText 0 [some (.ref 1558)] [] M (some (.int (F_11_faultOfText_0 M).1)) ((F_11_faultOfText_0 M).2) := by
  rw [F_11_faultOfText_0]
  exact b11_faultOfText_0  rfl rfl
theorem C_11_faultOfText {g : Gl}   (M : Mem)  : Ms g 0 m11_faultOfText [.ref 1558] M (some (.int (F_11_faultOfText_0 M).1)) ((F_11_faultOfText_0 M).2) := Ms.of okM_m11_faultOfText (Nat.le_of_ble_eq_true rfl) (R_wk (lc rfl l0) (T_11_faultOfText_0 M))
def F_11_museum_31 (xs0 : Int32) (M : Mem) : Oc := .inl (some (.int xs0), M)
theorem T_11_museum_31 {g : Gl} (xs0 : Int32) (M : Mem)  : Rc g 8 0 m11_museum 31 [none, none] [.int xs0] M ((F_11_museum_31 xs0 M)) := by
  rw [F_11_museum_31]
  exact b11_museum_31  rfl
def F_11_museum_73 (M : Mem) : Oc := .inl (some (.int (rd (wr (wr M 1558 14 0) 1558 5 0) 1561 0)), wr (wr M 1558 14 0) 1558 5 0)
theorem T_11_museum_73 {g : Gl} (M : Mem)  : Rc g 8 0 m11_museum 73 [some (.ref 1558), none] [] M ((F_11_museum_73 M)) := by
  rw [F_11_museum_73]
  exact b11_museum_73  rfl
def F_11_museum_66 (M : Mem) : Oc := F_11_museum_73 (F_9_clear_0 M)
theorem T_11_museum_66 {g : Gl} (M : Mem)  : Rc g 8 0 m11_museum 66 [some (.ref 1558), none] [] M ((F_11_museum_66 M)) := by
  rw [F_11_museum_66]
  refine b11_museum_66  (C_9_clear  M) (Nat.le_of_ble_eq_true rfl) ?_
  exact R_cw (Nat.le_of_ble_eq_true rfl) (T_11_museum_73 (F_9_clear_0 M))
def F_11_museum_59 (M : Mem) : Oc := F_11_museum_66 (F_2_clear_0 M)
theorem T_11_museum_59 {g : Gl} (M : Mem)  : Rc g 8 0 m11_museum 59 [some (.ref 1558), none] [] M ((F_11_museum_59 M)) := by
  rw [F_11_museum_59]
  refine b11_museum_59  (C_2_clear  M) (Nat.le_of_ble_eq_true rfl) ?_
  exact R_cw (Nat.le_of_ble_eq_true rfl) (T_11_museum_66 (F_2_clear_0 M))
def F_11_museum_48 (M : Mem) : Oc := F_11_museum_59 (F_8_begin_0 M)
def P_11_museum_48 (M : Mem) : Prop := ((P_8_begin_0 M))
theorem T_11_museum_48 {g : Gl} (M : Mem) (hp : P_11_museum_48 M) : Rc g 8 0 m11_museum 48 [some (.ref 1558), none] [] M ((F_11_museum_48 M)) := by
  rw [F_11_museum_48]
  rw [P_11_museum_48] at hp
  have hc := hp
  refine b11_museum_48  (C_8_begin  M hc) (Nat.le_of_ble_eq_true rfl) ?_
  exact R_cw (Nat.le_of_ble_eq_true rfl) (T_11_museum_59 (F_8_begin_0 M))
def F_11_museum_24 (xs0 : Int32) (M : Mem) : Oc := if xs0 = 0 then (F_11_museum_31 ((F_11_faultOfText_0 M).1) ((F_11_faultOfText_0 M).2)) else (F_11_museum_48 (F_4_copyFrom_0 (wr M 1558 2 (-1))))
def P_11_museum_24 (xs0 : Int32) (M : Mem) : Prop := ((¬ xs0 = 0 → ((P_11_museum_48 (F_4_copyFrom_0 (wr M 1558 2 (-1)))))) ∧ (xs0 = 0 → True))
theorem T_11_museum_24 {g : Gl} (xs0 : Int32) (M : Mem) (hp : P_11_museum_24 xs0 M) : Rc g 8 0 m11_museum 24 [some (.ref 1558), none] [.int xs0] M ((F_11_museum_24 xs0 M)) := by
  rw [F_11_museum_24]
  rw [P_11_museum_24] at hp
  refine b11_museum_24  (fun h => ?_) (fun h => ?_)
  · rw [if_neg h]
    have hp := hp.1 h
    refine b11_museum_32  (C_4_copyFrom  (wr M 1558 2 (-1))) (Nat.le_of_ble_eq_true rfl) ?_
    exact R_cw (Nat.le_of_ble_eq_true rfl) (T_11_museum_48 (F_4_copyFrom_0 (wr M 1558 2 (-1))) hp)
  · rw [if_pos h]
    refine b11_museum_27  (C_11_faultOfText  M) (Nat.le_of_ble_eq_true rfl) ?_
    exact R_cw (Nat.le_of_ble_eq_true rfl) (T_11_museum_31 ((F_11_faultOfText_0 M).1) ((F_11_faultOfText_0 M).2))
def F_11_museum_13 (M : Mem) : Oc := F_11_museum_24 ((F_4_read_0 M).1) ((F_4_read_0 M).2)
def P_11_museum_13 (M : Mem) : Prop := ((P_4_read_0 M) ∧ (P_11_museum_24 ((F_4_read_0 M).1) ((F_4_read_0 M).2)))
theorem T_11_museum_13 {g : Gl} (M : Mem) (hp : P_11_museum_13 M) : Rc g 8 0 m11_museum 13 [some (.ref 1558), none] [] M ((F_11_museum_13 M)) := by
  rw [F_11_museum_13]
  rw [P_11_museum_13] at hp
  obtain ⟨hc, hp⟩ := hp
  refine b11_museum_13  (C_4_read  M hc) (Nat.le_of_ble_eq_true rfl) ?_
  exact R_cw (Nat.le_of_ble_eq_true rfl) (T_11_museum_24 ((F_4_read_0 M).1) ((F_4_read_0 M).2) hp)
def F_11_museum_0 (x1 : Int32) (M : Mem) : Oc := if 0 ≤ x1 ∧ x1 ≤ (if rd M 1558 1 < 600 then rd M 1558 1 else 600) then (F_11_museum_13 (F_11_takeTape_0 x1 M)) else (.inr ("java/lang/IllegalArgumentException", wr M 1558 4 (rd M 1558 4 + 1)))
def P_11_museum_0 (x1 : Int32) (M : Mem) : Prop := ((0 ≤ x1 ∧ x1 ≤ (if rd M 1558 1 < 600 then rd M 1558 1 else 600) → ((P_11_museum_13 (F_11_takeTape_0 x1 M)))))
theorem T_11_museum_0 {g : Gl} (x1 : Int32) (M : Mem) (hp : P_11_museum_0 x1 M) : Rc g 8 1 m11_museum 0 [some (.ref 1558), some (.int x1)] [] M ((F_11_museum_0 x1 M)) := by
  rw [F_11_museum_0]
  rw [P_11_museum_0] at hp
  refine b11_museum_0  (C_needBytes x1 600 M) (Nat.le_of_ble_eq_true rfl) (fun h => ?_) (fun h => ?_)
  · rw [if_pos h]
    have hp := hp h
    refine b11_museum_8  (C_11_takeTape x1 M) (Nat.le_of_ble_eq_true rfl) ?_
    exact R_cw (Nat.le_of_ble_eq_true rfl) (T_11_museum_13 (F_11_takeTape_0 x1 M) hp)
  · rw [if_neg h]
theorem C_11_museum {g : Gl} (x1 : Int32) (M : Mem) (hp : P_11_museum_0 x1 M) : MsX g 8 1 m11_museum [.ref 1558, .int x1] M (F_11_museum_0 x1 M) := MsX.of okM_m11_museum (Nat.le_of_ble_eq_true rfl) (R_wk (lc rfl (lc rfl l0)) (T_11_museum_0 x1 M hp))
def F_11_law_31 (xs0 : Int32) (M : Mem) : Oc := .inl (some (.int xs0), M)
theorem T_11_law_31 {g : Gl} (xs0 : Int32) (M : Mem)  : Rc g 66 0 m11_law 31 [none, none] [.int xs0] M ((F_11_law_31 xs0 M)) := by
  rw [F_11_law_31]
  exact b11_law_31  rfl
def F_11_law_24 (xs0 : Int32) (M : Mem) : Oc := if xs0 = 0 then (F_11_law_31 ((F_11_faultOfText_0 M).1) ((F_11_faultOfText_0 M).2)) else (.inl (some (.int 1), wr M 1558 2 (-1)))
theorem T_11_law_24 {g : Gl} (xs0 : Int32) (M : Mem)  : Rc g 66 0 m11_law 24 [some (.ref 1558), none] [.int xs0] M ((F_11_law_24 xs0 M)) := by
  rw [F_11_law_24]
  refine b11_law_24  (fun h => ?_) (fun h => ?_)
  · rw [if_neg h]
    exact b11_law_32  rfl
  · rw [if_pos h]
    refine b11_law_27  (C_11_faultOfText  M) (Nat.le_of_ble_eq_true rfl) ?_
    exact R_cw (Nat.le_of_ble_eq_true rfl) (T_11_law_31 ((F_11_faultOfText_0 M).1) ((F_11_faultOfText_0 M).2))
def F_11_law_13 (M : Mem) : Oc := F_11_law_24 ((F_2_read_0 M).1) ((F_2_read_0 M).2)
def P_11_law_13 (M : Mem) : Prop := ((P_2_read_0 M))
theorem T_11_law_13 {g : Gl} (M : Mem) (hp : P_11_law_13 M) : Rc g 66 0 m11_law 13 [some (.ref 1558), none] [] M ((F_11_law_13 M)) := by
  rw [F_11_law_13]
  rw [P_11_law_13] at hp
  have hc := hp
  refine b11_law_13  (C_2_read  M hc) (Nat.le_of_ble_eq_true rfl) ?_
  exact R_cw (Nat.le_of_ble_eq_true rfl) (T_11_law_24 ((F_2_read_0 M).1) ((F_2_read_0 M).2))
def F_11_law_0 (x1 : Int32) (M : Mem) : Oc := if 0 ≤ x1 ∧ x1 ≤ (if rd M 1558 1 < 150 then rd M 1558 1 else 150) then (F_11_law_13 (F_11_takeTape_0 x1 M)) else (.inr ("java/lang/IllegalArgumentException", wr M 1558 4 (rd M 1558 4 + 1)))
def P_11_law_0 (x1 : Int32) (M : Mem) : Prop := ((0 ≤ x1 ∧ x1 ≤ (if rd M 1558 1 < 150 then rd M 1558 1 else 150) → ((P_11_law_13 (F_11_takeTape_0 x1 M)))))
theorem T_11_law_0 {g : Gl} (x1 : Int32) (M : Mem) (hp : P_11_law_0 x1 M) : Rc g 66 1 m11_law 0 [some (.ref 1558), some (.int x1)] [] M ((F_11_law_0 x1 M)) := by
  rw [F_11_law_0]
  rw [P_11_law_0] at hp
  refine b11_law_0  (C_needBytes x1 150 M) (Nat.le_of_ble_eq_true rfl) (fun h => ?_) (fun h => ?_)
  · rw [if_pos h]
    have hp := hp h
    refine b11_law_8  (C_11_takeTape x1 M) (Nat.le_of_ble_eq_true rfl) ?_
    exact R_cw (Nat.le_of_ble_eq_true rfl) (T_11_law_13 (F_11_takeTape_0 x1 M) hp)
  · rw [if_neg h]
theorem C_11_law {g : Gl} (x1 : Int32) (M : Mem) (hp : P_11_law_0 x1 M) : MsX g 66 1 m11_law [.ref 1558, .int x1] M (F_11_law_0 x1 M) := MsX.of okM_m11_law (Nat.le_of_ble_eq_true rfl) (R_wk (lc rfl (lc rfl l0)) (T_11_law_0 x1 M hp))
def F_11_walk_30 (xs0 : Int32) (M : Mem) : Oc := .inl (some (.int xs0), M)
theorem T_11_walk_30 {g : Gl} (xs0 : Int32) (M : Mem)  : Rc g 8 0 m11_walk 30 [none, none] [.int xs0] M ((F_11_walk_30 xs0 M)) := by
  rw [F_11_walk_30]
  exact b11_walk_30  rfl
def F_11_walk_23 (xs0 : Int32) (M : Mem) : Oc := if xs0 = 0 then (F_11_walk_30 ((F_11_faultOfText_0 M).1) ((F_11_faultOfText_0 M).2)) else (.inl (some (.int (rd (wr M 1558 2 (-1)) 1592 7)), wr M 1558 2 (-1)))
theorem T_11_walk_23 {g : Gl} (xs0 : Int32) (M : Mem)  : Rc g 8 0 m11_walk 23 [some (.ref 1558), none] [.int xs0] M ((F_11_walk_23 xs0 M)) := by
  rw [F_11_walk_23]
  refine b11_walk_23  (fun h => ?_) (fun h => ?_)
  · rw [if_neg h]
    exact b11_walk_31  rfl
  · rw [if_pos h]
    refine b11_walk_26  (C_11_faultOfText  M) (Nat.le_of_ble_eq_true rfl) ?_
    exact R_cw (Nat.le_of_ble_eq_true rfl) (T_11_walk_30 ((F_11_faultOfText_0 M).1) ((F_11_faultOfText_0 M).2))
def F_11_walk_12 (M : Mem) : Oc := F_11_walk_23 ((F_9_read_0 M).1) ((F_9_read_0 M).2)
def P_11_walk_12 (M : Mem) : Prop := ((P_9_read_0 M))
theorem T_11_walk_12 {g : Gl} (M : Mem) (hp : P_11_walk_12 M) : Rc g 8 0 m11_walk 12 [some (.ref 1558), none] [] M ((F_11_walk_12 M)) := by
  rw [F_11_walk_12]
  rw [P_11_walk_12] at hp
  have hc := hp
  refine b11_walk_12  (C_9_read  M hc) (Nat.le_of_ble_eq_true rfl) ?_
  exact R_cw (Nat.le_of_ble_eq_true rfl) (T_11_walk_23 ((F_9_read_0 M).1) ((F_9_read_0 M).2))
def F_11_walk_0 (x1 : Int32) (M : Mem) : Oc := if 0 ≤ x1 ∧ x1 ≤ (if rd M 1558 1 < 60 then rd M 1558 1 else 60) then (F_11_walk_12 (F_11_takeTape_0 x1 M)) else (.inr ("java/lang/IllegalArgumentException", wr M 1558 4 (rd M 1558 4 + 1)))
def P_11_walk_0 (x1 : Int32) (M : Mem) : Prop := ((0 ≤ x1 ∧ x1 ≤ (if rd M 1558 1 < 60 then rd M 1558 1 else 60) → ((P_11_walk_12 (F_11_takeTape_0 x1 M)))))
theorem T_11_walk_0 {g : Gl} (x1 : Int32) (M : Mem) (hp : P_11_walk_0 x1 M) : Rc g 8 1 m11_walk 0 [some (.ref 1558), some (.int x1)] [] M ((F_11_walk_0 x1 M)) := by
  rw [F_11_walk_0]
  rw [P_11_walk_0] at hp
  refine b11_walk_0  (C_needBytes x1 60 M) (Nat.le_of_ble_eq_true rfl) (fun h => ?_) (fun h => ?_)
  · rw [if_pos h]
    have hp := hp h
    refine b11_walk_7  (C_11_takeTape x1 M) (Nat.le_of_ble_eq_true rfl) ?_
    exact R_cw (Nat.le_of_ble_eq_true rfl) (T_11_walk_12 (F_11_takeTape_0 x1 M) hp)
  · rw [if_neg h]
theorem C_11_walk {g : Gl} (x1 : Int32) (M : Mem) (hp : P_11_walk_0 x1 M) : MsX g 8 1 m11_walk [.ref 1558, .int x1] M (F_11_walk_0 x1 M) := MsX.of okM_m11_walk (Nat.le_of_ble_eq_true rfl) (R_wk (lc rfl (lc rfl l0)) (T_11_walk_0 x1 M hp))
def F_11_fault_0 (M : Mem) : Int32 := (rd M 1558 2)
theorem T_11_fault_0 {g : Gl} (M : Mem)  : Rn g 0 m11_fault 0 [some (.ref 1558)] [] M (some (.int (F_11_fault_0 M))) (M) := by
  rw [F_11_fault_0]
  exact b11_fault_0  rfl rfl
theorem C_11_fault {g : Gl}   (M : Mem)  : Ms g 0 m11_fault [.ref 1558] M (some (.int (F_11_fault_0 M))) (M) := Ms.of okM_m11_fault (Nat.le_of_ble_eq_true rfl) (R_wk (lc rfl l0) (T_11_fault_0 M))
def F_11_undo_19 (M : Mem) : Int32 × Mem := (rd (wr M 1558 5 0) 1614 2, wr M 1558 5 0)
theorem T_11_undo_19 {g : Gl} (M : Mem)  : Rn g 3 m11_undo 19 [some (.ref 1558)] [] M (some (.int (F_11_undo_19 M).1)) ((F_11_undo_19 M).2) := by
  rw [F_11_undo_19]
  exact b11_undo_19  rfl rfl
def F_11_undo_0 (M : Mem) : Int32 × Mem := if 0 < (rd M 1614 2) then (F_11_undo_19 (F_8_takeBack_0 M)) else (((-1), M))
def P_11_undo_0 (M : Mem) : Prop := ((0 < (rd M 1614 2) → ((P_8_takeBack_0 M))) ∧ (¬ 0 < (rd M 1614 2) → True))
theorem T_11_undo_0 {g : Gl} (M : Mem) (hp : P_11_undo_0 M) : Rn g 3 m11_undo 0 [some (.ref 1558)] [] M (some (.int (F_11_undo_0 M).1)) ((F_11_undo_0 M).2) := by
  rw [F_11_undo_0]
  rw [P_11_undo_0] at hp
  refine b11_undo_0  (fun h => ?_) (fun h => ?_)
  · rw [if_pos h]
    have hp := hp.1 h
    have hc := hp
    refine b11_undo_12  (C_8_takeBack  M hc) (Nat.le_of_ble_eq_true rfl) ?_
    exact T_11_undo_19 (F_8_takeBack_0 M)
  · rw [if_neg h]
    exact b11_undo_10  rfl rfl
theorem C_11_undo {g : Gl}   (M : Mem) (hp : P_11_undo_0 M) : Ms g 3 m11_undo [.ref 1558] M (some (.int (F_11_undo_0 M).1)) ((F_11_undo_0 M).2) := Ms.of okM_m11_undo (Nat.le_of_ble_eq_true rfl) (R_wk (lc rfl l0) (T_11_undo_0 M hp))
def F_11_told_106 (xs0 : Int32) (M : Mem) : Oc := .inl (some (.int (F_6_bitCount_0f7a4_0 M xs0)), M)
theorem T_11_told_106 {g : Gl} (xs0 : Int32) (M : Mem)  : Rc g 7 0 m11_told 106 [none, none] [.int xs0] M ((F_11_told_106 xs0 M)) := by
  rw [F_11_told_106]
  refine b11_told_106  (C_6_bitCount_0f7a4 xs0 M) (Nat.le_of_ble_eq_true rfl) ?_
  exact b11_told_109  rfl
def F_11_told_0 (x1 : Int32) (M : Mem) : Oc := if 0 ≤ x1 ∧ x1 ≤ 9 then ((if x1 = 0 then (.inl (some (.int (rd M 1561 0)), M)) else (if x1 = 1 then (.inl (some (.int (rd M 1561 1)), M)) else (if x1 = 2 then (.inl (some (.int (rd M 1561 2)), M)) else (if x1 = 3 then (.inl (some (.int (rd M 1622 0)), M)) else (if x1 = 4 then (F_11_told_106 ((F_1_openDoors_0 (rd M 1622 0) M).1) ((F_1_openDoors_0 (rd M 1622 0) M).2)) else (if x1 = 5 then (.inl (some (.int (F_6_bitCount_0f7a4_0 M (rd M 1622 2))), M)) else (if x1 = 6 then (.inl (some (.int (F_7_usedInAll_0 M)), M)) else (if x1 = 7 then (.inl (some (.int (rd M 1622 1)), M)) else (if x1 = 8 then (.inl (some (.int (rd M 1592 7)), M)) else (.inl (some (.int (rd M 1558 5)), M)))))))))))) else (.inr ("java/lang/IllegalArgumentException", wr M 1558 4 (rd M 1558 4 + 1)))
def P_11_told_0 (x1 : Int32) (M : Mem) : Prop := ((0 ≤ x1 ∧ x1 ≤ 9 → ((x1 = 0 → True) ∧ (x1 = 1 → True) ∧ (x1 = 2 → True) ∧ (x1 = 3 → True) ∧ (x1 = 4 → ((P_1_openDoors_0 (rd M 1622 0) M))) ∧ (x1 = 5 → True) ∧ (x1 = 6 → ((P_7_usedInAll_0 M))) ∧ (x1 = 7 → True) ∧ (x1 = 8 → True) ∧ (¬ x1 = 0 ∧ ¬ x1 = 1 ∧ ¬ x1 = 2 ∧ ¬ x1 = 3 ∧ ¬ x1 = 4 ∧ ¬ x1 = 5 ∧ ¬ x1 = 6 ∧ ¬ x1 = 7 ∧ ¬ x1 = 8 → True))))
theorem T_11_told_0 {g : Gl} (x1 : Int32) (M : Mem) (hp : P_11_told_0 x1 M) : Rc g 7 1 m11_told 0 [some (.ref 1558), some (.int x1)] [] M ((F_11_told_0 x1 M)) := by
  rw [F_11_told_0]
  rw [P_11_told_0] at hp
  refine b11_told_0  (C_needWithin x1 0 9 M) (Nat.le_of_ble_eq_true rfl) (fun h => ?_) (fun h => ?_)
  · rw [if_pos h]
    have hp := hp h
    by_cases h0 : x1 = 0
    · rw [if_pos h0]
      refine b11_told_8_c0  h0 ?_
      exact b11_told_60  rfl
    rw [if_neg h0]
    by_cases h1 : x1 = 1
    · rw [if_pos h1]
      refine b11_told_8_c1  h1 ?_
      exact b11_told_68  rfl
    rw [if_neg h1]
    by_cases h2 : x1 = 2
    · rw [if_pos h2]
      refine b11_told_8_c2  h2 ?_
      exact b11_told_76  rfl
    rw [if_neg h2]
    by_cases h3 : x1 = 3
    · rw [if_pos h3]
      refine b11_told_8_c3  h3 ?_
      exact b11_told_84  rfl
    rw [if_neg h3]
    by_cases h4 : x1 = 4
    · rw [if_pos h4]
      have hp := hp.2.2.2.2.1 h4
      refine b11_told_8_c4  h4 ?_
      have hc := hp
      refine b11_told_92  (C_1_openDoors (rd M 1622 0) M hc) (Nat.le_of_ble_eq_true rfl) ?_
      exact R_cw (Nat.le_of_ble_eq_true rfl) (T_11_told_106 ((F_1_openDoors_0 (rd M 1622 0) M).1) ((F_1_openDoors_0 (rd M 1622 0) M).2))
    rw [if_neg h4]
    by_cases h5 : x1 = 5
    · rw [if_pos h5]
      refine b11_told_8_c5  h5 ?_
      refine b11_told_110  (C_6_bitCount_0f7a4 (rd M 1622 2) M) (Nat.le_of_ble_eq_true rfl) ?_
      exact b11_told_120  rfl
    rw [if_neg h5]
    by_cases h6 : x1 = 6
    · rw [if_pos h6]
      have hp := hp.2.2.2.2.2.2.1 h6
      refine b11_told_8_c6  h6 ?_
      have hc := hp
      refine b11_told_121  (C_7_usedInAll  M hc) (Nat.le_of_ble_eq_true rfl) ?_
      exact b11_told_128  rfl
    rw [if_neg h6]
    by_cases h7 : x1 = 7
    · rw [if_pos h7]
      refine b11_told_8_c7  h7 ?_
      exact b11_told_129  rfl
    rw [if_neg h7]
    by_cases h8 : x1 = 8
    · rw [if_pos h8]
      refine b11_told_8_c8  h8 ?_
      exact b11_told_137  rfl
    rw [if_neg h8]
    refine b11_told_8_d  (sw_out (x := x1) (lo := 0) (hi := 8) (by intro z ha hb e; rcases (show z = 0 ∨ z = 1 ∨ z = 2 ∨ z = 3 ∨ z = 4 ∨ z = 5 ∨ z = 6 ∨ z = 7 ∨ z = 8 by omega) with r | r | r | r | r | r | r | r | r <;> subst r <;> first | exact h0 (Int32.toInt_inj.mp (e.trans (by decide))) | exact h1 (Int32.toInt_inj.mp (e.trans (by decide))) | exact h2 (Int32.toInt_inj.mp (e.trans (by decide))) | exact h3 (Int32.toInt_inj.mp (e.trans (by decide))) | exact h4 (Int32.toInt_inj.mp (e.trans (by decide))) | exact h5 (Int32.toInt_inj.mp (e.trans (by decide))) | exact h6 (Int32.toInt_inj.mp (e.trans (by decide))) | exact h7 (Int32.toInt_inj.mp (e.trans (by decide))) | exact h8 (Int32.toInt_inj.mp (e.trans (by decide))))) ?_
    exact b11_told_145  rfl
  · rw [if_neg h]
theorem C_11_told {g : Gl} (x1 : Int32) (M : Mem) (hp : P_11_told_0 x1 M) : MsX g 7 1 m11_told [.ref 1558, .int x1] M (F_11_told_0 x1 M) := MsX.of okM_m11_told (Nat.le_of_ble_eq_true rfl) (R_wk (lc rfl (lc rfl l0)) (T_11_told_0 x1 M hp))
def F_11_room_110 (x1 : Int32) (xs0 : Int32) (M : Mem) : Oc := .inl (some (.int (F_6_bitCount_0f7a4_0 M (xs0 &&& (rd M 1564 x1.toNatClampNeg)))), M)
def P_11_room_110 (x1 : Int32) (xs0 : Int32) (M : Mem) : Prop := (vp_in x1 10)
theorem T_11_room_110 {g : Gl} (x1 : Int32) (xs0 : Int32) (M : Mem) (hp : P_11_room_110 x1 xs0 M) : Rc g 7 0 m11_room 110 [some (.ref 1558), some (.int x1), none] [.int xs0] M ((F_11_room_110 x1 xs0 M)) := by
  rw [F_11_room_110]
  rw [P_11_room_110] at hp
  have p0 := hp
  refine b11_room_110 p0 (C_6_bitCount_0f7a4 (xs0 &&& (rd M 1564 x1.toNatClampNeg)) M) (Nat.le_of_ble_eq_true rfl) ?_
  exact b11_room_123  rfl
def F_11_room_138 (x1 : Int32) (xs0 : Int32) (M : Mem) : Oc := .inl (some (.int (F_6_bitCount_0f7a4_0 M (xs0 &&& (rd M 1565 x1.toNatClampNeg)))), M)
def P_11_room_138 (x1 : Int32) (xs0 : Int32) (M : Mem) : Prop := (vp_in x1 10)
theorem T_11_room_138 {g : Gl} (x1 : Int32) (xs0 : Int32) (M : Mem) (hp : P_11_room_138 x1 xs0 M) : Rc g 7 0 m11_room 138 [some (.ref 1558), some (.int x1), none] [.int xs0] M ((F_11_room_138 x1 xs0 M)) := by
  rw [F_11_room_138]
  rw [P_11_room_138] at hp
  have p0 := hp
  refine b11_room_138 p0 (C_6_bitCount_0f7a4 (xs0 &&& (rd M 1565 x1.toNatClampNeg)) M) (Nat.le_of_ble_eq_true rfl) ?_
  exact b11_room_151  rfl
def F_11_room_0 (x1 : Int32) (x2 : Int32) (M : Mem) : Oc := if 0 ≤ x1 ∧ x1 < rd M 1561 0 then (if 0 ≤ x2 ∧ x2 ≤ 5 then ((if x2 = 0 then (.inl (some (.int (rd M 1562 x1.toNatClampNeg)), M)) else (if x2 = 1 then (.inl (some (.int (((rd M 1561 3) >>> (x1 &&& 31)) &&& 1)), M)) else (if x2 = 2 then (.inl (some (.int (rd M 1563 x1.toNatClampNeg)), M)) else (if x2 = 3 then (.inl (some (.int (F_7_toursIn_0 M x1 (rd M 1561 2))), M)) else (if x2 = 4 then (F_11_room_110 x1 ((F_1_openDoors_0 (rd M 1622 0) M).1) ((F_1_openDoors_0 (rd M 1622 0) M).2)) else (F_11_room_138 x1 ((F_1_openDoors_0 (rd M 1622 0) M).1) ((F_1_openDoors_0 (rd M 1622 0) M).2)))))))) else (.inr ("java/lang/IllegalArgumentException", wr M 1558 4 (rd M 1558 4 + 1)))) else (.inr ("java/util/NoSuchElementException", wr M 1558 3 (rd M 1558 3 + 1)))
def P_11_room_0 (x1 : Int32) (x2 : Int32) (M : Mem) : Prop := ((0 ≤ x1 ∧ x1 < rd M 1561 0 → ((0 ≤ x2 ∧ x2 ≤ 5 → ((x2 = 0 → (vp_in x1 10)) ∧ (x2 = 1 → True) ∧ (x2 = 2 → (vp_in x1 10)) ∧ (x2 = 3 → ((P_7_toursIn_0 M x1 (rd M 1561 2)))) ∧ (x2 = 4 → ((P_1_openDoors_0 (rd M 1622 0) M) ∧ (P_11_room_110 x1 ((F_1_openDoors_0 (rd M 1622 0) M).1) ((F_1_openDoors_0 (rd M 1622 0) M).2)))) ∧ (¬ x2 = 0 ∧ ¬ x2 = 1 ∧ ¬ x2 = 2 ∧ ¬ x2 = 3 ∧ ¬ x2 = 4 → ((P_1_openDoors_0 (rd M 1622 0) M) ∧ (P_11_room_138 x1 ((F_1_openDoors_0 (rd M 1622 0) M).1) ((F_1_openDoors_0 (rd M 1622 0) M).2)))))))))
theorem T_11_room_0 {g : Gl} (x1 : Int32) (x2 : Int32) (M : Mem) (hp : P_11_room_0 x1 x2 M) : Rc g 7 2 m11_room 0 [some (.ref 1558), some (.int x1), some (.int x2)] [] M ((F_11_room_0 x1 x2 M)) := by
  rw [F_11_room_0]
  rw [P_11_room_0] at hp
  refine b11_room_0  (C_needRoom x1 M) (Nat.le_of_ble_eq_true rfl) (fun h => ?_) (fun h => ?_)
  · rw [if_pos h]
    have hp := hp h
    refine b11_room_5  (C_needWithin x2 0 5 M) (Nat.le_of_ble_eq_true rfl) (fun h => ?_) (fun h => ?_)
    · rw [if_pos h]
      have hp := hp h
      by_cases h0 : x2 = 0
      · rw [if_pos h0]
        have hp := hp.1 h0
        refine b11_room_12_c0  h0 ?_
        have p0 := hp
        exact b11_room_48 p0 rfl
      rw [if_neg h0]
      by_cases h1 : x2 = 1
      · rw [if_pos h1]
        refine b11_room_12_c1  h1 ?_
        exact b11_room_58  rfl
      rw [if_neg h1]
      by_cases h2 : x2 = 2
      · rw [if_pos h2]
        have hp := hp.2.2.1 h2
        refine b11_room_12_c2  h2 ?_
        have p1 := hp
        exact b11_room_70 p1 rfl
      rw [if_neg h2]
      by_cases h3 : x2 = 3
      · rw [if_pos h3]
        have hp := hp.2.2.2.1 h3
        refine b11_room_12_c3  h3 ?_
        have hc := hp
        refine b11_room_80  (C_7_toursIn x1 (rd M 1561 2) M hc) (Nat.le_of_ble_eq_true rfl) ?_
        exact b11_room_95  rfl
      rw [if_neg h3]
      by_cases h4 : x2 = 4
      · rw [if_pos h4]
        have hp := hp.2.2.2.2.1 h4
        refine b11_room_12_c4  h4 ?_
        obtain ⟨hc, hp⟩ := hp
        refine b11_room_96  (C_1_openDoors (rd M 1622 0) M hc) (Nat.le_of_ble_eq_true rfl) ?_
        exact R_cw (Nat.le_of_ble_eq_true rfl) (T_11_room_110 x1 ((F_1_openDoors_0 (rd M 1622 0) M).1) ((F_1_openDoors_0 (rd M 1622 0) M).2) hp)
      rw [if_neg h4]
      have hp := hp.2.2.2.2.2 ⟨h0, h1, h2, h3, h4⟩
      refine b11_room_12_d  (sw_out (x := x2) (lo := 0) (hi := 4) (by intro z ha hb e; rcases (show z = 0 ∨ z = 1 ∨ z = 2 ∨ z = 3 ∨ z = 4 by omega) with r | r | r | r | r <;> subst r <;> first | exact h0 (Int32.toInt_inj.mp (e.trans (by decide))) | exact h1 (Int32.toInt_inj.mp (e.trans (by decide))) | exact h2 (Int32.toInt_inj.mp (e.trans (by decide))) | exact h3 (Int32.toInt_inj.mp (e.trans (by decide))) | exact h4 (Int32.toInt_inj.mp (e.trans (by decide))))) ?_
      obtain ⟨hc, hp⟩ := hp
      refine b11_room_124  (C_1_openDoors (rd M 1622 0) M hc) (Nat.le_of_ble_eq_true rfl) ?_
      exact R_cw (Nat.le_of_ble_eq_true rfl) (T_11_room_138 x1 ((F_1_openDoors_0 (rd M 1622 0) M).1) ((F_1_openDoors_0 (rd M 1622 0) M).2) hp)
    · rw [if_neg h]
  · rw [if_neg h]
theorem C_11_room {g : Gl} (x1 : Int32) (x2 : Int32) (M : Mem) (hp : P_11_room_0 x1 x2 M) : MsX g 7 2 m11_room [.ref 1558, .int x1, .int x2] M (F_11_room_0 x1 x2 M) := MsX.of okM_m11_room (Nat.le_of_ble_eq_true rfl) (R_wk (lc rfl (lc rfl (lc rfl l0))) (T_11_room_0 x1 x2 M hp))
def F_11_door_119 (xs0 : Int32) (M : Mem) : Oc := if xs0 = 0 then (.inl (some (.int 0), M)) else (.inl (some (.int 1), M))
theorem T_11_door_119 {g : Gl} (xs0 : Int32) (M : Mem)  : Rc g 7 0 m11_door 119 [none, none, none] [.int xs0] M ((F_11_door_119 xs0 M)) := by
  rw [F_11_door_119]
  refine b11_door_119  (fun h => ?_) (fun h => ?_)
  · rw [if_pos h]
    refine b11_door_126  ?_
    exact b11_door_127  rfl
  · rw [if_neg h]
    refine b11_door_122  ?_
    exact b11_door_127  rfl
def F_11_door_0 (x1 : Int32) (x2 : Int32) (M : Mem) : Oc := if 0 ≤ x1 ∧ x1 < rd M 1561 1 then (if 0 ≤ x2 ∧ x2 ≤ 6 then ((if x2 = 0 then (.inl (some (.int (rd M 1567 x1.toNatClampNeg)), M)) else (if x2 = 1 then (.inl (some (.int (rd M 1568 x1.toNatClampNeg)), M)) else (if x2 = 2 then (.inl (some (.int (rd M 1569 x1.toNatClampNeg)), M)) else (if x2 = 3 then (.inl (some (.int (rd M 1570 x1.toNatClampNeg)), M)) else (if x2 = 4 then (.inl (some (.int (((rd M 1622 2) >>> (x1 &&& 31)) &&& 1)), M)) else (if x2 = 5 then (F_11_door_119 ((F_1_isOpen_0 x1 (rd M 1622 0) M).1) ((F_1_isOpen_0 x1 (rd M 1622 0) M).2)) else (.inl (some (.int (rd M 1623 x1.toNatClampNeg)), M))))))))) else (.inr ("java/lang/IllegalArgumentException", wr M 1558 4 (rd M 1558 4 + 1)))) else (.inr ("java/util/NoSuchElementException", wr M 1558 3 (rd M 1558 3 + 1)))
def P_11_door_0 (x1 : Int32) (x2 : Int32) (M : Mem) : Prop := ((0 ≤ x1 ∧ x1 < rd M 1561 1 → ((0 ≤ x2 ∧ x2 ≤ 6 → ((x2 = 0 → (vp_in x1 24)) ∧ (x2 = 1 → (vp_in x1 24)) ∧ (x2 = 2 → (vp_in x1 24)) ∧ (x2 = 3 → (vp_in x1 24)) ∧ (x2 = 4 → True) ∧ (x2 = 5 → ((P_1_isOpen_0 x1 (rd M 1622 0) M))) ∧ (¬ x2 = 0 ∧ ¬ x2 = 1 ∧ ¬ x2 = 2 ∧ ¬ x2 = 3 ∧ ¬ x2 = 4 ∧ ¬ x2 = 5 → (vp_in x1 24)))))))
theorem T_11_door_0 {g : Gl} (x1 : Int32) (x2 : Int32) (M : Mem) (hp : P_11_door_0 x1 x2 M) : Rc g 7 2 m11_door 0 [some (.ref 1558), some (.int x1), some (.int x2)] [] M ((F_11_door_0 x1 x2 M)) := by
  rw [F_11_door_0]
  rw [P_11_door_0] at hp
  refine b11_door_0  (C_needDoor x1 M) (Nat.le_of_ble_eq_true rfl) (fun h => ?_) (fun h => ?_)
  · rw [if_pos h]
    have hp := hp h
    refine b11_door_5  (C_needWithin x2 0 6 M) (Nat.le_of_ble_eq_true rfl) (fun h => ?_) (fun h => ?_)
    · rw [if_pos h]
      have hp := hp h
      by_cases h0 : x2 = 0
      · rw [if_pos h0]
        have hp := hp.1 h0
        refine b11_door_13_c0  h0 ?_
        have p0 := hp
        exact b11_door_52 p0 rfl
      rw [if_neg h0]
      by_cases h1 : x2 = 1
      · rw [if_pos h1]
        have hp := hp.2.1 h1
        refine b11_door_13_c1  h1 ?_
        have p1 := hp
        exact b11_door_62 p1 rfl
      rw [if_neg h1]
      by_cases h2 : x2 = 2
      · rw [if_pos h2]
        have hp := hp.2.2.1 h2
        refine b11_door_13_c2  h2 ?_
        have p2 := hp
        exact b11_door_72 p2 rfl
      rw [if_neg h2]
      by_cases h3 : x2 = 3
      · rw [if_pos h3]
        have hp := hp.2.2.2.1 h3
        refine b11_door_13_c3  h3 ?_
        have p3 := hp
        exact b11_door_82 p3 rfl
      rw [if_neg h3]
      by_cases h4 : x2 = 4
      · rw [if_pos h4]
        refine b11_door_13_c4  h4 ?_
        exact b11_door_92  rfl
      rw [if_neg h4]
      by_cases h5 : x2 = 5
      · rw [if_pos h5]
        have hp := hp.2.2.2.2.2.1 h5
        refine b11_door_13_c5  h5 ?_
        have hc := hp
        refine b11_door_104  (C_1_isOpen x1 (rd M 1622 0) M hc) (Nat.le_of_ble_eq_true rfl) ?_
        exact R_cw (Nat.le_of_ble_eq_true rfl) (T_11_door_119 ((F_1_isOpen_0 x1 (rd M 1622 0) M).1) ((F_1_isOpen_0 x1 (rd M 1622 0) M).2))
      rw [if_neg h5]
      have hp := hp.2.2.2.2.2.2 ⟨h0, h1, h2, h3, h4, h5⟩
      refine b11_door_13_d  (sw_out (x := x2) (lo := 0) (hi := 5) (by intro z ha hb e; rcases (show z = 0 ∨ z = 1 ∨ z = 2 ∨ z = 3 ∨ z = 4 ∨ z = 5 by omega) with r | r | r | r | r | r <;> subst r <;> first | exact h0 (Int32.toInt_inj.mp (e.trans (by decide))) | exact h1 (Int32.toInt_inj.mp (e.trans (by decide))) | exact h2 (Int32.toInt_inj.mp (e.trans (by decide))) | exact h3 (Int32.toInt_inj.mp (e.trans (by decide))) | exact h4 (Int32.toInt_inj.mp (e.trans (by decide))) | exact h5 (Int32.toInt_inj.mp (e.trans (by decide))))) ?_
      have p4 := hp
      exact b11_door_128 p4 rfl
    · rw [if_neg h]
  · rw [if_neg h]
theorem C_11_door {g : Gl} (x1 : Int32) (x2 : Int32) (M : Mem) (hp : P_11_door_0 x1 x2 M) : MsX g 7 2 m11_door [.ref 1558, .int x1, .int x2] M (F_11_door_0 x1 x2 M) := MsX.of okM_m11_door (Nat.le_of_ble_eq_true rfl) (R_wk (lc rfl (lc rfl (lc rfl l0))) (T_11_door_0 x1 x2 M hp))
def F_11_tour_15 (M : Mem) : Oc := .inr ("java/util/NoSuchElementException", wr M 1558 3 ((rd M 1558 3) + 1))
theorem T_11_tour_15 {g : Gl} (M : Mem)  : Rc g 6 1 m11_tour 15 [some (.ref 1558), none] [] M ((F_11_tour_15 M)) := by
  rw [F_11_tour_15]
  exact b11_tour_15  (Nat.le_of_ble_eq_true rfl) rfl
def F_11_tour_0 (x1 : Int32) (M : Mem) : Oc := if x1 < 0 then (F_11_tour_15 M) else (if x1 < (rd M 1561 2) then (.inl (some (.int (rd M 1624 x1.toNatClampNeg)), M)) else (F_11_tour_15 M))
def P_11_tour_0 (x1 : Int32) (M : Mem) : Prop := ((x1 < 0 → True) ∧ (¬ x1 < 0 → ((x1 < (rd M 1561 2) → (vp_in x1 6)) ∧ (¬ x1 < (rd M 1561 2) → True))))
theorem T_11_tour_0 {g : Gl} (x1 : Int32) (M : Mem) (hp : P_11_tour_0 x1 M) : Rc g 6 1 m11_tour 0 [some (.ref 1558), some (.int x1)] [] M ((F_11_tour_0 x1 M)) := by
  rw [F_11_tour_0]
  rw [P_11_tour_0] at hp
  refine b11_tour_0  (fun h => ?_) (fun h => ?_)
  · rw [if_pos h]
    exact R_cw (Nat.le_of_ble_eq_true rfl) (T_11_tour_15 M)
  · rw [if_neg h]
    have hp := hp.2 h
    refine b11_tour_4  (fun h => ?_) (fun h => ?_)
    · rw [if_pos h]
      have hp := hp.1 h
      have p0 := hp
      exact b11_tour_36 p0 rfl
    · rw [if_neg h]
      exact R_cw (Nat.le_of_ble_eq_true rfl) (T_11_tour_15 M)
theorem C_11_tour {g : Gl} (x1 : Int32) (M : Mem) (hp : P_11_tour_0 x1 M) : MsX g 6 1 m11_tour [.ref 1558, .int x1] M (F_11_tour_0 x1 M) := MsX.of okM_m11_tour (Nat.le_of_ble_eq_true rfl) (R_wk (lc rfl (lc rfl l0)) (T_11_tour_0 x1 M hp))
def F_11_open_35 (xs0 : Int32) (M : Mem) : Oc := .inl (some (.int xs0), M)
def P_11_open_35 (xs0 : Int32) (M : Mem) : Prop := (narrow .boolean (.int xs0) = .int xs0)
theorem T_11_open_35 {g : Gl} (xs0 : Int32) (M : Mem) (hp : P_11_open_35 xs0 M) : Rc g 7 0 m11_open 35 [none, none, none, none] [.int xs0] M ((F_11_open_35 xs0 M)) := by
  rw [F_11_open_35]
  rw [P_11_open_35] at hp
  have p0 := hp
  exact b11_open_35  rfl p0
def F_11_open_0 (x1 : Int32) (x2 : Int32) (x3 : Int32) (M : Mem) : Oc := if 0 ≤ x1 ∧ x1 < rd M 1561 1 then (if 0 ≤ x2 ∧ x2 ≤ 23 then (if 0 ≤ x3 ∧ x3 ≤ 99 then (F_11_open_35 ((F_1_isOpen_0 x1 ((x3 * 24) + x2) M).1) ((F_1_isOpen_0 x1 ((x3 * 24) + x2) M).2)) else (.inr ("java/lang/IllegalArgumentException", wr M 1558 4 (rd M 1558 4 + 1)))) else (.inr ("java/lang/IllegalArgumentException", wr M 1558 4 (rd M 1558 4 + 1)))) else (.inr ("java/util/NoSuchElementException", wr M 1558 3 (rd M 1558 3 + 1)))
def P_11_open_0 (x1 : Int32) (x2 : Int32) (x3 : Int32) (M : Mem) : Prop := ((0 ≤ x1 ∧ x1 < rd M 1561 1 → ((0 ≤ x2 ∧ x2 ≤ 23 → ((0 ≤ x3 ∧ x3 ≤ 99 → ((P_1_isOpen_0 x1 ((x3 * 24) + x2) M) ∧ (P_11_open_35 ((F_1_isOpen_0 x1 ((x3 * 24) + x2) M).1) ((F_1_isOpen_0 x1 ((x3 * 24) + x2) M).2)))))))))
theorem T_11_open_0 {g : Gl} (x1 : Int32) (x2 : Int32) (x3 : Int32) (M : Mem) (hp : P_11_open_0 x1 x2 x3 M) : Rc g 7 3 m11_open 0 [some (.ref 1558), some (.int x1), some (.int x2), some (.int x3)] [] M ((F_11_open_0 x1 x2 x3 M)) := by
  rw [F_11_open_0]
  rw [P_11_open_0] at hp
  refine b11_open_0  (C_needDoor x1 M) (Nat.le_of_ble_eq_true rfl) (fun h => ?_) (fun h => ?_)
  · rw [if_pos h]
    have hp := hp h
    refine b11_open_5  (C_needWithin x2 0 23 M) (Nat.le_of_ble_eq_true rfl) (fun h => ?_) (fun h => ?_)
    · rw [if_pos h]
      have hp := hp h
      refine b11_open_13  (C_needWithin x3 0 99 M) (Nat.le_of_ble_eq_true rfl) (fun h => ?_) (fun h => ?_)
      · rw [if_pos h]
        have hp := hp h
        obtain ⟨hc, hp⟩ := hp
        refine b11_open_21  (C_1_isOpen x1 ((x3 * 24) + x2) M hc) (Nat.le_of_ble_eq_true rfl) ?_
        exact R_cw (Nat.le_of_ble_eq_true rfl) (T_11_open_35 ((F_1_isOpen_0 x1 ((x3 * 24) + x2) M).1) ((F_1_isOpen_0 x1 ((x3 * 24) + x2) M).2) hp)
      · rw [if_neg h]
    · rw [if_neg h]
  · rw [if_neg h]
theorem C_11_open {g : Gl} (x1 : Int32) (x2 : Int32) (x3 : Int32) (M : Mem) (hp : P_11_open_0 x1 x2 x3 M) : MsX g 7 3 m11_open [.ref 1558, .int x1, .int x2, .int x3] M (F_11_open_0 x1 x2 x3 M) := MsX.of okM_m11_open (Nat.le_of_ble_eq_true rfl) (R_wk (lc rfl (lc rfl (lc rfl (lc rfl l0)))) (T_11_open_0 x1 x2 x3 M hp))
def F_11_fits_7 (xs0 : Int32) (M : Mem) : Int32 × Mem := (xs0, M)
theorem T_11_fits_7 {g : Gl} (xs0 : Int32) (M : Mem)  : Rn g 3 m11_fits 7 [none] [.int xs0] M (some (.int (F_11_fits_7 xs0 M).1)) ((F_11_fits_7 xs0 M).2) := by
  rw [F_11_fits_7]
  exact b11_fits_7  rfl rfl
def F_11_fits_0 (M : Mem) : Int32 × Mem := F_11_fits_7 ((F_9_standing_0 M).1) ((F_9_standing_0 M).2)
def P_11_fits_0 (M : Mem) : Prop := ((P_9_standing_0 M))
theorem T_11_fits_0 {g : Gl} (M : Mem) (hp : P_11_fits_0 M) : Rn g 3 m11_fits 0 [some (.ref 1558)] [] M (some (.int (F_11_fits_0 M).1)) ((F_11_fits_0 M).2) := by
  rw [F_11_fits_0]
  rw [P_11_fits_0] at hp
  have hc := hp
  refine b11_fits_0  (C_9_standing  M hc) (Nat.le_of_ble_eq_true rfl) ?_
  exact T_11_fits_7 ((F_9_standing_0 M).1) ((F_9_standing_0 M).2)
theorem C_11_fits {g : Gl}   (M : Mem) (hp : P_11_fits_0 M) : Ms g 3 m11_fits [.ref 1558] M (some (.int (F_11_fits_0 M).1)) ((F_11_fits_0 M).2) := Ms.of okM_m11_fits (Nat.le_of_ble_eq_true rfl) (R_wk (lc rfl l0) (T_11_fits_0 M hp))
def F_11_knows_7 (xs0 : Int32) (M : Mem) : Int32 × Mem := (xs0, M)
theorem T_11_knows_7 {g : Gl} (xs0 : Int32) (M : Mem)  : Rn g 4 m11_knows 7 [none] [.int xs0] M (some (.int (F_11_knows_7 xs0 M).1)) ((F_11_knows_7 xs0 M).2) := by
  rw [F_11_knows_7]
  exact b11_knows_7  rfl rfl
def F_11_knows_0 (M : Mem) : Int32 × Mem := F_11_knows_7 ((F_9_roomsToKnow_0 M).1) ((F_9_roomsToKnow_0 M).2)
def P_11_knows_0 (M : Mem) : Prop := ((P_9_roomsToKnow_0 M))
theorem T_11_knows_0 {g : Gl} (M : Mem) (hp : P_11_knows_0 M) : Rn g 4 m11_knows 0 [some (.ref 1558)] [] M (some (.int (F_11_knows_0 M).1)) ((F_11_knows_0 M).2) := by
  rw [F_11_knows_0]
  rw [P_11_knows_0] at hp
  have hc := hp
  refine b11_knows_0  (C_9_roomsToKnow  M hc) (Nat.le_of_ble_eq_true rfl) ?_
  exact T_11_knows_7 ((F_9_roomsToKnow_0 M).1) ((F_9_roomsToKnow_0 M).2)
theorem C_11_knows {g : Gl}   (M : Mem) (hp : P_11_knows_0 M) : Ms g 4 m11_knows [.ref 1558] M (some (.int (F_11_knows_0 M).1)) ((F_11_knows_0 M).2) := Ms.of okM_m11_knows (Nat.le_of_ble_eq_true rfl) (R_wk (lc rfl l0) (T_11_knows_0 M hp))
