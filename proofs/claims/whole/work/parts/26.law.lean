/-! THE LAW, decompiled -/
def F__law__2461 (g : Gl) (k23 : Int32 → Mem → Oc) (x4 : Int32) (M : Mem) : Oc := k23 (x4 + 7) M
def P__law__2461 (g : Gl) (pk23 : Int32 → Mem → Prop) (x4 : Int32) (M : Mem) : Prop := (pk23 (x4 + 7) M)
theorem T__law__2461 {g : Gl} {cx : Nat} (k23 : Int32 → Mem → Oc) (pk23 : Int32 → Mem → Prop) (ih23 : ∀ (x4 : Int32) (M : Mem), pk23 x4 M → Rc g 68 cx mL_law_ 23 [some (.ref 5000000), some (.ref 1558), some (.ref 0), some (.ref 1557), some (.int x4), none, none, none] [] M ((k23 x4 M))) (x4 : Int32) (M : Mem) (hp : P__law__2461 g pk23 x4 M) : Rc g 68 cx mL_law_ 2461 [some (.ref 5000000), some (.ref 1558), some (.ref 0), some (.ref 1557), some (.int x4), none, none, none] [] M ((F__law__2461 g k23 x4 M)) := by
  rw [F__law__2461]
  rw [P__law__2461] at hp
  refine b_law__2461  ?_
  exact R_cw (by omega) (ih23 (x4 + 7) M hp)
def F__law__288 (g : Gl) (k23 : Int32 → Mem → Oc) (x4 : Int32) (xs0 : Int32) (xs1 : Int32) (M : Mem) : Oc := if xs1 = xs0 then (F__law__2461 g k23 x4 M) else (.inl (some (.int 0), M))
def P__law__288 (g : Gl) (pk23 : Int32 → Mem → Prop) (x4 : Int32) (xs0 : Int32) (xs1 : Int32) (M : Mem) : Prop := ((xs1 = xs0 → P__law__2461 g pk23 x4 M) ∧ (¬ xs1 = xs0 → True))
theorem T__law__288 {g : Gl} {cx : Nat} (k23 : Int32 → Mem → Oc) (pk23 : Int32 → Mem → Prop) (ih23 : ∀ (x4 : Int32) (M : Mem), pk23 x4 M → Rc g 68 cx mL_law_ 23 [some (.ref 5000000), some (.ref 1558), some (.ref 0), some (.ref 1557), some (.int x4), none, none, none] [] M ((k23 x4 M))) (x4 : Int32) (xs0 : Int32) (xs1 : Int32) (M : Mem) (hp : P__law__288 g pk23 x4 xs0 xs1 M) : Rc g 68 cx mL_law_ 288 [some (.ref 5000000), some (.ref 1558), some (.ref 0), some (.ref 1557), some (.int x4), none, none, none] [.int xs0, .int xs1] M ((F__law__288 g k23 x4 xs0 xs1 M)) := by
  rw [F__law__288]
  rw [P__law__288] at hp
  refine b_law__288  (fun h => ?_) (fun h => ?_)
  · rw [if_pos h]
    have hp := hp.1 h
    exact R_cw (by omega) (T__law__2461 k23 pk23 ih23 x4 M hp)
  · rw [if_neg h]
    exact b_law__291  rfl
def F__law__254 (g : Gl) (k23 : Int32 → Mem → Oc) (x4 : Int32) (xs0 : Int32) (M : Mem) : Oc := F__law__288 g k23 x4 ((F_12_feed_0 (scX g ((x4 + 1).toNatClampNeg)) (scX g ((x4 + 2).toNatClampNeg)) (scX g ((x4 + 3).toNatClampNeg)) (scX g ((x4 + 4).toNatClampNeg)) (scX g ((x4 + 5).toNatClampNeg)) M).1) xs0 ((F_12_feed_0 (scX g ((x4 + 1).toNatClampNeg)) (scX g ((x4 + 2).toNatClampNeg)) (scX g ((x4 + 3).toNatClampNeg)) (scX g ((x4 + 4).toNatClampNeg)) (scX g ((x4 + 5).toNatClampNeg)) M).2)
def P__law__254 (g : Gl) (pk23 : Int32 → Mem → Prop) (x4 : Int32) (xs0 : Int32) (M : Mem) : Prop := (vp_in (x4 + 1) (g.2.2.2 5000001)) ∧ ((vp_in (x4 + 2) (g.2.2.2 5000001)) ∧ ((vp_in (x4 + 3) (g.2.2.2 5000001)) ∧ ((vp_in (x4 + 4) (g.2.2.2 5000001)) ∧ ((vp_in (x4 + 5) (g.2.2.2 5000001)) ∧ (((P_12_feed_0 (scX g ((x4 + 1).toNatClampNeg)) (scX g ((x4 + 2).toNatClampNeg)) (scX g ((x4 + 3).toNatClampNeg)) (scX g ((x4 + 4).toNatClampNeg)) (scX g ((x4 + 5).toNatClampNeg)) M) ∧ (P__law__288 g pk23 x4 ((F_12_feed_0 (scX g ((x4 + 1).toNatClampNeg)) (scX g ((x4 + 2).toNatClampNeg)) (scX g ((x4 + 3).toNatClampNeg)) (scX g ((x4 + 4).toNatClampNeg)) (scX g ((x4 + 5).toNatClampNeg)) M).1) xs0 ((F_12_feed_0 (scX g ((x4 + 1).toNatClampNeg)) (scX g ((x4 + 2).toNatClampNeg)) (scX g ((x4 + 3).toNatClampNeg)) (scX g ((x4 + 4).toNatClampNeg)) (scX g ((x4 + 5).toNatClampNeg)) M).2))))))))
theorem T__law__254 {g : Gl} {cx : Nat} (k23 : Int32 → Mem → Oc) (pk23 : Int32 → Mem → Prop) (ih23 : ∀ (x4 : Int32) (M : Mem), pk23 x4 M → Rc g 68 cx mL_law_ 23 [some (.ref 5000000), some (.ref 1558), some (.ref 0), some (.ref 1557), some (.int x4), none, none, none] [] M ((k23 x4 M))) (x4 : Int32) (xs0 : Int32) (M : Mem) (hp : P__law__254 g pk23 x4 xs0 M) : Rc g 68 cx mL_law_ 254 [some (.ref 5000000), some (.ref 1558), some (.ref 0), some (.ref 1557), some (.int x4), none, none, none] [.int xs0] M ((F__law__254 g k23 x4 xs0 M)) := by
  rw [F__law__254]
  rw [P__law__254] at hp
  obtain ⟨p0, hp⟩ := hp
  refine b_law__254 p0 ?_
  obtain ⟨p1, hp⟩ := hp
  refine b_law__261 p1 ?_
  obtain ⟨p2, hp⟩ := hp
  refine b_law__267 p2 ?_
  obtain ⟨p3, hp⟩ := hp
  refine b_law__273 p3 ?_
  obtain ⟨p4, hp⟩ := hp
  refine b_law__279 p4 ?_
  obtain ⟨hc, hp⟩ := hp
  refine b_law__285  (C_12_feed (scX g ((x4 + 1).toNatClampNeg)) (scX g ((x4 + 2).toNatClampNeg)) (scX g ((x4 + 3).toNatClampNeg)) (scX g ((x4 + 4).toNatClampNeg)) (scX g ((x4 + 5).toNatClampNeg)) M hc) (Nat.le_of_ble_eq_true rfl) ?_
  exact R_cw (by omega) (T__law__288 k23 pk23 ih23 x4 ((F_12_feed_0 (scX g ((x4 + 1).toNatClampNeg)) (scX g ((x4 + 2).toNatClampNeg)) (scX g ((x4 + 3).toNatClampNeg)) (scX g ((x4 + 4).toNatClampNeg)) (scX g ((x4 + 5).toNatClampNeg)) M).1) xs0 ((F_12_feed_0 (scX g ((x4 + 1).toNatClampNeg)) (scX g ((x4 + 2).toNatClampNeg)) (scX g ((x4 + 3).toNatClampNeg)) (scX g ((x4 + 4).toNatClampNeg)) (scX g ((x4 + 5).toNatClampNeg)) M).2) hp)
def F__law__220 (g : Gl) (k23 : Int32 → Mem → Oc) (x4 : Int32) (M : Mem) : Oc := F__law__254 g k23 x4 ((F_11_feed_0 (scX g ((x4 + 1).toNatClampNeg)) (scX g ((x4 + 2).toNatClampNeg)) (scX g ((x4 + 3).toNatClampNeg)) (scX g ((x4 + 4).toNatClampNeg)) (scX g ((x4 + 5).toNatClampNeg)) M).1) ((F_11_feed_0 (scX g ((x4 + 1).toNatClampNeg)) (scX g ((x4 + 2).toNatClampNeg)) (scX g ((x4 + 3).toNatClampNeg)) (scX g ((x4 + 4).toNatClampNeg)) (scX g ((x4 + 5).toNatClampNeg)) M).2)
def P__law__220 (g : Gl) (pk23 : Int32 → Mem → Prop) (x4 : Int32) (M : Mem) : Prop := (vp_in (x4 + 1) (g.2.2.2 5000001)) ∧ ((vp_in (x4 + 2) (g.2.2.2 5000001)) ∧ ((vp_in (x4 + 3) (g.2.2.2 5000001)) ∧ ((vp_in (x4 + 4) (g.2.2.2 5000001)) ∧ ((vp_in (x4 + 5) (g.2.2.2 5000001)) ∧ (((P_11_feed_0 (scX g ((x4 + 1).toNatClampNeg)) (scX g ((x4 + 2).toNatClampNeg)) (scX g ((x4 + 3).toNatClampNeg)) (scX g ((x4 + 4).toNatClampNeg)) (scX g ((x4 + 5).toNatClampNeg)) M) ∧ (P__law__254 g pk23 x4 ((F_11_feed_0 (scX g ((x4 + 1).toNatClampNeg)) (scX g ((x4 + 2).toNatClampNeg)) (scX g ((x4 + 3).toNatClampNeg)) (scX g ((x4 + 4).toNatClampNeg)) (scX g ((x4 + 5).toNatClampNeg)) M).1) ((F_11_feed_0 (scX g ((x4 + 1).toNatClampNeg)) (scX g ((x4 + 2).toNatClampNeg)) (scX g ((x4 + 3).toNatClampNeg)) (scX g ((x4 + 4).toNatClampNeg)) (scX g ((x4 + 5).toNatClampNeg)) M).2))))))))
theorem T__law__220 {g : Gl} {cx : Nat} (k23 : Int32 → Mem → Oc) (pk23 : Int32 → Mem → Prop) (ih23 : ∀ (x4 : Int32) (M : Mem), pk23 x4 M → Rc g 68 cx mL_law_ 23 [some (.ref 5000000), some (.ref 1558), some (.ref 0), some (.ref 1557), some (.int x4), none, none, none] [] M ((k23 x4 M))) (x4 : Int32) (M : Mem) (hp : P__law__220 g pk23 x4 M) : Rc g 68 cx mL_law_ 220 [some (.ref 5000000), some (.ref 1558), some (.ref 0), some (.ref 1557), some (.int x4), none, none, none] [] M ((F__law__220 g k23 x4 M)) := by
  rw [F__law__220]
  rw [P__law__220] at hp
  obtain ⟨p0, hp⟩ := hp
  refine b_law__220 p0 ?_
  obtain ⟨p1, hp⟩ := hp
  refine b_law__227 p1 ?_
  obtain ⟨p2, hp⟩ := hp
  refine b_law__233 p2 ?_
  obtain ⟨p3, hp⟩ := hp
  refine b_law__239 p3 ?_
  obtain ⟨p4, hp⟩ := hp
  refine b_law__245 p4 ?_
  obtain ⟨hc, hp⟩ := hp
  refine b_law__251  (C_11_feed (scX g ((x4 + 1).toNatClampNeg)) (scX g ((x4 + 2).toNatClampNeg)) (scX g ((x4 + 3).toNatClampNeg)) (scX g ((x4 + 4).toNatClampNeg)) (scX g ((x4 + 5).toNatClampNeg)) M hc) (Nat.le_of_ble_eq_true rfl) ?_
  exact R_cw (by omega) (T__law__254 k23 pk23 ih23 x4 ((F_11_feed_0 (scX g ((x4 + 1).toNatClampNeg)) (scX g ((x4 + 2).toNatClampNeg)) (scX g ((x4 + 3).toNatClampNeg)) (scX g ((x4 + 4).toNatClampNeg)) (scX g ((x4 + 5).toNatClampNeg)) M).1) ((F_11_feed_0 (scX g ((x4 + 1).toNatClampNeg)) (scX g ((x4 + 2).toNatClampNeg)) (scX g ((x4 + 3).toNatClampNeg)) (scX g ((x4 + 4).toNatClampNeg)) (scX g ((x4 + 5).toNatClampNeg)) M).2) hp)
def F__law__346 (g : Gl) (k23 : Int32 → Mem → Oc) (x4 : Int32) (M : Mem) : Oc := F__law__2461 g k23 x4 M
def P__law__346 (g : Gl) (pk23 : Int32 → Mem → Prop) (x4 : Int32) (M : Mem) : Prop := (P__law__2461 g pk23 x4 M)
theorem T__law__346 {g : Gl} {cx : Nat} (k23 : Int32 → Mem → Oc) (pk23 : Int32 → Mem → Prop) (ih23 : ∀ (x4 : Int32) (M : Mem), pk23 x4 M → Rc g 68 cx mL_law_ 23 [some (.ref 5000000), some (.ref 1558), some (.ref 0), some (.ref 1557), some (.int x4), none, none, none] [] M ((k23 x4 M))) (x4 : Int32) (M : Mem) (hp : P__law__346 g pk23 x4 M) : Rc g 68 cx mL_law_ 346 [some (.ref 5000000), some (.ref 1558), some (.ref 0), some (.ref 1557), some (.int x4), none, none, none] [] M ((F__law__346 g k23 x4 M)) := by
  rw [F__law__346]
  rw [P__law__346] at hp
  refine b_law__346  ?_
  exact R_cw (by omega) (T__law__2461 k23 pk23 ih23 x4 M hp)
def F__law__316 (g : Gl) (k23 : Int32 → Mem → Oc) (x4 : Int32) (x5 : Int32) (xs0 : Int32) (M : Mem) : Oc := if (F_12_thrown_0 M) = x5 then (if x5 = 0 then (if (lg_cmp (rl M 1557 ((0 : Int32).toNatClampNeg)) xs0.toInt64) = 0 then (F__law__346 g k23 x4 M) else (.inl (some (.int 0), M))) else (F__law__346 g k23 x4 M)) else (.inl (some (.int 0), M))
def P__law__316 (g : Gl) (pk23 : Int32 → Mem → Prop) (x4 : Int32) (x5 : Int32) (xs0 : Int32) (M : Mem) : Prop := (((((F_12_thrown_0 M) = x5 → ((¬ x5 = 0 → P__law__346 g pk23 x4 M) ∧ (x5 = 0 → (((lg_cmp (rl M 1557 ((0 : Int32).toNatClampNeg)) xs0.toInt64) = 0 → P__law__346 g pk23 x4 M) ∧ (¬ (lg_cmp (rl M 1557 ((0 : Int32).toNatClampNeg)) xs0.toInt64) = 0 → True))))) ∧ (¬ (F_12_thrown_0 M) = x5 → True))))
theorem T__law__316 {g : Gl} {cx : Nat} (k23 : Int32 → Mem → Oc) (pk23 : Int32 → Mem → Prop) (ih23 : ∀ (x4 : Int32) (M : Mem), pk23 x4 M → Rc g 68 cx mL_law_ 23 [some (.ref 5000000), some (.ref 1558), some (.ref 0), some (.ref 1557), some (.int x4), none, none, none] [] M ((k23 x4 M))) (x4 : Int32) (x5 : Int32) (xs0 : Int32) (M : Mem) (hp : P__law__316 g pk23 x4 x5 xs0 M) : Rc g 68 cx mL_law_ 316 [some (.ref 5000000), some (.ref 1558), some (.ref 0), some (.ref 1557), some (.int x4), some (.int x5), none, none] [.int xs0] M ((F__law__316 g k23 x4 x5 xs0 M)) := by
  rw [F__law__316]
  rw [P__law__316] at hp
  refine b_law__316  (C_12_thrown  M) (Nat.le_of_ble_eq_true rfl) ?_
  refine b_law__322  (fun h => ?_) (fun h => ?_)
  · rw [if_pos h]
    have hp := hp.1 h
    refine b_law__329  (fun h => ?_) (fun h => ?_)
    · rw [if_neg h]
      have hp := hp.1 h
      exact R_cw (by omega) (T__law__346 k23 pk23 ih23 x4 M hp)
    · rw [if_pos h]
      have hp := hp.2 h
      refine b_law__334 (vpl (by decide)) (fun h => ?_) (fun h => ?_)
      · rw [if_pos h]
        have hp := hp.1 h
        exact R_cw (by omega) (T__law__346 k23 pk23 ih23 x4 M hp)
      · rw [if_neg h]
        exact b_law__344  rfl
  · rw [if_neg h]
    exact b_law__327  rfl
def F__law__304 (g : Gl) (k23 : Int32 → Mem → Oc) (x4 : Int32) (xs0 : Int32) (M : Mem) : Oc := F__law__316 g k23 x4 xs0 ((F_12_museum_0 (scX g ((x4 + 1).toNatClampNeg)) M).1) ((F_12_museum_0 (scX g ((x4 + 1).toNatClampNeg)) M).2)
def P__law__304 (g : Gl) (pk23 : Int32 → Mem → Prop) (x4 : Int32) (xs0 : Int32) (M : Mem) : Prop := (vp_in (x4 + 1) (g.2.2.2 5000001)) ∧ (((P_12_museum_0 (scX g ((x4 + 1).toNatClampNeg)) M) ∧ (P__law__316 g pk23 x4 xs0 ((F_12_museum_0 (scX g ((x4 + 1).toNatClampNeg)) M).1) ((F_12_museum_0 (scX g ((x4 + 1).toNatClampNeg)) M).2))))
theorem T__law__304 {g : Gl} {cx : Nat} (k23 : Int32 → Mem → Oc) (pk23 : Int32 → Mem → Prop) (ih23 : ∀ (x4 : Int32) (M : Mem), pk23 x4 M → Rc g 68 cx mL_law_ 23 [some (.ref 5000000), some (.ref 1558), some (.ref 0), some (.ref 1557), some (.int x4), none, none, none] [] M ((k23 x4 M))) (x4 : Int32) (xs0 : Int32) (M : Mem) (hp : P__law__304 g pk23 x4 xs0 M) : Rc g 68 cx mL_law_ 304 [some (.ref 5000000), some (.ref 1558), some (.ref 0), some (.ref 1557), some (.int x4), none, none, none] [.int xs0] M ((F__law__304 g k23 x4 xs0 M)) := by
  rw [F__law__304]
  rw [P__law__304] at hp
  obtain ⟨p0, hp⟩ := hp
  refine b_law__304 p0 ?_
  obtain ⟨hc, hp⟩ := hp
  refine b_law__313  (C_12_museum (scX g ((x4 + 1).toNatClampNeg)) M hc) (Nat.le_of_ble_eq_true rfl) ?_
  exact R_cw (by omega) (T__law__316 k23 pk23 ih23 x4 xs0 ((F_12_museum_0 (scX g ((x4 + 1).toNatClampNeg)) M).1) ((F_12_museum_0 (scX g ((x4 + 1).toNatClampNeg)) M).2) hp)
def F__law__293 (g : Gl) (k23 : Int32 → Mem → Oc) (x4 : Int32) (M : Mem) : Oc := F__law__304 g k23 x4 ((W_museum (scX g ((x4 + 1).toNatClampNeg)) M).1) ((W_museum (scX g ((x4 + 1).toNatClampNeg)) M).2)
def P__law__293 (g : Gl) (pk23 : Int32 → Mem → Prop) (x4 : Int32) (M : Mem) : Prop := (vp_in (x4 + 1) (g.2.2.2 5000001)) ∧ (((Q_museum (scX g ((x4 + 1).toNatClampNeg)) M) ∧ (P__law__304 g pk23 x4 ((W_museum (scX g ((x4 + 1).toNatClampNeg)) M).1) ((W_museum (scX g ((x4 + 1).toNatClampNeg)) M).2))))
theorem T__law__293 {g : Gl} {cx : Nat} (k23 : Int32 → Mem → Oc) (pk23 : Int32 → Mem → Prop) (ih23 : ∀ (x4 : Int32) (M : Mem), pk23 x4 M → Rc g 68 cx mL_law_ 23 [some (.ref 5000000), some (.ref 1558), some (.ref 0), some (.ref 1557), some (.int x4), none, none, none] [] M ((k23 x4 M))) (x4 : Int32) (M : Mem) (hp : P__law__293 g pk23 x4 M) : Rc g 68 (cx + 8) mL_law_ 293 [some (.ref 5000000), some (.ref 1558), some (.ref 0), some (.ref 1557), some (.int x4), none, none, none] [] M ((F__law__293 g k23 x4 M)) := by
  rw [F__law__293]
  rw [P__law__293] at hp
  obtain ⟨p0, hp⟩ := hp
  refine b_law__293 p0 ?_
  obtain ⟨hc, hp⟩ := hp
  refine R_cw (cx := cx + 1) (by omega) (b_law__300 (cx := cx)  (CW_museum (scX g ((x4 + 1).toNatClampNeg)) M hc) (Nat.le_of_ble_eq_true rfl) ?_)
  exact R_cw (by omega) (T__law__304 k23 pk23 ih23 x4 ((W_museum (scX g ((x4 + 1).toNatClampNeg)) M).1) ((W_museum (scX g ((x4 + 1).toNatClampNeg)) M).2) hp)
def F__law__402 (g : Gl) (k23 : Int32 → Mem → Oc) (x4 : Int32) (M : Mem) : Oc := F__law__2461 g k23 x4 M
def P__law__402 (g : Gl) (pk23 : Int32 → Mem → Prop) (x4 : Int32) (M : Mem) : Prop := (P__law__2461 g pk23 x4 M)
theorem T__law__402 {g : Gl} {cx : Nat} (k23 : Int32 → Mem → Oc) (pk23 : Int32 → Mem → Prop) (ih23 : ∀ (x4 : Int32) (M : Mem), pk23 x4 M → Rc g 68 cx mL_law_ 23 [some (.ref 5000000), some (.ref 1558), some (.ref 0), some (.ref 1557), some (.int x4), none, none, none] [] M ((k23 x4 M))) (x4 : Int32) (M : Mem) (hp : P__law__402 g pk23 x4 M) : Rc g 68 cx mL_law_ 402 [some (.ref 5000000), some (.ref 1558), some (.ref 0), some (.ref 1557), some (.int x4), none, none, none] [] M ((F__law__402 g k23 x4 M)) := by
  rw [F__law__402]
  rw [P__law__402] at hp
  refine b_law__402  ?_
  exact R_cw (by omega) (T__law__2461 k23 pk23 ih23 x4 M hp)
def F__law__372 (g : Gl) (k23 : Int32 → Mem → Oc) (x4 : Int32) (x5 : Int32) (xs0 : Int32) (M : Mem) : Oc := if (F_12_thrown_0 M) = x5 then (if x5 = 0 then (if (lg_cmp (rl M 1557 ((0 : Int32).toNatClampNeg)) xs0.toInt64) = 0 then (F__law__402 g k23 x4 M) else (.inl (some (.int 0), M))) else (F__law__402 g k23 x4 M)) else (.inl (some (.int 0), M))
def P__law__372 (g : Gl) (pk23 : Int32 → Mem → Prop) (x4 : Int32) (x5 : Int32) (xs0 : Int32) (M : Mem) : Prop := (((((F_12_thrown_0 M) = x5 → ((¬ x5 = 0 → P__law__402 g pk23 x4 M) ∧ (x5 = 0 → (((lg_cmp (rl M 1557 ((0 : Int32).toNatClampNeg)) xs0.toInt64) = 0 → P__law__402 g pk23 x4 M) ∧ (¬ (lg_cmp (rl M 1557 ((0 : Int32).toNatClampNeg)) xs0.toInt64) = 0 → True))))) ∧ (¬ (F_12_thrown_0 M) = x5 → True))))
theorem T__law__372 {g : Gl} {cx : Nat} (k23 : Int32 → Mem → Oc) (pk23 : Int32 → Mem → Prop) (ih23 : ∀ (x4 : Int32) (M : Mem), pk23 x4 M → Rc g 68 cx mL_law_ 23 [some (.ref 5000000), some (.ref 1558), some (.ref 0), some (.ref 1557), some (.int x4), none, none, none] [] M ((k23 x4 M))) (x4 : Int32) (x5 : Int32) (xs0 : Int32) (M : Mem) (hp : P__law__372 g pk23 x4 x5 xs0 M) : Rc g 68 cx mL_law_ 372 [some (.ref 5000000), some (.ref 1558), some (.ref 0), some (.ref 1557), some (.int x4), some (.int x5), none, none] [.int xs0] M ((F__law__372 g k23 x4 x5 xs0 M)) := by
  rw [F__law__372]
  rw [P__law__372] at hp
  refine b_law__372  (C_12_thrown  M) (Nat.le_of_ble_eq_true rfl) ?_
  refine b_law__378  (fun h => ?_) (fun h => ?_)
  · rw [if_pos h]
    have hp := hp.1 h
    refine b_law__385  (fun h => ?_) (fun h => ?_)
    · rw [if_neg h]
      have hp := hp.1 h
      exact R_cw (by omega) (T__law__402 k23 pk23 ih23 x4 M hp)
    · rw [if_pos h]
      have hp := hp.2 h
      refine b_law__390 (vpl (by decide)) (fun h => ?_) (fun h => ?_)
      · rw [if_pos h]
        have hp := hp.1 h
        exact R_cw (by omega) (T__law__402 k23 pk23 ih23 x4 M hp)
      · rw [if_neg h]
        exact b_law__400  rfl
  · rw [if_neg h]
    exact b_law__383  rfl
def F__law__360 (g : Gl) (k23 : Int32 → Mem → Oc) (x4 : Int32) (xs0 : Int32) (M : Mem) : Oc := F__law__372 g k23 x4 xs0 ((F_12_law_0 (scX g ((x4 + 1).toNatClampNeg)) M).1) ((F_12_law_0 (scX g ((x4 + 1).toNatClampNeg)) M).2)
def P__law__360 (g : Gl) (pk23 : Int32 → Mem → Prop) (x4 : Int32) (xs0 : Int32) (M : Mem) : Prop := (vp_in (x4 + 1) (g.2.2.2 5000001)) ∧ (((P_12_law_0 (scX g ((x4 + 1).toNatClampNeg)) M) ∧ (P__law__372 g pk23 x4 xs0 ((F_12_law_0 (scX g ((x4 + 1).toNatClampNeg)) M).1) ((F_12_law_0 (scX g ((x4 + 1).toNatClampNeg)) M).2))))
theorem T__law__360 {g : Gl} {cx : Nat} (k23 : Int32 → Mem → Oc) (pk23 : Int32 → Mem → Prop) (ih23 : ∀ (x4 : Int32) (M : Mem), pk23 x4 M → Rc g 68 cx mL_law_ 23 [some (.ref 5000000), some (.ref 1558), some (.ref 0), some (.ref 1557), some (.int x4), none, none, none] [] M ((k23 x4 M))) (x4 : Int32) (xs0 : Int32) (M : Mem) (hp : P__law__360 g pk23 x4 xs0 M) : Rc g 68 cx mL_law_ 360 [some (.ref 5000000), some (.ref 1558), some (.ref 0), some (.ref 1557), some (.int x4), none, none, none] [.int xs0] M ((F__law__360 g k23 x4 xs0 M)) := by
  rw [F__law__360]
  rw [P__law__360] at hp
  obtain ⟨p0, hp⟩ := hp
  refine b_law__360 p0 ?_
  obtain ⟨hc, hp⟩ := hp
  refine b_law__369  (C_12_law (scX g ((x4 + 1).toNatClampNeg)) M hc) (Nat.le_of_ble_eq_true rfl) ?_
  exact R_cw (by omega) (T__law__372 k23 pk23 ih23 x4 xs0 ((F_12_law_0 (scX g ((x4 + 1).toNatClampNeg)) M).1) ((F_12_law_0 (scX g ((x4 + 1).toNatClampNeg)) M).2) hp)
def F__law__349 (g : Gl) (k23 : Int32 → Mem → Oc) (x4 : Int32) (M : Mem) : Oc := F__law__360 g k23 x4 ((W_law (scX g ((x4 + 1).toNatClampNeg)) M).1) ((W_law (scX g ((x4 + 1).toNatClampNeg)) M).2)
def P__law__349 (g : Gl) (pk23 : Int32 → Mem → Prop) (x4 : Int32) (M : Mem) : Prop := (vp_in (x4 + 1) (g.2.2.2 5000001)) ∧ (((Q_law (scX g ((x4 + 1).toNatClampNeg)) M) ∧ (P__law__360 g pk23 x4 ((W_law (scX g ((x4 + 1).toNatClampNeg)) M).1) ((W_law (scX g ((x4 + 1).toNatClampNeg)) M).2))))
theorem T__law__349 {g : Gl} {cx : Nat} (k23 : Int32 → Mem → Oc) (pk23 : Int32 → Mem → Prop) (ih23 : ∀ (x4 : Int32) (M : Mem), pk23 x4 M → Rc g 68 cx mL_law_ 23 [some (.ref 5000000), some (.ref 1558), some (.ref 0), some (.ref 1557), some (.int x4), none, none, none] [] M ((k23 x4 M))) (x4 : Int32) (M : Mem) (hp : P__law__349 g pk23 x4 M) : Rc g 68 (cx + 8) mL_law_ 349 [some (.ref 5000000), some (.ref 1558), some (.ref 0), some (.ref 1557), some (.int x4), none, none, none] [] M ((F__law__349 g k23 x4 M)) := by
  rw [F__law__349]
  rw [P__law__349] at hp
  obtain ⟨p0, hp⟩ := hp
  refine b_law__349 p0 ?_
  obtain ⟨hc, hp⟩ := hp
  refine R_cw (cx := cx + 1) (by omega) (b_law__356 (cx := cx)  (CW_law (scX g ((x4 + 1).toNatClampNeg)) M hc) (Nat.le_of_ble_eq_true rfl) ?_)
  exact R_cw (by omega) (T__law__360 k23 pk23 ih23 x4 ((W_law (scX g ((x4 + 1).toNatClampNeg)) M).1) ((W_law (scX g ((x4 + 1).toNatClampNeg)) M).2) hp)
def F__law__458 (g : Gl) (k23 : Int32 → Mem → Oc) (x4 : Int32) (M : Mem) : Oc := F__law__2461 g k23 x4 M
def P__law__458 (g : Gl) (pk23 : Int32 → Mem → Prop) (x4 : Int32) (M : Mem) : Prop := (P__law__2461 g pk23 x4 M)
theorem T__law__458 {g : Gl} {cx : Nat} (k23 : Int32 → Mem → Oc) (pk23 : Int32 → Mem → Prop) (ih23 : ∀ (x4 : Int32) (M : Mem), pk23 x4 M → Rc g 68 cx mL_law_ 23 [some (.ref 5000000), some (.ref 1558), some (.ref 0), some (.ref 1557), some (.int x4), none, none, none] [] M ((k23 x4 M))) (x4 : Int32) (M : Mem) (hp : P__law__458 g pk23 x4 M) : Rc g 68 cx mL_law_ 458 [some (.ref 5000000), some (.ref 1558), some (.ref 0), some (.ref 1557), some (.int x4), none, none, none] [] M ((F__law__458 g k23 x4 M)) := by
  rw [F__law__458]
  rw [P__law__458] at hp
  refine b_law__458  ?_
  exact R_cw (by omega) (T__law__2461 k23 pk23 ih23 x4 M hp)
def F__law__428 (g : Gl) (k23 : Int32 → Mem → Oc) (x4 : Int32) (x5 : Int32) (xs0 : Int32) (M : Mem) : Oc := if (F_12_thrown_0 M) = x5 then (if x5 = 0 then (if (lg_cmp (rl M 1557 ((0 : Int32).toNatClampNeg)) xs0.toInt64) = 0 then (F__law__458 g k23 x4 M) else (.inl (some (.int 0), M))) else (F__law__458 g k23 x4 M)) else (.inl (some (.int 0), M))
def P__law__428 (g : Gl) (pk23 : Int32 → Mem → Prop) (x4 : Int32) (x5 : Int32) (xs0 : Int32) (M : Mem) : Prop := (((((F_12_thrown_0 M) = x5 → ((¬ x5 = 0 → P__law__458 g pk23 x4 M) ∧ (x5 = 0 → (((lg_cmp (rl M 1557 ((0 : Int32).toNatClampNeg)) xs0.toInt64) = 0 → P__law__458 g pk23 x4 M) ∧ (¬ (lg_cmp (rl M 1557 ((0 : Int32).toNatClampNeg)) xs0.toInt64) = 0 → True))))) ∧ (¬ (F_12_thrown_0 M) = x5 → True))))
theorem T__law__428 {g : Gl} {cx : Nat} (k23 : Int32 → Mem → Oc) (pk23 : Int32 → Mem → Prop) (ih23 : ∀ (x4 : Int32) (M : Mem), pk23 x4 M → Rc g 68 cx mL_law_ 23 [some (.ref 5000000), some (.ref 1558), some (.ref 0), some (.ref 1557), some (.int x4), none, none, none] [] M ((k23 x4 M))) (x4 : Int32) (x5 : Int32) (xs0 : Int32) (M : Mem) (hp : P__law__428 g pk23 x4 x5 xs0 M) : Rc g 68 cx mL_law_ 428 [some (.ref 5000000), some (.ref 1558), some (.ref 0), some (.ref 1557), some (.int x4), some (.int x5), none, none] [.int xs0] M ((F__law__428 g k23 x4 x5 xs0 M)) := by
  rw [F__law__428]
  rw [P__law__428] at hp
  refine b_law__428  (C_12_thrown  M) (Nat.le_of_ble_eq_true rfl) ?_
  refine b_law__434  (fun h => ?_) (fun h => ?_)
  · rw [if_pos h]
    have hp := hp.1 h
    refine b_law__441  (fun h => ?_) (fun h => ?_)
    · rw [if_neg h]
      have hp := hp.1 h
      exact R_cw (by omega) (T__law__458 k23 pk23 ih23 x4 M hp)
    · rw [if_pos h]
      have hp := hp.2 h
      refine b_law__446 (vpl (by decide)) (fun h => ?_) (fun h => ?_)
      · rw [if_pos h]
        have hp := hp.1 h
        exact R_cw (by omega) (T__law__458 k23 pk23 ih23 x4 M hp)
      · rw [if_neg h]
        exact b_law__456  rfl
  · rw [if_neg h]
    exact b_law__439  rfl
def F__law__416 (g : Gl) (k23 : Int32 → Mem → Oc) (x4 : Int32) (xs0 : Int32) (M : Mem) : Oc := F__law__428 g k23 x4 xs0 ((F_12_work_0 (scX g ((x4 + 1).toNatClampNeg)) M).1) ((F_12_work_0 (scX g ((x4 + 1).toNatClampNeg)) M).2)
def P__law__416 (g : Gl) (pk23 : Int32 → Mem → Prop) (x4 : Int32) (xs0 : Int32) (M : Mem) : Prop := (vp_in (x4 + 1) (g.2.2.2 5000001)) ∧ (((P_12_work_0 (scX g ((x4 + 1).toNatClampNeg)) M) ∧ (P__law__428 g pk23 x4 xs0 ((F_12_work_0 (scX g ((x4 + 1).toNatClampNeg)) M).1) ((F_12_work_0 (scX g ((x4 + 1).toNatClampNeg)) M).2))))
theorem T__law__416 {g : Gl} {cx : Nat} (k23 : Int32 → Mem → Oc) (pk23 : Int32 → Mem → Prop) (ih23 : ∀ (x4 : Int32) (M : Mem), pk23 x4 M → Rc g 68 cx mL_law_ 23 [some (.ref 5000000), some (.ref 1558), some (.ref 0), some (.ref 1557), some (.int x4), none, none, none] [] M ((k23 x4 M))) (x4 : Int32) (xs0 : Int32) (M : Mem) (hp : P__law__416 g pk23 x4 xs0 M) : Rc g 68 cx mL_law_ 416 [some (.ref 5000000), some (.ref 1558), some (.ref 0), some (.ref 1557), some (.int x4), none, none, none] [.int xs0] M ((F__law__416 g k23 x4 xs0 M)) := by
  rw [F__law__416]
  rw [P__law__416] at hp
  obtain ⟨p0, hp⟩ := hp
  refine b_law__416 p0 ?_
  obtain ⟨hc, hp⟩ := hp
  refine b_law__425  (C_12_work (scX g ((x4 + 1).toNatClampNeg)) M hc) (Nat.le_of_ble_eq_true rfl) ?_
  exact R_cw (by omega) (T__law__428 k23 pk23 ih23 x4 xs0 ((F_12_work_0 (scX g ((x4 + 1).toNatClampNeg)) M).1) ((F_12_work_0 (scX g ((x4 + 1).toNatClampNeg)) M).2) hp)
def F__law__405 (g : Gl) (k23 : Int32 → Mem → Oc) (x4 : Int32) (M : Mem) : Oc := F__law__416 g k23 x4 ((W_work (scX g ((x4 + 1).toNatClampNeg)) M).1) ((W_work (scX g ((x4 + 1).toNatClampNeg)) M).2)
def P__law__405 (g : Gl) (pk23 : Int32 → Mem → Prop) (x4 : Int32) (M : Mem) : Prop := (vp_in (x4 + 1) (g.2.2.2 5000001)) ∧ (((Q_work (scX g ((x4 + 1).toNatClampNeg)) M) ∧ (P__law__416 g pk23 x4 ((W_work (scX g ((x4 + 1).toNatClampNeg)) M).1) ((W_work (scX g ((x4 + 1).toNatClampNeg)) M).2))))
theorem T__law__405 {g : Gl} {cx : Nat} (k23 : Int32 → Mem → Oc) (pk23 : Int32 → Mem → Prop) (ih23 : ∀ (x4 : Int32) (M : Mem), pk23 x4 M → Rc g 68 cx mL_law_ 23 [some (.ref 5000000), some (.ref 1558), some (.ref 0), some (.ref 1557), some (.int x4), none, none, none] [] M ((k23 x4 M))) (x4 : Int32) (M : Mem) (hp : P__law__405 g pk23 x4 M) : Rc g 68 (cx + 8) mL_law_ 405 [some (.ref 5000000), some (.ref 1558), some (.ref 0), some (.ref 1557), some (.int x4), none, none, none] [] M ((F__law__405 g k23 x4 M)) := by
  rw [F__law__405]
  rw [P__law__405] at hp
  obtain ⟨p0, hp⟩ := hp
  refine b_law__405 p0 ?_
  obtain ⟨hc, hp⟩ := hp
  refine R_cw (cx := cx + 1) (by omega) (b_law__412 (cx := cx)  (CW_work (scX g ((x4 + 1).toNatClampNeg)) M hc) (Nat.le_of_ble_eq_true rfl) ?_)
  exact R_cw (by omega) (T__law__416 k23 pk23 ih23 x4 ((W_work (scX g ((x4 + 1).toNatClampNeg)) M).1) ((W_work (scX g ((x4 + 1).toNatClampNeg)) M).2) hp)
def F__law__514 (g : Gl) (k23 : Int32 → Mem → Oc) (x4 : Int32) (M : Mem) : Oc := F__law__2461 g k23 x4 M
def P__law__514 (g : Gl) (pk23 : Int32 → Mem → Prop) (x4 : Int32) (M : Mem) : Prop := (P__law__2461 g pk23 x4 M)
theorem T__law__514 {g : Gl} {cx : Nat} (k23 : Int32 → Mem → Oc) (pk23 : Int32 → Mem → Prop) (ih23 : ∀ (x4 : Int32) (M : Mem), pk23 x4 M → Rc g 68 cx mL_law_ 23 [some (.ref 5000000), some (.ref 1558), some (.ref 0), some (.ref 1557), some (.int x4), none, none, none] [] M ((k23 x4 M))) (x4 : Int32) (M : Mem) (hp : P__law__514 g pk23 x4 M) : Rc g 68 cx mL_law_ 514 [some (.ref 5000000), some (.ref 1558), some (.ref 0), some (.ref 1557), some (.int x4), none, none, none] [] M ((F__law__514 g k23 x4 M)) := by
  rw [F__law__514]
  rw [P__law__514] at hp
  refine b_law__514  ?_
  exact R_cw (by omega) (T__law__2461 k23 pk23 ih23 x4 M hp)
def F__law__484 (g : Gl) (k23 : Int32 → Mem → Oc) (x4 : Int32) (x5 : Int32) (xs0 : Int32) (M : Mem) : Oc := if (F_12_thrown_0 M) = x5 then (if x5 = 0 then (if (lg_cmp (rl M 1557 ((0 : Int32).toNatClampNeg)) xs0.toInt64) = 0 then (F__law__514 g k23 x4 M) else (.inl (some (.int 0), M))) else (F__law__514 g k23 x4 M)) else (.inl (some (.int 0), M))
def P__law__484 (g : Gl) (pk23 : Int32 → Mem → Prop) (x4 : Int32) (x5 : Int32) (xs0 : Int32) (M : Mem) : Prop := (((((F_12_thrown_0 M) = x5 → ((¬ x5 = 0 → P__law__514 g pk23 x4 M) ∧ (x5 = 0 → (((lg_cmp (rl M 1557 ((0 : Int32).toNatClampNeg)) xs0.toInt64) = 0 → P__law__514 g pk23 x4 M) ∧ (¬ (lg_cmp (rl M 1557 ((0 : Int32).toNatClampNeg)) xs0.toInt64) = 0 → True))))) ∧ (¬ (F_12_thrown_0 M) = x5 → True))))
theorem T__law__484 {g : Gl} {cx : Nat} (k23 : Int32 → Mem → Oc) (pk23 : Int32 → Mem → Prop) (ih23 : ∀ (x4 : Int32) (M : Mem), pk23 x4 M → Rc g 68 cx mL_law_ 23 [some (.ref 5000000), some (.ref 1558), some (.ref 0), some (.ref 1557), some (.int x4), none, none, none] [] M ((k23 x4 M))) (x4 : Int32) (x5 : Int32) (xs0 : Int32) (M : Mem) (hp : P__law__484 g pk23 x4 x5 xs0 M) : Rc g 68 cx mL_law_ 484 [some (.ref 5000000), some (.ref 1558), some (.ref 0), some (.ref 1557), some (.int x4), some (.int x5), none, none] [.int xs0] M ((F__law__484 g k23 x4 x5 xs0 M)) := by
  rw [F__law__484]
  rw [P__law__484] at hp
  refine b_law__484  (C_12_thrown  M) (Nat.le_of_ble_eq_true rfl) ?_
  refine b_law__490  (fun h => ?_) (fun h => ?_)
  · rw [if_pos h]
    have hp := hp.1 h
    refine b_law__497  (fun h => ?_) (fun h => ?_)
    · rw [if_neg h]
      have hp := hp.1 h
      exact R_cw (by omega) (T__law__514 k23 pk23 ih23 x4 M hp)
    · rw [if_pos h]
      have hp := hp.2 h
      refine b_law__502 (vpl (by decide)) (fun h => ?_) (fun h => ?_)
      · rw [if_pos h]
        have hp := hp.1 h
        exact R_cw (by omega) (T__law__514 k23 pk23 ih23 x4 M hp)
      · rw [if_neg h]
        exact b_law__512  rfl
  · rw [if_neg h]
    exact b_law__495  rfl
def F__law__472 (g : Gl) (k23 : Int32 → Mem → Oc) (x4 : Int32) (xs0 : Int32) (M : Mem) : Oc := F__law__484 g k23 x4 xs0 ((F_12_walk_0 (scX g ((x4 + 1).toNatClampNeg)) M).1) ((F_12_walk_0 (scX g ((x4 + 1).toNatClampNeg)) M).2)
def P__law__472 (g : Gl) (pk23 : Int32 → Mem → Prop) (x4 : Int32) (xs0 : Int32) (M : Mem) : Prop := (vp_in (x4 + 1) (g.2.2.2 5000001)) ∧ (((P_12_walk_0 (scX g ((x4 + 1).toNatClampNeg)) M) ∧ (P__law__484 g pk23 x4 xs0 ((F_12_walk_0 (scX g ((x4 + 1).toNatClampNeg)) M).1) ((F_12_walk_0 (scX g ((x4 + 1).toNatClampNeg)) M).2))))
theorem T__law__472 {g : Gl} {cx : Nat} (k23 : Int32 → Mem → Oc) (pk23 : Int32 → Mem → Prop) (ih23 : ∀ (x4 : Int32) (M : Mem), pk23 x4 M → Rc g 68 cx mL_law_ 23 [some (.ref 5000000), some (.ref 1558), some (.ref 0), some (.ref 1557), some (.int x4), none, none, none] [] M ((k23 x4 M))) (x4 : Int32) (xs0 : Int32) (M : Mem) (hp : P__law__472 g pk23 x4 xs0 M) : Rc g 68 cx mL_law_ 472 [some (.ref 5000000), some (.ref 1558), some (.ref 0), some (.ref 1557), some (.int x4), none, none, none] [.int xs0] M ((F__law__472 g k23 x4 xs0 M)) := by
  rw [F__law__472]
  rw [P__law__472] at hp
  obtain ⟨p0, hp⟩ := hp
  refine b_law__472 p0 ?_
  obtain ⟨hc, hp⟩ := hp
  refine b_law__481  (C_12_walk (scX g ((x4 + 1).toNatClampNeg)) M hc) (Nat.le_of_ble_eq_true rfl) ?_
  exact R_cw (by omega) (T__law__484 k23 pk23 ih23 x4 xs0 ((F_12_walk_0 (scX g ((x4 + 1).toNatClampNeg)) M).1) ((F_12_walk_0 (scX g ((x4 + 1).toNatClampNeg)) M).2) hp)
def F__law__461 (g : Gl) (k23 : Int32 → Mem → Oc) (x4 : Int32) (M : Mem) : Oc := F__law__472 g k23 x4 ((W_walk (scX g ((x4 + 1).toNatClampNeg)) M).1) ((W_walk (scX g ((x4 + 1).toNatClampNeg)) M).2)
def P__law__461 (g : Gl) (pk23 : Int32 → Mem → Prop) (x4 : Int32) (M : Mem) : Prop := (vp_in (x4 + 1) (g.2.2.2 5000001)) ∧ (((Q_walk (scX g ((x4 + 1).toNatClampNeg)) M) ∧ (P__law__472 g pk23 x4 ((W_walk (scX g ((x4 + 1).toNatClampNeg)) M).1) ((W_walk (scX g ((x4 + 1).toNatClampNeg)) M).2))))
theorem T__law__461 {g : Gl} {cx : Nat} (k23 : Int32 → Mem → Oc) (pk23 : Int32 → Mem → Prop) (ih23 : ∀ (x4 : Int32) (M : Mem), pk23 x4 M → Rc g 68 cx mL_law_ 23 [some (.ref 5000000), some (.ref 1558), some (.ref 0), some (.ref 1557), some (.int x4), none, none, none] [] M ((k23 x4 M))) (x4 : Int32) (M : Mem) (hp : P__law__461 g pk23 x4 M) : Rc g 68 (cx + 8) mL_law_ 461 [some (.ref 5000000), some (.ref 1558), some (.ref 0), some (.ref 1557), some (.int x4), none, none, none] [] M ((F__law__461 g k23 x4 M)) := by
  rw [F__law__461]
  rw [P__law__461] at hp
  obtain ⟨p0, hp⟩ := hp
  refine b_law__461 p0 ?_
  obtain ⟨hc, hp⟩ := hp
  refine R_cw (cx := cx + 1) (by omega) (b_law__468 (cx := cx)  (CW_walk (scX g ((x4 + 1).toNatClampNeg)) M hc) (Nat.le_of_ble_eq_true rfl) ?_)
  exact R_cw (by omega) (T__law__472 k23 pk23 ih23 x4 ((W_walk (scX g ((x4 + 1).toNatClampNeg)) M).1) ((W_walk (scX g ((x4 + 1).toNatClampNeg)) M).2) hp)
def F__law__525 (g : Gl) (k23 : Int32 → Mem → Oc) (x4 : Int32) (xs0 : Int32) (xs1 : Int32) (M : Mem) : Oc := if xs1 = xs0 then (F__law__2461 g k23 x4 M) else (.inl (some (.int 0), M))
def P__law__525 (g : Gl) (pk23 : Int32 → Mem → Prop) (x4 : Int32) (xs0 : Int32) (xs1 : Int32) (M : Mem) : Prop := ((xs1 = xs0 → P__law__2461 g pk23 x4 M) ∧ (¬ xs1 = xs0 → True))
theorem T__law__525 {g : Gl} {cx : Nat} (k23 : Int32 → Mem → Oc) (pk23 : Int32 → Mem → Prop) (ih23 : ∀ (x4 : Int32) (M : Mem), pk23 x4 M → Rc g 68 cx mL_law_ 23 [some (.ref 5000000), some (.ref 1558), some (.ref 0), some (.ref 1557), some (.int x4), none, none, none] [] M ((k23 x4 M))) (x4 : Int32) (xs0 : Int32) (xs1 : Int32) (M : Mem) (hp : P__law__525 g pk23 x4 xs0 xs1 M) : Rc g 68 cx mL_law_ 525 [some (.ref 5000000), some (.ref 1558), some (.ref 0), some (.ref 1557), some (.int x4), none, none, none] [.int xs0, .int xs1] M ((F__law__525 g k23 x4 xs0 xs1 M)) := by
  rw [F__law__525]
  rw [P__law__525] at hp
  refine b_law__525  (fun h => ?_) (fun h => ?_)
  · rw [if_pos h]
    have hp := hp.1 h
    exact R_cw (by omega) (T__law__2461 k23 pk23 ih23 x4 M hp)
  · rw [if_neg h]
    exact b_law__528  rfl
def F__law__517 (g : Gl) (k23 : Int32 → Mem → Oc) (x4 : Int32) (M : Mem) : Oc := F__law__525 g k23 x4 ((F_12_fault_0 M).1) (F_11_fault_0 M) ((F_12_fault_0 M).2)
def P__law__517 (g : Gl) (pk23 : Int32 → Mem → Prop) (x4 : Int32) (M : Mem) : Prop := ((((P__law__525 g pk23 x4 ((F_12_fault_0 M).1) (F_11_fault_0 M) ((F_12_fault_0 M).2)))))
theorem T__law__517 {g : Gl} {cx : Nat} (k23 : Int32 → Mem → Oc) (pk23 : Int32 → Mem → Prop) (ih23 : ∀ (x4 : Int32) (M : Mem), pk23 x4 M → Rc g 68 cx mL_law_ 23 [some (.ref 5000000), some (.ref 1558), some (.ref 0), some (.ref 1557), some (.int x4), none, none, none] [] M ((k23 x4 M))) (x4 : Int32) (M : Mem) (hp : P__law__517 g pk23 x4 M) : Rc g 68 cx mL_law_ 517 [some (.ref 5000000), some (.ref 1558), some (.ref 0), some (.ref 1557), some (.int x4), none, none, none] [] M ((F__law__517 g k23 x4 M)) := by
  rw [F__law__517]
  rw [P__law__517] at hp
  refine b_law__517  (C_11_fault  M) (Nat.le_of_ble_eq_true rfl) ?_
  refine b_law__521  (C_12_fault  M) (Nat.le_of_ble_eq_true rfl) ?_
  exact R_cw (by omega) (T__law__525 k23 pk23 ih23 x4 ((F_12_fault_0 M).1) (F_11_fault_0 M) ((F_12_fault_0 M).2) hp)
def F__law__538 (g : Gl) (k23 : Int32 → Mem → Oc) (x4 : Int32) (xs0 : Int32) (xs1 : Int32) (M : Mem) : Oc := if xs1 = xs0 then (F__law__2461 g k23 x4 M) else (.inl (some (.int 0), M))
def P__law__538 (g : Gl) (pk23 : Int32 → Mem → Prop) (x4 : Int32) (xs0 : Int32) (xs1 : Int32) (M : Mem) : Prop := ((xs1 = xs0 → P__law__2461 g pk23 x4 M) ∧ (¬ xs1 = xs0 → True))
theorem T__law__538 {g : Gl} {cx : Nat} (k23 : Int32 → Mem → Oc) (pk23 : Int32 → Mem → Prop) (ih23 : ∀ (x4 : Int32) (M : Mem), pk23 x4 M → Rc g 68 cx mL_law_ 23 [some (.ref 5000000), some (.ref 1558), some (.ref 0), some (.ref 1557), some (.int x4), none, none, none] [] M ((k23 x4 M))) (x4 : Int32) (xs0 : Int32) (xs1 : Int32) (M : Mem) (hp : P__law__538 g pk23 x4 xs0 xs1 M) : Rc g 68 cx mL_law_ 538 [some (.ref 5000000), some (.ref 1558), some (.ref 0), some (.ref 1557), some (.int x4), none, none, none] [.int xs0, .int xs1] M ((F__law__538 g k23 x4 xs0 xs1 M)) := by
  rw [F__law__538]
  rw [P__law__538] at hp
  refine b_law__538  (fun h => ?_) (fun h => ?_)
  · rw [if_pos h]
    have hp := hp.1 h
    exact R_cw (by omega) (T__law__2461 k23 pk23 ih23 x4 M hp)
  · rw [if_neg h]
    exact b_law__541  rfl
def F__law__534 (g : Gl) (k23 : Int32 → Mem → Oc) (x4 : Int32) (xs0 : Int32) (M : Mem) : Oc := F__law__538 g k23 x4 ((F_12_undo_0 M).1) xs0 ((F_12_undo_0 M).2)
def P__law__534 (g : Gl) (pk23 : Int32 → Mem → Prop) (x4 : Int32) (xs0 : Int32) (M : Mem) : Prop := ((P_12_undo_0 M) ∧ (P__law__538 g pk23 x4 ((F_12_undo_0 M).1) xs0 ((F_12_undo_0 M).2)))
theorem T__law__534 {g : Gl} {cx : Nat} (k23 : Int32 → Mem → Oc) (pk23 : Int32 → Mem → Prop) (ih23 : ∀ (x4 : Int32) (M : Mem), pk23 x4 M → Rc g 68 cx mL_law_ 23 [some (.ref 5000000), some (.ref 1558), some (.ref 0), some (.ref 1557), some (.int x4), none, none, none] [] M ((k23 x4 M))) (x4 : Int32) (xs0 : Int32) (M : Mem) (hp : P__law__534 g pk23 x4 xs0 M) : Rc g 68 cx mL_law_ 534 [some (.ref 5000000), some (.ref 1558), some (.ref 0), some (.ref 1557), some (.int x4), none, none, none] [.int xs0] M ((F__law__534 g k23 x4 xs0 M)) := by
  rw [F__law__534]
  rw [P__law__534] at hp
  obtain ⟨hc, hp⟩ := hp
  refine b_law__534  (C_12_undo  M hc) (Nat.le_of_ble_eq_true rfl) ?_
  exact R_cw (by omega) (T__law__538 k23 pk23 ih23 x4 ((F_12_undo_0 M).1) xs0 ((F_12_undo_0 M).2) hp)
def F__law__530 (g : Gl) (k23 : Int32 → Mem → Oc) (x4 : Int32) (M : Mem) : Oc := F__law__534 g k23 x4 ((F_11_undo_0 M).1) ((F_11_undo_0 M).2)
def P__law__530 (g : Gl) (pk23 : Int32 → Mem → Prop) (x4 : Int32) (M : Mem) : Prop := ((P_11_undo_0 M) ∧ (P__law__534 g pk23 x4 ((F_11_undo_0 M).1) ((F_11_undo_0 M).2)))
theorem T__law__530 {g : Gl} {cx : Nat} (k23 : Int32 → Mem → Oc) (pk23 : Int32 → Mem → Prop) (ih23 : ∀ (x4 : Int32) (M : Mem), pk23 x4 M → Rc g 68 cx mL_law_ 23 [some (.ref 5000000), some (.ref 1558), some (.ref 0), some (.ref 1557), some (.int x4), none, none, none] [] M ((k23 x4 M))) (x4 : Int32) (M : Mem) (hp : P__law__530 g pk23 x4 M) : Rc g 68 cx mL_law_ 530 [some (.ref 5000000), some (.ref 1558), some (.ref 0), some (.ref 1557), some (.int x4), none, none, none] [] M ((F__law__530 g k23 x4 M)) := by
  rw [F__law__530]
  rw [P__law__530] at hp
  obtain ⟨hc, hp⟩ := hp
  refine b_law__530  (C_11_undo  M hc) (Nat.le_of_ble_eq_true rfl) ?_
  exact R_cw (by omega) (T__law__534 k23 pk23 ih23 x4 ((F_11_undo_0 M).1) ((F_11_undo_0 M).2) hp)
def F__law__596 (g : Gl) (k23 : Int32 → Mem → Oc) (x4 : Int32) (M : Mem) : Oc := F__law__2461 g k23 x4 M
def P__law__596 (g : Gl) (pk23 : Int32 → Mem → Prop) (x4 : Int32) (M : Mem) : Prop := (P__law__2461 g pk23 x4 M)
theorem T__law__596 {g : Gl} {cx : Nat} (k23 : Int32 → Mem → Oc) (pk23 : Int32 → Mem → Prop) (ih23 : ∀ (x4 : Int32) (M : Mem), pk23 x4 M → Rc g 68 cx mL_law_ 23 [some (.ref 5000000), some (.ref 1558), some (.ref 0), some (.ref 1557), some (.int x4), none, none, none] [] M ((k23 x4 M))) (x4 : Int32) (M : Mem) (hp : P__law__596 g pk23 x4 M) : Rc g 68 cx mL_law_ 596 [some (.ref 5000000), some (.ref 1558), some (.ref 0), some (.ref 1557), some (.int x4), none, none, none] [] M ((F__law__596 g k23 x4 M)) := by
  rw [F__law__596]
  rw [P__law__596] at hp
  refine b_law__596  ?_
  exact R_cw (by omega) (T__law__2461 k23 pk23 ih23 x4 M hp)
def F__law__566 (g : Gl) (k23 : Int32 → Mem → Oc) (x4 : Int32) (x5 : Int32) (xs0 : Int32) (M : Mem) : Oc := if (F_12_thrown_0 M) = x5 then (if x5 = 0 then (if (lg_cmp (rl M 1557 ((0 : Int32).toNatClampNeg)) xs0.toInt64) = 0 then (F__law__596 g k23 x4 M) else (.inl (some (.int 0), M))) else (F__law__596 g k23 x4 M)) else (.inl (some (.int 0), M))
def P__law__566 (g : Gl) (pk23 : Int32 → Mem → Prop) (x4 : Int32) (x5 : Int32) (xs0 : Int32) (M : Mem) : Prop := (((((F_12_thrown_0 M) = x5 → ((¬ x5 = 0 → P__law__596 g pk23 x4 M) ∧ (x5 = 0 → (((lg_cmp (rl M 1557 ((0 : Int32).toNatClampNeg)) xs0.toInt64) = 0 → P__law__596 g pk23 x4 M) ∧ (¬ (lg_cmp (rl M 1557 ((0 : Int32).toNatClampNeg)) xs0.toInt64) = 0 → True))))) ∧ (¬ (F_12_thrown_0 M) = x5 → True))))
theorem T__law__566 {g : Gl} {cx : Nat} (k23 : Int32 → Mem → Oc) (pk23 : Int32 → Mem → Prop) (ih23 : ∀ (x4 : Int32) (M : Mem), pk23 x4 M → Rc g 68 cx mL_law_ 23 [some (.ref 5000000), some (.ref 1558), some (.ref 0), some (.ref 1557), some (.int x4), none, none, none] [] M ((k23 x4 M))) (x4 : Int32) (x5 : Int32) (xs0 : Int32) (M : Mem) (hp : P__law__566 g pk23 x4 x5 xs0 M) : Rc g 68 cx mL_law_ 566 [some (.ref 5000000), some (.ref 1558), some (.ref 0), some (.ref 1557), some (.int x4), some (.int x5), none, none] [.int xs0] M ((F__law__566 g k23 x4 x5 xs0 M)) := by
  rw [F__law__566]
  rw [P__law__566] at hp
  refine b_law__566  (C_12_thrown  M) (Nat.le_of_ble_eq_true rfl) ?_
  refine b_law__572  (fun h => ?_) (fun h => ?_)
  · rw [if_pos h]
    have hp := hp.1 h
    refine b_law__579  (fun h => ?_) (fun h => ?_)
    · rw [if_neg h]
      have hp := hp.1 h
      exact R_cw (by omega) (T__law__596 k23 pk23 ih23 x4 M hp)
    · rw [if_pos h]
      have hp := hp.2 h
      refine b_law__584 (vpl (by decide)) (fun h => ?_) (fun h => ?_)
      · rw [if_pos h]
        have hp := hp.1 h
        exact R_cw (by omega) (T__law__596 k23 pk23 ih23 x4 M hp)
      · rw [if_neg h]
        exact b_law__594  rfl
  · rw [if_neg h]
    exact b_law__577  rfl
def F__law__554 (g : Gl) (k23 : Int32 → Mem → Oc) (x4 : Int32) (xs0 : Int32) (M : Mem) : Oc := F__law__566 g k23 x4 xs0 ((F_12_told_0 (scX g ((x4 + 1).toNatClampNeg)) M).1) ((F_12_told_0 (scX g ((x4 + 1).toNatClampNeg)) M).2)
def P__law__554 (g : Gl) (pk23 : Int32 → Mem → Prop) (x4 : Int32) (xs0 : Int32) (M : Mem) : Prop := (vp_in (x4 + 1) (g.2.2.2 5000001)) ∧ (((P_12_told_0 (scX g ((x4 + 1).toNatClampNeg)) M) ∧ (P__law__566 g pk23 x4 xs0 ((F_12_told_0 (scX g ((x4 + 1).toNatClampNeg)) M).1) ((F_12_told_0 (scX g ((x4 + 1).toNatClampNeg)) M).2))))
theorem T__law__554 {g : Gl} {cx : Nat} (k23 : Int32 → Mem → Oc) (pk23 : Int32 → Mem → Prop) (ih23 : ∀ (x4 : Int32) (M : Mem), pk23 x4 M → Rc g 68 cx mL_law_ 23 [some (.ref 5000000), some (.ref 1558), some (.ref 0), some (.ref 1557), some (.int x4), none, none, none] [] M ((k23 x4 M))) (x4 : Int32) (xs0 : Int32) (M : Mem) (hp : P__law__554 g pk23 x4 xs0 M) : Rc g 68 cx mL_law_ 554 [some (.ref 5000000), some (.ref 1558), some (.ref 0), some (.ref 1557), some (.int x4), none, none, none] [.int xs0] M ((F__law__554 g k23 x4 xs0 M)) := by
  rw [F__law__554]
  rw [P__law__554] at hp
  obtain ⟨p0, hp⟩ := hp
  refine b_law__554 p0 ?_
  obtain ⟨hc, hp⟩ := hp
  refine b_law__563  (C_12_told (scX g ((x4 + 1).toNatClampNeg)) M hc) (Nat.le_of_ble_eq_true rfl) ?_
  exact R_cw (by omega) (T__law__566 k23 pk23 ih23 x4 xs0 ((F_12_told_0 (scX g ((x4 + 1).toNatClampNeg)) M).1) ((F_12_told_0 (scX g ((x4 + 1).toNatClampNeg)) M).2) hp)
def F__law__543 (g : Gl) (k23 : Int32 → Mem → Oc) (x4 : Int32) (M : Mem) : Oc := F__law__554 g k23 x4 ((W_told (scX g ((x4 + 1).toNatClampNeg)) M).1) ((W_told (scX g ((x4 + 1).toNatClampNeg)) M).2)
def P__law__543 (g : Gl) (pk23 : Int32 → Mem → Prop) (x4 : Int32) (M : Mem) : Prop := (vp_in (x4 + 1) (g.2.2.2 5000001)) ∧ (((Q_told (scX g ((x4 + 1).toNatClampNeg)) M) ∧ (P__law__554 g pk23 x4 ((W_told (scX g ((x4 + 1).toNatClampNeg)) M).1) ((W_told (scX g ((x4 + 1).toNatClampNeg)) M).2))))
theorem T__law__543 {g : Gl} {cx : Nat} (k23 : Int32 → Mem → Oc) (pk23 : Int32 → Mem → Prop) (ih23 : ∀ (x4 : Int32) (M : Mem), pk23 x4 M → Rc g 68 cx mL_law_ 23 [some (.ref 5000000), some (.ref 1558), some (.ref 0), some (.ref 1557), some (.int x4), none, none, none] [] M ((k23 x4 M))) (x4 : Int32) (M : Mem) (hp : P__law__543 g pk23 x4 M) : Rc g 68 (cx + 8) mL_law_ 543 [some (.ref 5000000), some (.ref 1558), some (.ref 0), some (.ref 1557), some (.int x4), none, none, none] [] M ((F__law__543 g k23 x4 M)) := by
  rw [F__law__543]
  rw [P__law__543] at hp
  obtain ⟨p0, hp⟩ := hp
  refine b_law__543 p0 ?_
  obtain ⟨hc, hp⟩ := hp
  refine R_cw (cx := cx + 1) (by omega) (b_law__550 (cx := cx)  (CW_told (scX g ((x4 + 1).toNatClampNeg)) M hc) (Nat.le_of_ble_eq_true rfl) ?_)
  exact R_cw (by omega) (T__law__554 k23 pk23 ih23 x4 ((W_told (scX g ((x4 + 1).toNatClampNeg)) M).1) ((W_told (scX g ((x4 + 1).toNatClampNeg)) M).2) hp)
def F__law__664 (g : Gl) (k23 : Int32 → Mem → Oc) (x4 : Int32) (M : Mem) : Oc := F__law__2461 g k23 x4 M
def P__law__664 (g : Gl) (pk23 : Int32 → Mem → Prop) (x4 : Int32) (M : Mem) : Prop := (P__law__2461 g pk23 x4 M)
theorem T__law__664 {g : Gl} {cx : Nat} (k23 : Int32 → Mem → Oc) (pk23 : Int32 → Mem → Prop) (ih23 : ∀ (x4 : Int32) (M : Mem), pk23 x4 M → Rc g 68 cx mL_law_ 23 [some (.ref 5000000), some (.ref 1558), some (.ref 0), some (.ref 1557), some (.int x4), none, none, none] [] M ((k23 x4 M))) (x4 : Int32) (M : Mem) (hp : P__law__664 g pk23 x4 M) : Rc g 68 cx mL_law_ 664 [some (.ref 5000000), some (.ref 1558), some (.ref 0), some (.ref 1557), some (.int x4), none, none, none] [] M ((F__law__664 g k23 x4 M)) := by
  rw [F__law__664]
  rw [P__law__664] at hp
  refine b_law__664  ?_
  exact R_cw (by omega) (T__law__2461 k23 pk23 ih23 x4 M hp)
def F__law__634 (g : Gl) (k23 : Int32 → Mem → Oc) (x4 : Int32) (x5 : Int32) (xs0 : Int32) (M : Mem) : Oc := if (F_12_thrown_0 M) = x5 then (if x5 = 0 then (if (lg_cmp (rl M 1557 ((0 : Int32).toNatClampNeg)) xs0.toInt64) = 0 then (F__law__664 g k23 x4 M) else (.inl (some (.int 0), M))) else (F__law__664 g k23 x4 M)) else (.inl (some (.int 0), M))
def P__law__634 (g : Gl) (pk23 : Int32 → Mem → Prop) (x4 : Int32) (x5 : Int32) (xs0 : Int32) (M : Mem) : Prop := (((((F_12_thrown_0 M) = x5 → ((¬ x5 = 0 → P__law__664 g pk23 x4 M) ∧ (x5 = 0 → (((lg_cmp (rl M 1557 ((0 : Int32).toNatClampNeg)) xs0.toInt64) = 0 → P__law__664 g pk23 x4 M) ∧ (¬ (lg_cmp (rl M 1557 ((0 : Int32).toNatClampNeg)) xs0.toInt64) = 0 → True))))) ∧ (¬ (F_12_thrown_0 M) = x5 → True))))
theorem T__law__634 {g : Gl} {cx : Nat} (k23 : Int32 → Mem → Oc) (pk23 : Int32 → Mem → Prop) (ih23 : ∀ (x4 : Int32) (M : Mem), pk23 x4 M → Rc g 68 cx mL_law_ 23 [some (.ref 5000000), some (.ref 1558), some (.ref 0), some (.ref 1557), some (.int x4), none, none, none] [] M ((k23 x4 M))) (x4 : Int32) (x5 : Int32) (xs0 : Int32) (M : Mem) (hp : P__law__634 g pk23 x4 x5 xs0 M) : Rc g 68 cx mL_law_ 634 [some (.ref 5000000), some (.ref 1558), some (.ref 0), some (.ref 1557), some (.int x4), some (.int x5), none, none] [.int xs0] M ((F__law__634 g k23 x4 x5 xs0 M)) := by
  rw [F__law__634]
  rw [P__law__634] at hp
  refine b_law__634  (C_12_thrown  M) (Nat.le_of_ble_eq_true rfl) ?_
  refine b_law__640  (fun h => ?_) (fun h => ?_)
  · rw [if_pos h]
    have hp := hp.1 h
    refine b_law__647  (fun h => ?_) (fun h => ?_)
    · rw [if_neg h]
      have hp := hp.1 h
      exact R_cw (by omega) (T__law__664 k23 pk23 ih23 x4 M hp)
    · rw [if_pos h]
      have hp := hp.2 h
      refine b_law__652 (vpl (by decide)) (fun h => ?_) (fun h => ?_)
      · rw [if_pos h]
        have hp := hp.1 h
        exact R_cw (by omega) (T__law__664 k23 pk23 ih23 x4 M hp)
      · rw [if_neg h]
        exact b_law__662  rfl
  · rw [if_neg h]
    exact b_law__645  rfl
def F__law__616 (g : Gl) (k23 : Int32 → Mem → Oc) (x4 : Int32) (xs0 : Int32) (M : Mem) : Oc := F__law__634 g k23 x4 xs0 ((F_12_room_0 (scX g ((x4 + 1).toNatClampNeg)) (scX g ((x4 + 2).toNatClampNeg)) M).1) ((F_12_room_0 (scX g ((x4 + 1).toNatClampNeg)) (scX g ((x4 + 2).toNatClampNeg)) M).2)
def P__law__616 (g : Gl) (pk23 : Int32 → Mem → Prop) (x4 : Int32) (xs0 : Int32) (M : Mem) : Prop := (vp_in (x4 + 1) (g.2.2.2 5000001)) ∧ ((vp_in (x4 + 2) (g.2.2.2 5000001)) ∧ (((P_12_room_0 (scX g ((x4 + 1).toNatClampNeg)) (scX g ((x4 + 2).toNatClampNeg)) M) ∧ (P__law__634 g pk23 x4 xs0 ((F_12_room_0 (scX g ((x4 + 1).toNatClampNeg)) (scX g ((x4 + 2).toNatClampNeg)) M).1) ((F_12_room_0 (scX g ((x4 + 1).toNatClampNeg)) (scX g ((x4 + 2).toNatClampNeg)) M).2)))))
theorem T__law__616 {g : Gl} {cx : Nat} (k23 : Int32 → Mem → Oc) (pk23 : Int32 → Mem → Prop) (ih23 : ∀ (x4 : Int32) (M : Mem), pk23 x4 M → Rc g 68 cx mL_law_ 23 [some (.ref 5000000), some (.ref 1558), some (.ref 0), some (.ref 1557), some (.int x4), none, none, none] [] M ((k23 x4 M))) (x4 : Int32) (xs0 : Int32) (M : Mem) (hp : P__law__616 g pk23 x4 xs0 M) : Rc g 68 cx mL_law_ 616 [some (.ref 5000000), some (.ref 1558), some (.ref 0), some (.ref 1557), some (.int x4), none, none, none] [.int xs0] M ((F__law__616 g k23 x4 xs0 M)) := by
  rw [F__law__616]
  rw [P__law__616] at hp
  obtain ⟨p0, hp⟩ := hp
  refine b_law__616 p0 ?_
  obtain ⟨p1, hp⟩ := hp
  refine b_law__625 p1 ?_
  obtain ⟨hc, hp⟩ := hp
  refine b_law__631  (C_12_room (scX g ((x4 + 1).toNatClampNeg)) (scX g ((x4 + 2).toNatClampNeg)) M hc) (Nat.le_of_ble_eq_true rfl) ?_
  exact R_cw (by omega) (T__law__634 k23 pk23 ih23 x4 xs0 ((F_12_room_0 (scX g ((x4 + 1).toNatClampNeg)) (scX g ((x4 + 2).toNatClampNeg)) M).1) ((F_12_room_0 (scX g ((x4 + 1).toNatClampNeg)) (scX g ((x4 + 2).toNatClampNeg)) M).2) hp)
def F__law__599 (g : Gl) (k23 : Int32 → Mem → Oc) (x4 : Int32) (M : Mem) : Oc := F__law__616 g k23 x4 ((W_room (scX g ((x4 + 1).toNatClampNeg)) (scX g ((x4 + 2).toNatClampNeg)) M).1) ((W_room (scX g ((x4 + 1).toNatClampNeg)) (scX g ((x4 + 2).toNatClampNeg)) M).2)
def P__law__599 (g : Gl) (pk23 : Int32 → Mem → Prop) (x4 : Int32) (M : Mem) : Prop := (vp_in (x4 + 1) (g.2.2.2 5000001)) ∧ ((vp_in (x4 + 2) (g.2.2.2 5000001)) ∧ (((Q_room (scX g ((x4 + 1).toNatClampNeg)) (scX g ((x4 + 2).toNatClampNeg)) M) ∧ (P__law__616 g pk23 x4 ((W_room (scX g ((x4 + 1).toNatClampNeg)) (scX g ((x4 + 2).toNatClampNeg)) M).1) ((W_room (scX g ((x4 + 1).toNatClampNeg)) (scX g ((x4 + 2).toNatClampNeg)) M).2)))))
theorem T__law__599 {g : Gl} {cx : Nat} (k23 : Int32 → Mem → Oc) (pk23 : Int32 → Mem → Prop) (ih23 : ∀ (x4 : Int32) (M : Mem), pk23 x4 M → Rc g 68 cx mL_law_ 23 [some (.ref 5000000), some (.ref 1558), some (.ref 0), some (.ref 1557), some (.int x4), none, none, none] [] M ((k23 x4 M))) (x4 : Int32) (M : Mem) (hp : P__law__599 g pk23 x4 M) : Rc g 68 (cx + 8) mL_law_ 599 [some (.ref 5000000), some (.ref 1558), some (.ref 0), some (.ref 1557), some (.int x4), none, none, none] [] M ((F__law__599 g k23 x4 M)) := by
  rw [F__law__599]
  rw [P__law__599] at hp
  obtain ⟨p0, hp⟩ := hp
  refine b_law__599 p0 ?_
  obtain ⟨p1, hp⟩ := hp
  refine b_law__606 p1 ?_
  obtain ⟨hc, hp⟩ := hp
  refine R_cw (cx := cx + 2) (by omega) (b_law__612 (cx := cx)  (CW_room (scX g ((x4 + 1).toNatClampNeg)) (scX g ((x4 + 2).toNatClampNeg)) M hc) (Nat.le_of_ble_eq_true rfl) ?_)
  exact R_cw (by omega) (T__law__616 k23 pk23 ih23 x4 ((W_room (scX g ((x4 + 1).toNatClampNeg)) (scX g ((x4 + 2).toNatClampNeg)) M).1) ((W_room (scX g ((x4 + 1).toNatClampNeg)) (scX g ((x4 + 2).toNatClampNeg)) M).2) hp)
def F__law__732 (g : Gl) (k23 : Int32 → Mem → Oc) (x4 : Int32) (M : Mem) : Oc := F__law__2461 g k23 x4 M
def P__law__732 (g : Gl) (pk23 : Int32 → Mem → Prop) (x4 : Int32) (M : Mem) : Prop := (P__law__2461 g pk23 x4 M)
theorem T__law__732 {g : Gl} {cx : Nat} (k23 : Int32 → Mem → Oc) (pk23 : Int32 → Mem → Prop) (ih23 : ∀ (x4 : Int32) (M : Mem), pk23 x4 M → Rc g 68 cx mL_law_ 23 [some (.ref 5000000), some (.ref 1558), some (.ref 0), some (.ref 1557), some (.int x4), none, none, none] [] M ((k23 x4 M))) (x4 : Int32) (M : Mem) (hp : P__law__732 g pk23 x4 M) : Rc g 68 cx mL_law_ 732 [some (.ref 5000000), some (.ref 1558), some (.ref 0), some (.ref 1557), some (.int x4), none, none, none] [] M ((F__law__732 g k23 x4 M)) := by
  rw [F__law__732]
  rw [P__law__732] at hp
  refine b_law__732  ?_
  exact R_cw (by omega) (T__law__2461 k23 pk23 ih23 x4 M hp)
def F__law__702 (g : Gl) (k23 : Int32 → Mem → Oc) (x4 : Int32) (x5 : Int32) (xs0 : Int32) (M : Mem) : Oc := if (F_12_thrown_0 M) = x5 then (if x5 = 0 then (if (lg_cmp (rl M 1557 ((0 : Int32).toNatClampNeg)) xs0.toInt64) = 0 then (F__law__732 g k23 x4 M) else (.inl (some (.int 0), M))) else (F__law__732 g k23 x4 M)) else (.inl (some (.int 0), M))
def P__law__702 (g : Gl) (pk23 : Int32 → Mem → Prop) (x4 : Int32) (x5 : Int32) (xs0 : Int32) (M : Mem) : Prop := (((((F_12_thrown_0 M) = x5 → ((¬ x5 = 0 → P__law__732 g pk23 x4 M) ∧ (x5 = 0 → (((lg_cmp (rl M 1557 ((0 : Int32).toNatClampNeg)) xs0.toInt64) = 0 → P__law__732 g pk23 x4 M) ∧ (¬ (lg_cmp (rl M 1557 ((0 : Int32).toNatClampNeg)) xs0.toInt64) = 0 → True))))) ∧ (¬ (F_12_thrown_0 M) = x5 → True))))
theorem T__law__702 {g : Gl} {cx : Nat} (k23 : Int32 → Mem → Oc) (pk23 : Int32 → Mem → Prop) (ih23 : ∀ (x4 : Int32) (M : Mem), pk23 x4 M → Rc g 68 cx mL_law_ 23 [some (.ref 5000000), some (.ref 1558), some (.ref 0), some (.ref 1557), some (.int x4), none, none, none] [] M ((k23 x4 M))) (x4 : Int32) (x5 : Int32) (xs0 : Int32) (M : Mem) (hp : P__law__702 g pk23 x4 x5 xs0 M) : Rc g 68 cx mL_law_ 702 [some (.ref 5000000), some (.ref 1558), some (.ref 0), some (.ref 1557), some (.int x4), some (.int x5), none, none] [.int xs0] M ((F__law__702 g k23 x4 x5 xs0 M)) := by
  rw [F__law__702]
  rw [P__law__702] at hp
  refine b_law__702  (C_12_thrown  M) (Nat.le_of_ble_eq_true rfl) ?_
  refine b_law__708  (fun h => ?_) (fun h => ?_)
  · rw [if_pos h]
    have hp := hp.1 h
    refine b_law__715  (fun h => ?_) (fun h => ?_)
    · rw [if_neg h]
      have hp := hp.1 h
      exact R_cw (by omega) (T__law__732 k23 pk23 ih23 x4 M hp)
    · rw [if_pos h]
      have hp := hp.2 h
      refine b_law__720 (vpl (by decide)) (fun h => ?_) (fun h => ?_)
      · rw [if_pos h]
        have hp := hp.1 h
        exact R_cw (by omega) (T__law__732 k23 pk23 ih23 x4 M hp)
      · rw [if_neg h]
        exact b_law__730  rfl
  · rw [if_neg h]
    exact b_law__713  rfl
def F__law__684 (g : Gl) (k23 : Int32 → Mem → Oc) (x4 : Int32) (xs0 : Int32) (M : Mem) : Oc := F__law__702 g k23 x4 xs0 ((F_12_door_0 (scX g ((x4 + 1).toNatClampNeg)) (scX g ((x4 + 2).toNatClampNeg)) M).1) ((F_12_door_0 (scX g ((x4 + 1).toNatClampNeg)) (scX g ((x4 + 2).toNatClampNeg)) M).2)
def P__law__684 (g : Gl) (pk23 : Int32 → Mem → Prop) (x4 : Int32) (xs0 : Int32) (M : Mem) : Prop := (vp_in (x4 + 1) (g.2.2.2 5000001)) ∧ ((vp_in (x4 + 2) (g.2.2.2 5000001)) ∧ (((P_12_door_0 (scX g ((x4 + 1).toNatClampNeg)) (scX g ((x4 + 2).toNatClampNeg)) M) ∧ (P__law__702 g pk23 x4 xs0 ((F_12_door_0 (scX g ((x4 + 1).toNatClampNeg)) (scX g ((x4 + 2).toNatClampNeg)) M).1) ((F_12_door_0 (scX g ((x4 + 1).toNatClampNeg)) (scX g ((x4 + 2).toNatClampNeg)) M).2)))))
theorem T__law__684 {g : Gl} {cx : Nat} (k23 : Int32 → Mem → Oc) (pk23 : Int32 → Mem → Prop) (ih23 : ∀ (x4 : Int32) (M : Mem), pk23 x4 M → Rc g 68 cx mL_law_ 23 [some (.ref 5000000), some (.ref 1558), some (.ref 0), some (.ref 1557), some (.int x4), none, none, none] [] M ((k23 x4 M))) (x4 : Int32) (xs0 : Int32) (M : Mem) (hp : P__law__684 g pk23 x4 xs0 M) : Rc g 68 cx mL_law_ 684 [some (.ref 5000000), some (.ref 1558), some (.ref 0), some (.ref 1557), some (.int x4), none, none, none] [.int xs0] M ((F__law__684 g k23 x4 xs0 M)) := by
  rw [F__law__684]
  rw [P__law__684] at hp
  obtain ⟨p0, hp⟩ := hp
  refine b_law__684 p0 ?_
  obtain ⟨p1, hp⟩ := hp
  refine b_law__693 p1 ?_
  obtain ⟨hc, hp⟩ := hp
  refine b_law__699  (C_12_door (scX g ((x4 + 1).toNatClampNeg)) (scX g ((x4 + 2).toNatClampNeg)) M hc) (Nat.le_of_ble_eq_true rfl) ?_
  exact R_cw (by omega) (T__law__702 k23 pk23 ih23 x4 xs0 ((F_12_door_0 (scX g ((x4 + 1).toNatClampNeg)) (scX g ((x4 + 2).toNatClampNeg)) M).1) ((F_12_door_0 (scX g ((x4 + 1).toNatClampNeg)) (scX g ((x4 + 2).toNatClampNeg)) M).2) hp)
def F__law__667 (g : Gl) (k23 : Int32 → Mem → Oc) (x4 : Int32) (M : Mem) : Oc := F__law__684 g k23 x4 ((W_door (scX g ((x4 + 1).toNatClampNeg)) (scX g ((x4 + 2).toNatClampNeg)) M).1) ((W_door (scX g ((x4 + 1).toNatClampNeg)) (scX g ((x4 + 2).toNatClampNeg)) M).2)
def P__law__667 (g : Gl) (pk23 : Int32 → Mem → Prop) (x4 : Int32) (M : Mem) : Prop := (vp_in (x4 + 1) (g.2.2.2 5000001)) ∧ ((vp_in (x4 + 2) (g.2.2.2 5000001)) ∧ (((Q_door (scX g ((x4 + 1).toNatClampNeg)) (scX g ((x4 + 2).toNatClampNeg)) M) ∧ (P__law__684 g pk23 x4 ((W_door (scX g ((x4 + 1).toNatClampNeg)) (scX g ((x4 + 2).toNatClampNeg)) M).1) ((W_door (scX g ((x4 + 1).toNatClampNeg)) (scX g ((x4 + 2).toNatClampNeg)) M).2)))))
theorem T__law__667 {g : Gl} {cx : Nat} (k23 : Int32 → Mem → Oc) (pk23 : Int32 → Mem → Prop) (ih23 : ∀ (x4 : Int32) (M : Mem), pk23 x4 M → Rc g 68 cx mL_law_ 23 [some (.ref 5000000), some (.ref 1558), some (.ref 0), some (.ref 1557), some (.int x4), none, none, none] [] M ((k23 x4 M))) (x4 : Int32) (M : Mem) (hp : P__law__667 g pk23 x4 M) : Rc g 68 (cx + 8) mL_law_ 667 [some (.ref 5000000), some (.ref 1558), some (.ref 0), some (.ref 1557), some (.int x4), none, none, none] [] M ((F__law__667 g k23 x4 M)) := by
  rw [F__law__667]
  rw [P__law__667] at hp
  obtain ⟨p0, hp⟩ := hp
  refine b_law__667 p0 ?_
  obtain ⟨p1, hp⟩ := hp
  refine b_law__674 p1 ?_
  obtain ⟨hc, hp⟩ := hp
  refine R_cw (cx := cx + 2) (by omega) (b_law__680 (cx := cx)  (CW_door (scX g ((x4 + 1).toNatClampNeg)) (scX g ((x4 + 2).toNatClampNeg)) M hc) (Nat.le_of_ble_eq_true rfl) ?_)
  exact R_cw (by omega) (T__law__684 k23 pk23 ih23 x4 ((W_door (scX g ((x4 + 1).toNatClampNeg)) (scX g ((x4 + 2).toNatClampNeg)) M).1) ((W_door (scX g ((x4 + 1).toNatClampNeg)) (scX g ((x4 + 2).toNatClampNeg)) M).2) hp)
def F__law__788 (g : Gl) (k23 : Int32 → Mem → Oc) (x4 : Int32) (M : Mem) : Oc := F__law__2461 g k23 x4 M
def P__law__788 (g : Gl) (pk23 : Int32 → Mem → Prop) (x4 : Int32) (M : Mem) : Prop := (P__law__2461 g pk23 x4 M)
theorem T__law__788 {g : Gl} {cx : Nat} (k23 : Int32 → Mem → Oc) (pk23 : Int32 → Mem → Prop) (ih23 : ∀ (x4 : Int32) (M : Mem), pk23 x4 M → Rc g 68 cx mL_law_ 23 [some (.ref 5000000), some (.ref 1558), some (.ref 0), some (.ref 1557), some (.int x4), none, none, none] [] M ((k23 x4 M))) (x4 : Int32) (M : Mem) (hp : P__law__788 g pk23 x4 M) : Rc g 68 cx mL_law_ 788 [some (.ref 5000000), some (.ref 1558), some (.ref 0), some (.ref 1557), some (.int x4), none, none, none] [] M ((F__law__788 g k23 x4 M)) := by
  rw [F__law__788]
  rw [P__law__788] at hp
  refine b_law__788  ?_
  exact R_cw (by omega) (T__law__2461 k23 pk23 ih23 x4 M hp)
def F__law__758 (g : Gl) (k23 : Int32 → Mem → Oc) (x4 : Int32) (x5 : Int32) (xs0 : Int32) (M : Mem) : Oc := if (F_12_thrown_0 M) = x5 then (if x5 = 0 then (if (lg_cmp (rl M 1557 ((0 : Int32).toNatClampNeg)) xs0.toInt64) = 0 then (F__law__788 g k23 x4 M) else (.inl (some (.int 0), M))) else (F__law__788 g k23 x4 M)) else (.inl (some (.int 0), M))
def P__law__758 (g : Gl) (pk23 : Int32 → Mem → Prop) (x4 : Int32) (x5 : Int32) (xs0 : Int32) (M : Mem) : Prop := (((((F_12_thrown_0 M) = x5 → ((¬ x5 = 0 → P__law__788 g pk23 x4 M) ∧ (x5 = 0 → (((lg_cmp (rl M 1557 ((0 : Int32).toNatClampNeg)) xs0.toInt64) = 0 → P__law__788 g pk23 x4 M) ∧ (¬ (lg_cmp (rl M 1557 ((0 : Int32).toNatClampNeg)) xs0.toInt64) = 0 → True))))) ∧ (¬ (F_12_thrown_0 M) = x5 → True))))
theorem T__law__758 {g : Gl} {cx : Nat} (k23 : Int32 → Mem → Oc) (pk23 : Int32 → Mem → Prop) (ih23 : ∀ (x4 : Int32) (M : Mem), pk23 x4 M → Rc g 68 cx mL_law_ 23 [some (.ref 5000000), some (.ref 1558), some (.ref 0), some (.ref 1557), some (.int x4), none, none, none] [] M ((k23 x4 M))) (x4 : Int32) (x5 : Int32) (xs0 : Int32) (M : Mem) (hp : P__law__758 g pk23 x4 x5 xs0 M) : Rc g 68 cx mL_law_ 758 [some (.ref 5000000), some (.ref 1558), some (.ref 0), some (.ref 1557), some (.int x4), some (.int x5), none, none] [.int xs0] M ((F__law__758 g k23 x4 x5 xs0 M)) := by
  rw [F__law__758]
  rw [P__law__758] at hp
  refine b_law__758  (C_12_thrown  M) (Nat.le_of_ble_eq_true rfl) ?_
  refine b_law__764  (fun h => ?_) (fun h => ?_)
  · rw [if_pos h]
    have hp := hp.1 h
    refine b_law__771  (fun h => ?_) (fun h => ?_)
    · rw [if_neg h]
      have hp := hp.1 h
      exact R_cw (by omega) (T__law__788 k23 pk23 ih23 x4 M hp)
    · rw [if_pos h]
      have hp := hp.2 h
      refine b_law__776 (vpl (by decide)) (fun h => ?_) (fun h => ?_)
      · rw [if_pos h]
        have hp := hp.1 h
        exact R_cw (by omega) (T__law__788 k23 pk23 ih23 x4 M hp)
      · rw [if_neg h]
        exact b_law__786  rfl
  · rw [if_neg h]
    exact b_law__769  rfl
def F__law__746 (g : Gl) (k23 : Int32 → Mem → Oc) (x4 : Int32) (xs0 : Int32) (M : Mem) : Oc := F__law__758 g k23 x4 xs0 ((F_12_tour_0 (scX g ((x4 + 1).toNatClampNeg)) M).1) ((F_12_tour_0 (scX g ((x4 + 1).toNatClampNeg)) M).2)
def P__law__746 (g : Gl) (pk23 : Int32 → Mem → Prop) (x4 : Int32) (xs0 : Int32) (M : Mem) : Prop := (vp_in (x4 + 1) (g.2.2.2 5000001)) ∧ (((P_12_tour_0 (scX g ((x4 + 1).toNatClampNeg)) M) ∧ (P__law__758 g pk23 x4 xs0 ((F_12_tour_0 (scX g ((x4 + 1).toNatClampNeg)) M).1) ((F_12_tour_0 (scX g ((x4 + 1).toNatClampNeg)) M).2))))
theorem T__law__746 {g : Gl} {cx : Nat} (k23 : Int32 → Mem → Oc) (pk23 : Int32 → Mem → Prop) (ih23 : ∀ (x4 : Int32) (M : Mem), pk23 x4 M → Rc g 68 cx mL_law_ 23 [some (.ref 5000000), some (.ref 1558), some (.ref 0), some (.ref 1557), some (.int x4), none, none, none] [] M ((k23 x4 M))) (x4 : Int32) (xs0 : Int32) (M : Mem) (hp : P__law__746 g pk23 x4 xs0 M) : Rc g 68 cx mL_law_ 746 [some (.ref 5000000), some (.ref 1558), some (.ref 0), some (.ref 1557), some (.int x4), none, none, none] [.int xs0] M ((F__law__746 g k23 x4 xs0 M)) := by
  rw [F__law__746]
  rw [P__law__746] at hp
  obtain ⟨p0, hp⟩ := hp
  refine b_law__746 p0 ?_
  obtain ⟨hc, hp⟩ := hp
  refine b_law__755  (C_12_tour (scX g ((x4 + 1).toNatClampNeg)) M hc) (Nat.le_of_ble_eq_true rfl) ?_
  exact R_cw (by omega) (T__law__758 k23 pk23 ih23 x4 xs0 ((F_12_tour_0 (scX g ((x4 + 1).toNatClampNeg)) M).1) ((F_12_tour_0 (scX g ((x4 + 1).toNatClampNeg)) M).2) hp)
def F__law__735 (g : Gl) (k23 : Int32 → Mem → Oc) (x4 : Int32) (M : Mem) : Oc := F__law__746 g k23 x4 ((W_tour (scX g ((x4 + 1).toNatClampNeg)) M).1) ((W_tour (scX g ((x4 + 1).toNatClampNeg)) M).2)
def P__law__735 (g : Gl) (pk23 : Int32 → Mem → Prop) (x4 : Int32) (M : Mem) : Prop := (vp_in (x4 + 1) (g.2.2.2 5000001)) ∧ (((Q_tour (scX g ((x4 + 1).toNatClampNeg)) M) ∧ (P__law__746 g pk23 x4 ((W_tour (scX g ((x4 + 1).toNatClampNeg)) M).1) ((W_tour (scX g ((x4 + 1).toNatClampNeg)) M).2))))
theorem T__law__735 {g : Gl} {cx : Nat} (k23 : Int32 → Mem → Oc) (pk23 : Int32 → Mem → Prop) (ih23 : ∀ (x4 : Int32) (M : Mem), pk23 x4 M → Rc g 68 cx mL_law_ 23 [some (.ref 5000000), some (.ref 1558), some (.ref 0), some (.ref 1557), some (.int x4), none, none, none] [] M ((k23 x4 M))) (x4 : Int32) (M : Mem) (hp : P__law__735 g pk23 x4 M) : Rc g 68 (cx + 8) mL_law_ 735 [some (.ref 5000000), some (.ref 1558), some (.ref 0), some (.ref 1557), some (.int x4), none, none, none] [] M ((F__law__735 g k23 x4 M)) := by
  rw [F__law__735]
  rw [P__law__735] at hp
  obtain ⟨p0, hp⟩ := hp
  refine b_law__735 p0 ?_
  obtain ⟨hc, hp⟩ := hp
  refine R_cw (cx := cx + 1) (by omega) (b_law__742 (cx := cx)  (CW_tour (scX g ((x4 + 1).toNatClampNeg)) M hc) (Nat.le_of_ble_eq_true rfl) ?_)
  exact R_cw (by omega) (T__law__746 k23 pk23 ih23 x4 ((W_tour (scX g ((x4 + 1).toNatClampNeg)) M).1) ((W_tour (scX g ((x4 + 1).toNatClampNeg)) M).2) hp)
def F__law__875 (g : Gl) (k23 : Int32 → Mem → Oc) (x4 : Int32) (M : Mem) : Oc := F__law__2461 g k23 x4 M
def P__law__875 (g : Gl) (pk23 : Int32 → Mem → Prop) (x4 : Int32) (M : Mem) : Prop := (P__law__2461 g pk23 x4 M)
theorem T__law__875 {g : Gl} {cx : Nat} (k23 : Int32 → Mem → Oc) (pk23 : Int32 → Mem → Prop) (ih23 : ∀ (x4 : Int32) (M : Mem), pk23 x4 M → Rc g 68 cx mL_law_ 23 [some (.ref 5000000), some (.ref 1558), some (.ref 0), some (.ref 1557), some (.int x4), none, none, none] [] M ((k23 x4 M))) (x4 : Int32) (M : Mem) (hp : P__law__875 g pk23 x4 M) : Rc g 68 cx mL_law_ 875 [some (.ref 5000000), some (.ref 1558), some (.ref 0), some (.ref 1557), some (.int x4), none, none, none] [] M ((F__law__875 g k23 x4 M)) := by
  rw [F__law__875]
  rw [P__law__875] at hp
  refine b_law__875  ?_
  exact R_cw (by omega) (T__law__2461 k23 pk23 ih23 x4 M hp)
def F__law__869 (g : Gl) (k23 : Int32 → Mem → Oc) (x4 : Int32) (ys0 : Int64) (ys1 : Int64) (M : Mem) : Oc := if (lg_cmp ys1 ys0) = 0 then (F__law__875 g k23 x4 M) else (.inl (some (.int 0), M))
def P__law__869 (g : Gl) (pk23 : Int32 → Mem → Prop) (x4 : Int32) (ys0 : Int64) (ys1 : Int64) (M : Mem) : Prop := (((lg_cmp ys1 ys0) = 0 → P__law__875 g pk23 x4 M) ∧ (¬ (lg_cmp ys1 ys0) = 0 → True))
theorem T__law__869 {g : Gl} {cx : Nat} (k23 : Int32 → Mem → Oc) (pk23 : Int32 → Mem → Prop) (ih23 : ∀ (x4 : Int32) (M : Mem), pk23 x4 M → Rc g 68 cx mL_law_ 23 [some (.ref 5000000), some (.ref 1558), some (.ref 0), some (.ref 1557), some (.int x4), none, none, none] [] M ((k23 x4 M))) (x4 : Int32) (ys0 : Int64) (ys1 : Int64) (M : Mem) (hp : P__law__869 g pk23 x4 ys0 ys1 M) : Rc g 68 cx mL_law_ 869 [some (.ref 5000000), some (.ref 1558), some (.ref 0), some (.ref 1557), some (.int x4), none, none, none] [.long ys0, .long ys1] M ((F__law__869 g k23 x4 ys0 ys1 M)) := by
  rw [F__law__869]
  rw [P__law__869] at hp
  refine b_law__869  (fun h => ?_) (fun h => ?_)
  · rw [if_pos h]
    have hp := hp.1 h
    exact R_cw (by omega) (T__law__875 k23 pk23 ih23 x4 M hp)
  · rw [if_neg h]
    exact b_law__873  rfl
def F__law__838 (g : Gl) (k23 : Int32 → Mem → Oc) (x4 : Int32) (x5 : Int32) (xs0 : Int32) (M : Mem) : Oc := if (F_12_thrown_0 M) = x5 then (if x5 = 0 then (if xs0 = 0 then (F__law__869 g k23 x4 0 (rl M 1557 ((0 : Int32).toNatClampNeg)) M) else (F__law__869 g k23 x4 1 (rl M 1557 ((0 : Int32).toNatClampNeg)) M)) else (F__law__875 g k23 x4 M)) else (.inl (some (.int 0), M))
def P__law__838 (g : Gl) (pk23 : Int32 → Mem → Prop) (x4 : Int32) (x5 : Int32) (xs0 : Int32) (M : Mem) : Prop := (((((F_12_thrown_0 M) = x5 → ((¬ x5 = 0 → P__law__875 g pk23 x4 M) ∧ (x5 = 0 → ((xs0 = 0 → (P__law__869 g pk23 x4 0 (rl M 1557 ((0 : Int32).toNatClampNeg)) M)) ∧ (¬ xs0 = 0 → (P__law__869 g pk23 x4 1 (rl M 1557 ((0 : Int32).toNatClampNeg)) M)))))) ∧ (¬ (F_12_thrown_0 M) = x5 → True))))
theorem T__law__838 {g : Gl} {cx : Nat} (k23 : Int32 → Mem → Oc) (pk23 : Int32 → Mem → Prop) (ih23 : ∀ (x4 : Int32) (M : Mem), pk23 x4 M → Rc g 68 cx mL_law_ 23 [some (.ref 5000000), some (.ref 1558), some (.ref 0), some (.ref 1557), some (.int x4), none, none, none] [] M ((k23 x4 M))) (x4 : Int32) (x5 : Int32) (xs0 : Int32) (M : Mem) (hp : P__law__838 g pk23 x4 x5 xs0 M) : Rc g 68 cx mL_law_ 838 [some (.ref 5000000), some (.ref 1558), some (.ref 0), some (.ref 1557), some (.int x4), some (.int x5), none, none] [.int xs0] M ((F__law__838 g k23 x4 x5 xs0 M)) := by
  rw [F__law__838]
  rw [P__law__838] at hp
  refine b_law__838  (C_12_thrown  M) (Nat.le_of_ble_eq_true rfl) ?_
  refine b_law__844  (fun h => ?_) (fun h => ?_)
  · rw [if_pos h]
    have hp := hp.1 h
    refine b_law__851  (fun h => ?_) (fun h => ?_)
    · rw [if_neg h]
      have hp := hp.1 h
      exact R_cw (by omega) (T__law__875 k23 pk23 ih23 x4 M hp)
    · rw [if_pos h]
      have hp := hp.2 h
      refine b_law__856 (vpl (by decide)) (fun h => ?_) (fun h => ?_)
      · rw [if_pos h]
        have hp := hp.1 h
        refine b_law__868  ?_
        exact R_cw (by omega) (T__law__869 k23 pk23 ih23 x4 0 (rl M 1557 ((0 : Int32).toNatClampNeg)) M hp)
      · rw [if_neg h]
        have hp := hp.2 h
        refine b_law__864  ?_
        exact R_cw (by omega) (T__law__869 k23 pk23 ih23 x4 1 (rl M 1557 ((0 : Int32).toNatClampNeg)) M hp)
  · rw [if_neg h]
    exact b_law__849  rfl
def F__law__814 (g : Gl) (k23 : Int32 → Mem → Oc) (x4 : Int32) (xs0 : Int32) (M : Mem) : Oc := F__law__838 g k23 x4 xs0 ((F_12_open_0 (scX g ((x4 + 1).toNatClampNeg)) (scX g ((x4 + 2).toNatClampNeg)) (scX g ((x4 + 3).toNatClampNeg)) M).1) ((F_12_open_0 (scX g ((x4 + 1).toNatClampNeg)) (scX g ((x4 + 2).toNatClampNeg)) (scX g ((x4 + 3).toNatClampNeg)) M).2)
def P__law__814 (g : Gl) (pk23 : Int32 → Mem → Prop) (x4 : Int32) (xs0 : Int32) (M : Mem) : Prop := (vp_in (x4 + 1) (g.2.2.2 5000001)) ∧ ((vp_in (x4 + 2) (g.2.2.2 5000001)) ∧ ((vp_in (x4 + 3) (g.2.2.2 5000001)) ∧ (((P_12_open_0 (scX g ((x4 + 1).toNatClampNeg)) (scX g ((x4 + 2).toNatClampNeg)) (scX g ((x4 + 3).toNatClampNeg)) M) ∧ (P__law__838 g pk23 x4 xs0 ((F_12_open_0 (scX g ((x4 + 1).toNatClampNeg)) (scX g ((x4 + 2).toNatClampNeg)) (scX g ((x4 + 3).toNatClampNeg)) M).1) ((F_12_open_0 (scX g ((x4 + 1).toNatClampNeg)) (scX g ((x4 + 2).toNatClampNeg)) (scX g ((x4 + 3).toNatClampNeg)) M).2))))))
theorem T__law__814 {g : Gl} {cx : Nat} (k23 : Int32 → Mem → Oc) (pk23 : Int32 → Mem → Prop) (ih23 : ∀ (x4 : Int32) (M : Mem), pk23 x4 M → Rc g 68 cx mL_law_ 23 [some (.ref 5000000), some (.ref 1558), some (.ref 0), some (.ref 1557), some (.int x4), none, none, none] [] M ((k23 x4 M))) (x4 : Int32) (xs0 : Int32) (M : Mem) (hp : P__law__814 g pk23 x4 xs0 M) : Rc g 68 cx mL_law_ 814 [some (.ref 5000000), some (.ref 1558), some (.ref 0), some (.ref 1557), some (.int x4), none, none, none] [.int xs0] M ((F__law__814 g k23 x4 xs0 M)) := by
  rw [F__law__814]
  rw [P__law__814] at hp
  obtain ⟨p0, hp⟩ := hp
  refine b_law__814 p0 ?_
  obtain ⟨p1, hp⟩ := hp
  refine b_law__823 p1 ?_
  obtain ⟨p2, hp⟩ := hp
  refine b_law__829 p2 ?_
  obtain ⟨hc, hp⟩ := hp
  refine b_law__835  (C_12_open (scX g ((x4 + 1).toNatClampNeg)) (scX g ((x4 + 2).toNatClampNeg)) (scX g ((x4 + 3).toNatClampNeg)) M hc) (Nat.le_of_ble_eq_true rfl) ?_
  exact R_cw (by omega) (T__law__838 k23 pk23 ih23 x4 xs0 ((F_12_open_0 (scX g ((x4 + 1).toNatClampNeg)) (scX g ((x4 + 2).toNatClampNeg)) (scX g ((x4 + 3).toNatClampNeg)) M).1) ((F_12_open_0 (scX g ((x4 + 1).toNatClampNeg)) (scX g ((x4 + 2).toNatClampNeg)) (scX g ((x4 + 3).toNatClampNeg)) M).2) hp)
def F__law__791 (g : Gl) (k23 : Int32 → Mem → Oc) (x4 : Int32) (M : Mem) : Oc := F__law__814 g k23 x4 ((W_open (scX g ((x4 + 1).toNatClampNeg)) (scX g ((x4 + 2).toNatClampNeg)) (scX g ((x4 + 3).toNatClampNeg)) M).1) ((W_open (scX g ((x4 + 1).toNatClampNeg)) (scX g ((x4 + 2).toNatClampNeg)) (scX g ((x4 + 3).toNatClampNeg)) M).2)
def P__law__791 (g : Gl) (pk23 : Int32 → Mem → Prop) (x4 : Int32) (M : Mem) : Prop := (vp_in (x4 + 1) (g.2.2.2 5000001)) ∧ ((vp_in (x4 + 2) (g.2.2.2 5000001)) ∧ ((vp_in (x4 + 3) (g.2.2.2 5000001)) ∧ (((Q_open (scX g ((x4 + 1).toNatClampNeg)) (scX g ((x4 + 2).toNatClampNeg)) (scX g ((x4 + 3).toNatClampNeg)) M) ∧ (P__law__814 g pk23 x4 ((W_open (scX g ((x4 + 1).toNatClampNeg)) (scX g ((x4 + 2).toNatClampNeg)) (scX g ((x4 + 3).toNatClampNeg)) M).1) ((W_open (scX g ((x4 + 1).toNatClampNeg)) (scX g ((x4 + 2).toNatClampNeg)) (scX g ((x4 + 3).toNatClampNeg)) M).2))))))
theorem T__law__791 {g : Gl} {cx : Nat} (k23 : Int32 → Mem → Oc) (pk23 : Int32 → Mem → Prop) (ih23 : ∀ (x4 : Int32) (M : Mem), pk23 x4 M → Rc g 68 cx mL_law_ 23 [some (.ref 5000000), some (.ref 1558), some (.ref 0), some (.ref 1557), some (.int x4), none, none, none] [] M ((k23 x4 M))) (x4 : Int32) (M : Mem) (hp : P__law__791 g pk23 x4 M) : Rc g 68 (cx + 8) mL_law_ 791 [some (.ref 5000000), some (.ref 1558), some (.ref 0), some (.ref 1557), some (.int x4), none, none, none] [] M ((F__law__791 g k23 x4 M)) := by
  rw [F__law__791]
  rw [P__law__791] at hp
  obtain ⟨p0, hp⟩ := hp
  refine b_law__791 p0 ?_
  obtain ⟨p1, hp⟩ := hp
  refine b_law__798 p1 ?_
  obtain ⟨p2, hp⟩ := hp
  refine b_law__804 p2 ?_
  obtain ⟨hc, hp⟩ := hp
  refine R_cw (cx := cx + 3) (by omega) (b_law__810 (cx := cx)  (CW_open (scX g ((x4 + 1).toNatClampNeg)) (scX g ((x4 + 2).toNatClampNeg)) (scX g ((x4 + 3).toNatClampNeg)) M hc) (Nat.le_of_ble_eq_true rfl) ?_)
  exact R_cw (by omega) (T__law__814 k23 pk23 ih23 x4 ((W_open (scX g ((x4 + 1).toNatClampNeg)) (scX g ((x4 + 2).toNatClampNeg)) (scX g ((x4 + 3).toNatClampNeg)) M).1) ((W_open (scX g ((x4 + 1).toNatClampNeg)) (scX g ((x4 + 2).toNatClampNeg)) (scX g ((x4 + 3).toNatClampNeg)) M).2) hp)
def F__law__886 (g : Gl) (k23 : Int32 → Mem → Oc) (x4 : Int32) (xs0 : Int32) (xs1 : Int32) (M : Mem) : Oc := if xs1 = xs0 then (F__law__2461 g k23 x4 M) else (.inl (some (.int 0), M))
def P__law__886 (g : Gl) (pk23 : Int32 → Mem → Prop) (x4 : Int32) (xs0 : Int32) (xs1 : Int32) (M : Mem) : Prop := ((xs1 = xs0 → P__law__2461 g pk23 x4 M) ∧ (¬ xs1 = xs0 → True))
theorem T__law__886 {g : Gl} {cx : Nat} (k23 : Int32 → Mem → Oc) (pk23 : Int32 → Mem → Prop) (ih23 : ∀ (x4 : Int32) (M : Mem), pk23 x4 M → Rc g 68 cx mL_law_ 23 [some (.ref 5000000), some (.ref 1558), some (.ref 0), some (.ref 1557), some (.int x4), none, none, none] [] M ((k23 x4 M))) (x4 : Int32) (xs0 : Int32) (xs1 : Int32) (M : Mem) (hp : P__law__886 g pk23 x4 xs0 xs1 M) : Rc g 68 cx mL_law_ 886 [some (.ref 5000000), some (.ref 1558), some (.ref 0), some (.ref 1557), some (.int x4), none, none, none] [.int xs0, .int xs1] M ((F__law__886 g k23 x4 xs0 xs1 M)) := by
  rw [F__law__886]
  rw [P__law__886] at hp
  refine b_law__886  (fun h => ?_) (fun h => ?_)
  · rw [if_pos h]
    have hp := hp.1 h
    exact R_cw (by omega) (T__law__2461 k23 pk23 ih23 x4 M hp)
  · rw [if_neg h]
    exact b_law__889  rfl
def F__law__882 (g : Gl) (k23 : Int32 → Mem → Oc) (x4 : Int32) (xs0 : Int32) (M : Mem) : Oc := F__law__886 g k23 x4 ((F_12_fits_0 M).1) xs0 ((F_12_fits_0 M).2)
def P__law__882 (g : Gl) (pk23 : Int32 → Mem → Prop) (x4 : Int32) (xs0 : Int32) (M : Mem) : Prop := ((P_12_fits_0 M) ∧ (P__law__886 g pk23 x4 ((F_12_fits_0 M).1) xs0 ((F_12_fits_0 M).2)))
theorem T__law__882 {g : Gl} {cx : Nat} (k23 : Int32 → Mem → Oc) (pk23 : Int32 → Mem → Prop) (ih23 : ∀ (x4 : Int32) (M : Mem), pk23 x4 M → Rc g 68 cx mL_law_ 23 [some (.ref 5000000), some (.ref 1558), some (.ref 0), some (.ref 1557), some (.int x4), none, none, none] [] M ((k23 x4 M))) (x4 : Int32) (xs0 : Int32) (M : Mem) (hp : P__law__882 g pk23 x4 xs0 M) : Rc g 68 cx mL_law_ 882 [some (.ref 5000000), some (.ref 1558), some (.ref 0), some (.ref 1557), some (.int x4), none, none, none] [.int xs0] M ((F__law__882 g k23 x4 xs0 M)) := by
  rw [F__law__882]
  rw [P__law__882] at hp
  obtain ⟨hc, hp⟩ := hp
  refine b_law__882  (C_12_fits  M hc) (Nat.le_of_ble_eq_true rfl) ?_
  exact R_cw (by omega) (T__law__886 k23 pk23 ih23 x4 ((F_12_fits_0 M).1) xs0 ((F_12_fits_0 M).2) hp)
def F__law__878 (g : Gl) (k23 : Int32 → Mem → Oc) (x4 : Int32) (M : Mem) : Oc := F__law__882 g k23 x4 ((F_11_fits_0 M).1) ((F_11_fits_0 M).2)
def P__law__878 (g : Gl) (pk23 : Int32 → Mem → Prop) (x4 : Int32) (M : Mem) : Prop := ((P_11_fits_0 M) ∧ (P__law__882 g pk23 x4 ((F_11_fits_0 M).1) ((F_11_fits_0 M).2)))
theorem T__law__878 {g : Gl} {cx : Nat} (k23 : Int32 → Mem → Oc) (pk23 : Int32 → Mem → Prop) (ih23 : ∀ (x4 : Int32) (M : Mem), pk23 x4 M → Rc g 68 cx mL_law_ 23 [some (.ref 5000000), some (.ref 1558), some (.ref 0), some (.ref 1557), some (.int x4), none, none, none] [] M ((k23 x4 M))) (x4 : Int32) (M : Mem) (hp : P__law__878 g pk23 x4 M) : Rc g 68 cx mL_law_ 878 [some (.ref 5000000), some (.ref 1558), some (.ref 0), some (.ref 1557), some (.int x4), none, none, none] [] M ((F__law__878 g k23 x4 M)) := by
  rw [F__law__878]
  rw [P__law__878] at hp
  obtain ⟨hc, hp⟩ := hp
  refine b_law__878  (C_11_fits  M hc) (Nat.le_of_ble_eq_true rfl) ?_
  exact R_cw (by omega) (T__law__882 k23 pk23 ih23 x4 ((F_11_fits_0 M).1) ((F_11_fits_0 M).2) hp)
def F__law__899 (g : Gl) (k23 : Int32 → Mem → Oc) (x4 : Int32) (xs0 : Int32) (xs1 : Int32) (M : Mem) : Oc := if xs1 = xs0 then (F__law__2461 g k23 x4 M) else (.inl (some (.int 0), M))
def P__law__899 (g : Gl) (pk23 : Int32 → Mem → Prop) (x4 : Int32) (xs0 : Int32) (xs1 : Int32) (M : Mem) : Prop := ((xs1 = xs0 → P__law__2461 g pk23 x4 M) ∧ (¬ xs1 = xs0 → True))
theorem T__law__899 {g : Gl} {cx : Nat} (k23 : Int32 → Mem → Oc) (pk23 : Int32 → Mem → Prop) (ih23 : ∀ (x4 : Int32) (M : Mem), pk23 x4 M → Rc g 68 cx mL_law_ 23 [some (.ref 5000000), some (.ref 1558), some (.ref 0), some (.ref 1557), some (.int x4), none, none, none] [] M ((k23 x4 M))) (x4 : Int32) (xs0 : Int32) (xs1 : Int32) (M : Mem) (hp : P__law__899 g pk23 x4 xs0 xs1 M) : Rc g 68 cx mL_law_ 899 [some (.ref 5000000), some (.ref 1558), some (.ref 0), some (.ref 1557), some (.int x4), none, none, none] [.int xs0, .int xs1] M ((F__law__899 g k23 x4 xs0 xs1 M)) := by
  rw [F__law__899]
  rw [P__law__899] at hp
  refine b_law__899  (fun h => ?_) (fun h => ?_)
  · rw [if_pos h]
    have hp := hp.1 h
    exact R_cw (by omega) (T__law__2461 k23 pk23 ih23 x4 M hp)
  · rw [if_neg h]
    exact b_law__902  rfl
def F__law__895 (g : Gl) (k23 : Int32 → Mem → Oc) (x4 : Int32) (xs0 : Int32) (M : Mem) : Oc := F__law__899 g k23 x4 ((F_12_knows_0 M).1) xs0 ((F_12_knows_0 M).2)
def P__law__895 (g : Gl) (pk23 : Int32 → Mem → Prop) (x4 : Int32) (xs0 : Int32) (M : Mem) : Prop := ((P_12_knows_0 M) ∧ (P__law__899 g pk23 x4 ((F_12_knows_0 M).1) xs0 ((F_12_knows_0 M).2)))
theorem T__law__895 {g : Gl} {cx : Nat} (k23 : Int32 → Mem → Oc) (pk23 : Int32 → Mem → Prop) (ih23 : ∀ (x4 : Int32) (M : Mem), pk23 x4 M → Rc g 68 cx mL_law_ 23 [some (.ref 5000000), some (.ref 1558), some (.ref 0), some (.ref 1557), some (.int x4), none, none, none] [] M ((k23 x4 M))) (x4 : Int32) (xs0 : Int32) (M : Mem) (hp : P__law__895 g pk23 x4 xs0 M) : Rc g 68 cx mL_law_ 895 [some (.ref 5000000), some (.ref 1558), some (.ref 0), some (.ref 1557), some (.int x4), none, none, none] [.int xs0] M ((F__law__895 g k23 x4 xs0 M)) := by
  rw [F__law__895]
  rw [P__law__895] at hp
  obtain ⟨hc, hp⟩ := hp
  refine b_law__895  (C_12_knows  M hc) (Nat.le_of_ble_eq_true rfl) ?_
  exact R_cw (by omega) (T__law__899 k23 pk23 ih23 x4 ((F_12_knows_0 M).1) xs0 ((F_12_knows_0 M).2) hp)
def F__law__891 (g : Gl) (k23 : Int32 → Mem → Oc) (x4 : Int32) (M : Mem) : Oc := F__law__895 g k23 x4 ((F_11_knows_0 M).1) ((F_11_knows_0 M).2)
def P__law__891 (g : Gl) (pk23 : Int32 → Mem → Prop) (x4 : Int32) (M : Mem) : Prop := ((P_11_knows_0 M) ∧ (P__law__895 g pk23 x4 ((F_11_knows_0 M).1) ((F_11_knows_0 M).2)))
theorem T__law__891 {g : Gl} {cx : Nat} (k23 : Int32 → Mem → Oc) (pk23 : Int32 → Mem → Prop) (ih23 : ∀ (x4 : Int32) (M : Mem), pk23 x4 M → Rc g 68 cx mL_law_ 23 [some (.ref 5000000), some (.ref 1558), some (.ref 0), some (.ref 1557), some (.int x4), none, none, none] [] M ((k23 x4 M))) (x4 : Int32) (M : Mem) (hp : P__law__891 g pk23 x4 M) : Rc g 68 cx mL_law_ 891 [some (.ref 5000000), some (.ref 1558), some (.ref 0), some (.ref 1557), some (.int x4), none, none, none] [] M ((F__law__891 g k23 x4 M)) := by
  rw [F__law__891]
  rw [P__law__891] at hp
  obtain ⟨hc, hp⟩ := hp
  refine b_law__891  (C_11_knows  M hc) (Nat.le_of_ble_eq_true rfl) ?_
  exact R_cw (by omega) (T__law__895 k23 pk23 ih23 x4 ((F_11_knows_0 M).1) ((F_11_knows_0 M).2) hp)
def F__law__957 (g : Gl) (k23 : Int32 → Mem → Oc) (x4 : Int32) (M : Mem) : Oc := F__law__2461 g k23 x4 M
def P__law__957 (g : Gl) (pk23 : Int32 → Mem → Prop) (x4 : Int32) (M : Mem) : Prop := (P__law__2461 g pk23 x4 M)
theorem T__law__957 {g : Gl} {cx : Nat} (k23 : Int32 → Mem → Oc) (pk23 : Int32 → Mem → Prop) (ih23 : ∀ (x4 : Int32) (M : Mem), pk23 x4 M → Rc g 68 cx mL_law_ 23 [some (.ref 5000000), some (.ref 1558), some (.ref 0), some (.ref 1557), some (.int x4), none, none, none] [] M ((k23 x4 M))) (x4 : Int32) (M : Mem) (hp : P__law__957 g pk23 x4 M) : Rc g 68 cx mL_law_ 957 [some (.ref 5000000), some (.ref 1558), some (.ref 0), some (.ref 1557), some (.int x4), none, none, none] [] M ((F__law__957 g k23 x4 M)) := by
  rw [F__law__957]
  rw [P__law__957] at hp
  refine b_law__957  ?_
  exact R_cw (by omega) (T__law__2461 k23 pk23 ih23 x4 M hp)
def F__law__927 (g : Gl) (k23 : Int32 → Mem → Oc) (x4 : Int32) (x5 : Int32) (xs0 : Int32) (M : Mem) : Oc := if (F_12_thrown_0 M) = x5 then (if x5 = 0 then (if (lg_cmp (rl M 1557 ((0 : Int32).toNatClampNeg)) xs0.toInt64) = 0 then (F__law__957 g k23 x4 M) else (.inl (some (.int 0), M))) else (F__law__957 g k23 x4 M)) else (.inl (some (.int 0), M))
def P__law__927 (g : Gl) (pk23 : Int32 → Mem → Prop) (x4 : Int32) (x5 : Int32) (xs0 : Int32) (M : Mem) : Prop := (((((F_12_thrown_0 M) = x5 → ((¬ x5 = 0 → P__law__957 g pk23 x4 M) ∧ (x5 = 0 → (((lg_cmp (rl M 1557 ((0 : Int32).toNatClampNeg)) xs0.toInt64) = 0 → P__law__957 g pk23 x4 M) ∧ (¬ (lg_cmp (rl M 1557 ((0 : Int32).toNatClampNeg)) xs0.toInt64) = 0 → True))))) ∧ (¬ (F_12_thrown_0 M) = x5 → True))))
theorem T__law__927 {g : Gl} {cx : Nat} (k23 : Int32 → Mem → Oc) (pk23 : Int32 → Mem → Prop) (ih23 : ∀ (x4 : Int32) (M : Mem), pk23 x4 M → Rc g 68 cx mL_law_ 23 [some (.ref 5000000), some (.ref 1558), some (.ref 0), some (.ref 1557), some (.int x4), none, none, none] [] M ((k23 x4 M))) (x4 : Int32) (x5 : Int32) (xs0 : Int32) (M : Mem) (hp : P__law__927 g pk23 x4 x5 xs0 M) : Rc g 68 cx mL_law_ 927 [some (.ref 5000000), some (.ref 1558), some (.ref 0), some (.ref 1557), some (.int x4), some (.int x5), none, none] [.int xs0] M ((F__law__927 g k23 x4 x5 xs0 M)) := by
  rw [F__law__927]
  rw [P__law__927] at hp
  refine b_law__927  (C_12_thrown  M) (Nat.le_of_ble_eq_true rfl) ?_
  refine b_law__933  (fun h => ?_) (fun h => ?_)
  · rw [if_pos h]
    have hp := hp.1 h
    refine b_law__940  (fun h => ?_) (fun h => ?_)
    · rw [if_neg h]
      have hp := hp.1 h
      exact R_cw (by omega) (T__law__957 k23 pk23 ih23 x4 M hp)
    · rw [if_pos h]
      have hp := hp.2 h
      refine b_law__945 (vpl (by decide)) (fun h => ?_) (fun h => ?_)
      · rw [if_pos h]
        have hp := hp.1 h
        exact R_cw (by omega) (T__law__957 k23 pk23 ih23 x4 M hp)
      · rw [if_neg h]
        exact b_law__955  rfl
  · rw [if_neg h]
    exact b_law__938  rfl
def F__law__915 (g : Gl) (k23 : Int32 → Mem → Oc) (x4 : Int32) (xs0 : Int32) (M : Mem) : Oc := F__law__927 g k23 x4 xs0 ((F_12_slips_0 (scX g ((x4 + 1).toNatClampNeg)) M).1) ((F_12_slips_0 (scX g ((x4 + 1).toNatClampNeg)) M).2)
def P__law__915 (g : Gl) (pk23 : Int32 → Mem → Prop) (x4 : Int32) (xs0 : Int32) (M : Mem) : Prop := (vp_in (x4 + 1) (g.2.2.2 5000001)) ∧ (((P_12_slips_0 (scX g ((x4 + 1).toNatClampNeg)) M) ∧ (P__law__927 g pk23 x4 xs0 ((F_12_slips_0 (scX g ((x4 + 1).toNatClampNeg)) M).1) ((F_12_slips_0 (scX g ((x4 + 1).toNatClampNeg)) M).2))))
theorem T__law__915 {g : Gl} {cx : Nat} (k23 : Int32 → Mem → Oc) (pk23 : Int32 → Mem → Prop) (ih23 : ∀ (x4 : Int32) (M : Mem), pk23 x4 M → Rc g 68 cx mL_law_ 23 [some (.ref 5000000), some (.ref 1558), some (.ref 0), some (.ref 1557), some (.int x4), none, none, none] [] M ((k23 x4 M))) (x4 : Int32) (xs0 : Int32) (M : Mem) (hp : P__law__915 g pk23 x4 xs0 M) : Rc g 68 cx mL_law_ 915 [some (.ref 5000000), some (.ref 1558), some (.ref 0), some (.ref 1557), some (.int x4), none, none, none] [.int xs0] M ((F__law__915 g k23 x4 xs0 M)) := by
  rw [F__law__915]
  rw [P__law__915] at hp
  obtain ⟨p0, hp⟩ := hp
  refine b_law__915 p0 ?_
  obtain ⟨hc, hp⟩ := hp
  refine b_law__924  (C_12_slips (scX g ((x4 + 1).toNatClampNeg)) M hc) (Nat.le_of_ble_eq_true rfl) ?_
  exact R_cw (by omega) (T__law__927 k23 pk23 ih23 x4 xs0 ((F_12_slips_0 (scX g ((x4 + 1).toNatClampNeg)) M).1) ((F_12_slips_0 (scX g ((x4 + 1).toNatClampNeg)) M).2) hp)
def F__law__904 (g : Gl) (k23 : Int32 → Mem → Oc) (x4 : Int32) (M : Mem) : Oc := F__law__915 g k23 x4 ((W_slips (scX g ((x4 + 1).toNatClampNeg)) M).1) ((W_slips (scX g ((x4 + 1).toNatClampNeg)) M).2)
def P__law__904 (g : Gl) (pk23 : Int32 → Mem → Prop) (x4 : Int32) (M : Mem) : Prop := (vp_in (x4 + 1) (g.2.2.2 5000001)) ∧ (((Q_slips (scX g ((x4 + 1).toNatClampNeg)) M) ∧ (P__law__915 g pk23 x4 ((W_slips (scX g ((x4 + 1).toNatClampNeg)) M).1) ((W_slips (scX g ((x4 + 1).toNatClampNeg)) M).2))))
theorem T__law__904 {g : Gl} {cx : Nat} (k23 : Int32 → Mem → Oc) (pk23 : Int32 → Mem → Prop) (ih23 : ∀ (x4 : Int32) (M : Mem), pk23 x4 M → Rc g 68 cx mL_law_ 23 [some (.ref 5000000), some (.ref 1558), some (.ref 0), some (.ref 1557), some (.int x4), none, none, none] [] M ((k23 x4 M))) (x4 : Int32) (M : Mem) (hp : P__law__904 g pk23 x4 M) : Rc g 68 (cx + 8) mL_law_ 904 [some (.ref 5000000), some (.ref 1558), some (.ref 0), some (.ref 1557), some (.int x4), none, none, none] [] M ((F__law__904 g k23 x4 M)) := by
  rw [F__law__904]
  rw [P__law__904] at hp
  obtain ⟨p0, hp⟩ := hp
  refine b_law__904 p0 ?_
  obtain ⟨hc, hp⟩ := hp
  refine R_cw (cx := cx + 1) (by omega) (b_law__911 (cx := cx)  (CW_slips (scX g ((x4 + 1).toNatClampNeg)) M hc) (Nat.le_of_ble_eq_true rfl) ?_)
  exact R_cw (by omega) (T__law__915 k23 pk23 ih23 x4 ((W_slips (scX g ((x4 + 1).toNatClampNeg)) M).1) ((W_slips (scX g ((x4 + 1).toNatClampNeg)) M).2) hp)
def F__law__1020 (g : Gl) (k23 : Int32 → Mem → Oc) (x4 : Int32) (M : Mem) : Oc := F__law__2461 g k23 x4 M
def P__law__1020 (g : Gl) (pk23 : Int32 → Mem → Prop) (x4 : Int32) (M : Mem) : Prop := (P__law__2461 g pk23 x4 M)
theorem T__law__1020 {g : Gl} {cx : Nat} (k23 : Int32 → Mem → Oc) (pk23 : Int32 → Mem → Prop) (ih23 : ∀ (x4 : Int32) (M : Mem), pk23 x4 M → Rc g 68 cx mL_law_ 23 [some (.ref 5000000), some (.ref 1558), some (.ref 0), some (.ref 1557), some (.int x4), none, none, none] [] M ((k23 x4 M))) (x4 : Int32) (M : Mem) (hp : P__law__1020 g pk23 x4 M) : Rc g 68 cx mL_law_ 1020 [some (.ref 5000000), some (.ref 1558), some (.ref 0), some (.ref 1557), some (.int x4), none, none, none] [] M ((F__law__1020 g k23 x4 M)) := by
  rw [F__law__1020]
  rw [P__law__1020] at hp
  refine b_law__1020  ?_
  exact R_cw (by omega) (T__law__2461 k23 pk23 ih23 x4 M hp)
def F__law__1014 (g : Gl) (k23 : Int32 → Mem → Oc) (x4 : Int32) (ys0 : Int64) (ys1 : Int64) (M : Mem) : Oc := if (lg_cmp ys1 ys0) = 0 then (F__law__1020 g k23 x4 M) else (.inl (some (.int 0), M))
def P__law__1014 (g : Gl) (pk23 : Int32 → Mem → Prop) (x4 : Int32) (ys0 : Int64) (ys1 : Int64) (M : Mem) : Prop := (((lg_cmp ys1 ys0) = 0 → P__law__1020 g pk23 x4 M) ∧ (¬ (lg_cmp ys1 ys0) = 0 → True))
theorem T__law__1014 {g : Gl} {cx : Nat} (k23 : Int32 → Mem → Oc) (pk23 : Int32 → Mem → Prop) (ih23 : ∀ (x4 : Int32) (M : Mem), pk23 x4 M → Rc g 68 cx mL_law_ 23 [some (.ref 5000000), some (.ref 1558), some (.ref 0), some (.ref 1557), some (.int x4), none, none, none] [] M ((k23 x4 M))) (x4 : Int32) (ys0 : Int64) (ys1 : Int64) (M : Mem) (hp : P__law__1014 g pk23 x4 ys0 ys1 M) : Rc g 68 cx mL_law_ 1014 [some (.ref 5000000), some (.ref 1558), some (.ref 0), some (.ref 1557), some (.int x4), none, none, none] [.long ys0, .long ys1] M ((F__law__1014 g k23 x4 ys0 ys1 M)) := by
  rw [F__law__1014]
  rw [P__law__1014] at hp
  refine b_law__1014  (fun h => ?_) (fun h => ?_)
  · rw [if_pos h]
    have hp := hp.1 h
    exact R_cw (by omega) (T__law__1020 k23 pk23 ih23 x4 M hp)
  · rw [if_neg h]
    exact b_law__1018  rfl
def F__law__983 (g : Gl) (k23 : Int32 → Mem → Oc) (x4 : Int32) (x5 : Int32) (xs0 : Int32) (M : Mem) : Oc := if (F_12_thrown_0 M) = x5 then (if x5 = 0 then (if xs0 = 0 then (F__law__1014 g k23 x4 0 (rl M 1557 ((0 : Int32).toNatClampNeg)) M) else (F__law__1014 g k23 x4 1 (rl M 1557 ((0 : Int32).toNatClampNeg)) M)) else (F__law__1020 g k23 x4 M)) else (.inl (some (.int 0), M))
def P__law__983 (g : Gl) (pk23 : Int32 → Mem → Prop) (x4 : Int32) (x5 : Int32) (xs0 : Int32) (M : Mem) : Prop := (((((F_12_thrown_0 M) = x5 → ((¬ x5 = 0 → P__law__1020 g pk23 x4 M) ∧ (x5 = 0 → ((xs0 = 0 → (P__law__1014 g pk23 x4 0 (rl M 1557 ((0 : Int32).toNatClampNeg)) M)) ∧ (¬ xs0 = 0 → (P__law__1014 g pk23 x4 1 (rl M 1557 ((0 : Int32).toNatClampNeg)) M)))))) ∧ (¬ (F_12_thrown_0 M) = x5 → True))))
theorem T__law__983 {g : Gl} {cx : Nat} (k23 : Int32 → Mem → Oc) (pk23 : Int32 → Mem → Prop) (ih23 : ∀ (x4 : Int32) (M : Mem), pk23 x4 M → Rc g 68 cx mL_law_ 23 [some (.ref 5000000), some (.ref 1558), some (.ref 0), some (.ref 1557), some (.int x4), none, none, none] [] M ((k23 x4 M))) (x4 : Int32) (x5 : Int32) (xs0 : Int32) (M : Mem) (hp : P__law__983 g pk23 x4 x5 xs0 M) : Rc g 68 cx mL_law_ 983 [some (.ref 5000000), some (.ref 1558), some (.ref 0), some (.ref 1557), some (.int x4), some (.int x5), none, none] [.int xs0] M ((F__law__983 g k23 x4 x5 xs0 M)) := by
  rw [F__law__983]
  rw [P__law__983] at hp
  refine b_law__983  (C_12_thrown  M) (Nat.le_of_ble_eq_true rfl) ?_
  refine b_law__989  (fun h => ?_) (fun h => ?_)
  · rw [if_pos h]
    have hp := hp.1 h
    refine b_law__996  (fun h => ?_) (fun h => ?_)
    · rw [if_neg h]
      have hp := hp.1 h
      exact R_cw (by omega) (T__law__1020 k23 pk23 ih23 x4 M hp)
    · rw [if_pos h]
      have hp := hp.2 h
      refine b_law__1001 (vpl (by decide)) (fun h => ?_) (fun h => ?_)
      · rw [if_pos h]
        have hp := hp.1 h
        refine b_law__1013  ?_
        exact R_cw (by omega) (T__law__1014 k23 pk23 ih23 x4 0 (rl M 1557 ((0 : Int32).toNatClampNeg)) M hp)
      · rw [if_neg h]
        have hp := hp.2 h
        refine b_law__1009  ?_
        exact R_cw (by omega) (T__law__1014 k23 pk23 ih23 x4 1 (rl M 1557 ((0 : Int32).toNatClampNeg)) M hp)
  · rw [if_neg h]
    exact b_law__994  rfl
def F__law__971 (g : Gl) (k23 : Int32 → Mem → Oc) (x4 : Int32) (xs0 : Int32) (M : Mem) : Oc := F__law__983 g k23 x4 xs0 ((F_12_ends_0 (scX g ((x4 + 1).toNatClampNeg)) M).1) ((F_12_ends_0 (scX g ((x4 + 1).toNatClampNeg)) M).2)
def P__law__971 (g : Gl) (pk23 : Int32 → Mem → Prop) (x4 : Int32) (xs0 : Int32) (M : Mem) : Prop := (vp_in (x4 + 1) (g.2.2.2 5000001)) ∧ (((P_12_ends_0 (scX g ((x4 + 1).toNatClampNeg)) M) ∧ (P__law__983 g pk23 x4 xs0 ((F_12_ends_0 (scX g ((x4 + 1).toNatClampNeg)) M).1) ((F_12_ends_0 (scX g ((x4 + 1).toNatClampNeg)) M).2))))
theorem T__law__971 {g : Gl} {cx : Nat} (k23 : Int32 → Mem → Oc) (pk23 : Int32 → Mem → Prop) (ih23 : ∀ (x4 : Int32) (M : Mem), pk23 x4 M → Rc g 68 cx mL_law_ 23 [some (.ref 5000000), some (.ref 1558), some (.ref 0), some (.ref 1557), some (.int x4), none, none, none] [] M ((k23 x4 M))) (x4 : Int32) (xs0 : Int32) (M : Mem) (hp : P__law__971 g pk23 x4 xs0 M) : Rc g 68 cx mL_law_ 971 [some (.ref 5000000), some (.ref 1558), some (.ref 0), some (.ref 1557), some (.int x4), none, none, none] [.int xs0] M ((F__law__971 g k23 x4 xs0 M)) := by
  rw [F__law__971]
  rw [P__law__971] at hp
  obtain ⟨p0, hp⟩ := hp
  refine b_law__971 p0 ?_
  obtain ⟨hc, hp⟩ := hp
  refine b_law__980  (C_12_ends (scX g ((x4 + 1).toNatClampNeg)) M hc) (Nat.le_of_ble_eq_true rfl) ?_
  exact R_cw (by omega) (T__law__983 k23 pk23 ih23 x4 xs0 ((F_12_ends_0 (scX g ((x4 + 1).toNatClampNeg)) M).1) ((F_12_ends_0 (scX g ((x4 + 1).toNatClampNeg)) M).2) hp)
def F__law__960 (g : Gl) (k23 : Int32 → Mem → Oc) (x4 : Int32) (M : Mem) : Oc := F__law__971 g k23 x4 ((W_ends (scX g ((x4 + 1).toNatClampNeg)) M).1) ((W_ends (scX g ((x4 + 1).toNatClampNeg)) M).2)
def P__law__960 (g : Gl) (pk23 : Int32 → Mem → Prop) (x4 : Int32) (M : Mem) : Prop := (vp_in (x4 + 1) (g.2.2.2 5000001)) ∧ (((Q_ends (scX g ((x4 + 1).toNatClampNeg)) M) ∧ (P__law__971 g pk23 x4 ((W_ends (scX g ((x4 + 1).toNatClampNeg)) M).1) ((W_ends (scX g ((x4 + 1).toNatClampNeg)) M).2))))
theorem T__law__960 {g : Gl} {cx : Nat} (k23 : Int32 → Mem → Oc) (pk23 : Int32 → Mem → Prop) (ih23 : ∀ (x4 : Int32) (M : Mem), pk23 x4 M → Rc g 68 cx mL_law_ 23 [some (.ref 5000000), some (.ref 1558), some (.ref 0), some (.ref 1557), some (.int x4), none, none, none] [] M ((k23 x4 M))) (x4 : Int32) (M : Mem) (hp : P__law__960 g pk23 x4 M) : Rc g 68 (cx + 8) mL_law_ 960 [some (.ref 5000000), some (.ref 1558), some (.ref 0), some (.ref 1557), some (.int x4), none, none, none] [] M ((F__law__960 g k23 x4 M)) := by
  rw [F__law__960]
  rw [P__law__960] at hp
  obtain ⟨p0, hp⟩ := hp
  refine b_law__960 p0 ?_
  obtain ⟨hc, hp⟩ := hp
  refine R_cw (cx := cx + 1) (by omega) (b_law__967 (cx := cx)  (CW_ends (scX g ((x4 + 1).toNatClampNeg)) M hc) (Nat.le_of_ble_eq_true rfl) ?_)
  exact R_cw (by omega) (T__law__971 k23 pk23 ih23 x4 ((W_ends (scX g ((x4 + 1).toNatClampNeg)) M).1) ((W_ends (scX g ((x4 + 1).toNatClampNeg)) M).2) hp)
def F__law__1088 (g : Gl) (k23 : Int32 → Mem → Oc) (x4 : Int32) (M : Mem) : Oc := F__law__2461 g k23 x4 M
def P__law__1088 (g : Gl) (pk23 : Int32 → Mem → Prop) (x4 : Int32) (M : Mem) : Prop := (P__law__2461 g pk23 x4 M)
theorem T__law__1088 {g : Gl} {cx : Nat} (k23 : Int32 → Mem → Oc) (pk23 : Int32 → Mem → Prop) (ih23 : ∀ (x4 : Int32) (M : Mem), pk23 x4 M → Rc g 68 cx mL_law_ 23 [some (.ref 5000000), some (.ref 1558), some (.ref 0), some (.ref 1557), some (.int x4), none, none, none] [] M ((k23 x4 M))) (x4 : Int32) (M : Mem) (hp : P__law__1088 g pk23 x4 M) : Rc g 68 cx mL_law_ 1088 [some (.ref 5000000), some (.ref 1558), some (.ref 0), some (.ref 1557), some (.int x4), none, none, none] [] M ((F__law__1088 g k23 x4 M)) := by
  rw [F__law__1088]
  rw [P__law__1088] at hp
  refine b_law__1088  ?_
  exact R_cw (by omega) (T__law__2461 k23 pk23 ih23 x4 M hp)
def F__law__1058 (g : Gl) (k23 : Int32 → Mem → Oc) (x4 : Int32) (x5 : Int32) (xs0 : Int32) (M : Mem) : Oc := if (F_12_thrown_0 M) = x5 then (if x5 = 0 then (if (lg_cmp (rl M 1557 ((0 : Int32).toNatClampNeg)) xs0.toInt64) = 0 then (F__law__1088 g k23 x4 M) else (.inl (some (.int 0), M))) else (F__law__1088 g k23 x4 M)) else (.inl (some (.int 0), M))
def P__law__1058 (g : Gl) (pk23 : Int32 → Mem → Prop) (x4 : Int32) (x5 : Int32) (xs0 : Int32) (M : Mem) : Prop := (((((F_12_thrown_0 M) = x5 → ((¬ x5 = 0 → P__law__1088 g pk23 x4 M) ∧ (x5 = 0 → (((lg_cmp (rl M 1557 ((0 : Int32).toNatClampNeg)) xs0.toInt64) = 0 → P__law__1088 g pk23 x4 M) ∧ (¬ (lg_cmp (rl M 1557 ((0 : Int32).toNatClampNeg)) xs0.toInt64) = 0 → True))))) ∧ (¬ (F_12_thrown_0 M) = x5 → True))))
theorem T__law__1058 {g : Gl} {cx : Nat} (k23 : Int32 → Mem → Oc) (pk23 : Int32 → Mem → Prop) (ih23 : ∀ (x4 : Int32) (M : Mem), pk23 x4 M → Rc g 68 cx mL_law_ 23 [some (.ref 5000000), some (.ref 1558), some (.ref 0), some (.ref 1557), some (.int x4), none, none, none] [] M ((k23 x4 M))) (x4 : Int32) (x5 : Int32) (xs0 : Int32) (M : Mem) (hp : P__law__1058 g pk23 x4 x5 xs0 M) : Rc g 68 cx mL_law_ 1058 [some (.ref 5000000), some (.ref 1558), some (.ref 0), some (.ref 1557), some (.int x4), some (.int x5), none, none] [.int xs0] M ((F__law__1058 g k23 x4 x5 xs0 M)) := by
  rw [F__law__1058]
  rw [P__law__1058] at hp
  refine b_law__1058  (C_12_thrown  M) (Nat.le_of_ble_eq_true rfl) ?_
  refine b_law__1064  (fun h => ?_) (fun h => ?_)
  · rw [if_pos h]
    have hp := hp.1 h
    refine b_law__1071  (fun h => ?_) (fun h => ?_)
    · rw [if_neg h]
      have hp := hp.1 h
      exact R_cw (by omega) (T__law__1088 k23 pk23 ih23 x4 M hp)
    · rw [if_pos h]
      have hp := hp.2 h
      refine b_law__1076 (vpl (by decide)) (fun h => ?_) (fun h => ?_)
      · rw [if_pos h]
        have hp := hp.1 h
        exact R_cw (by omega) (T__law__1088 k23 pk23 ih23 x4 M hp)
      · rw [if_neg h]
        exact b_law__1086  rfl
  · rw [if_neg h]
    exact b_law__1069  rfl
def F__law__1040 (g : Gl) (k23 : Int32 → Mem → Oc) (x4 : Int32) (xs0 : Int32) (M : Mem) : Oc := F__law__1058 g k23 x4 xs0 ((F_12_soon_0 (scX g ((x4 + 1).toNatClampNeg)) (scX g ((x4 + 2).toNatClampNeg)) M).1) ((F_12_soon_0 (scX g ((x4 + 1).toNatClampNeg)) (scX g ((x4 + 2).toNatClampNeg)) M).2)
def P__law__1040 (g : Gl) (pk23 : Int32 → Mem → Prop) (x4 : Int32) (xs0 : Int32) (M : Mem) : Prop := (vp_in (x4 + 1) (g.2.2.2 5000001)) ∧ ((vp_in (x4 + 2) (g.2.2.2 5000001)) ∧ (((P_12_soon_0 (scX g ((x4 + 1).toNatClampNeg)) (scX g ((x4 + 2).toNatClampNeg)) M) ∧ (P__law__1058 g pk23 x4 xs0 ((F_12_soon_0 (scX g ((x4 + 1).toNatClampNeg)) (scX g ((x4 + 2).toNatClampNeg)) M).1) ((F_12_soon_0 (scX g ((x4 + 1).toNatClampNeg)) (scX g ((x4 + 2).toNatClampNeg)) M).2)))))
theorem T__law__1040 {g : Gl} {cx : Nat} (k23 : Int32 → Mem → Oc) (pk23 : Int32 → Mem → Prop) (ih23 : ∀ (x4 : Int32) (M : Mem), pk23 x4 M → Rc g 68 cx mL_law_ 23 [some (.ref 5000000), some (.ref 1558), some (.ref 0), some (.ref 1557), some (.int x4), none, none, none] [] M ((k23 x4 M))) (x4 : Int32) (xs0 : Int32) (M : Mem) (hp : P__law__1040 g pk23 x4 xs0 M) : Rc g 68 cx mL_law_ 1040 [some (.ref 5000000), some (.ref 1558), some (.ref 0), some (.ref 1557), some (.int x4), none, none, none] [.int xs0] M ((F__law__1040 g k23 x4 xs0 M)) := by
  rw [F__law__1040]
  rw [P__law__1040] at hp
  obtain ⟨p0, hp⟩ := hp
  refine b_law__1040 p0 ?_
  obtain ⟨p1, hp⟩ := hp
  refine b_law__1049 p1 ?_
  obtain ⟨hc, hp⟩ := hp
  refine b_law__1055  (C_12_soon (scX g ((x4 + 1).toNatClampNeg)) (scX g ((x4 + 2).toNatClampNeg)) M hc) (Nat.le_of_ble_eq_true rfl) ?_
  exact R_cw (by omega) (T__law__1058 k23 pk23 ih23 x4 xs0 ((F_12_soon_0 (scX g ((x4 + 1).toNatClampNeg)) (scX g ((x4 + 2).toNatClampNeg)) M).1) ((F_12_soon_0 (scX g ((x4 + 1).toNatClampNeg)) (scX g ((x4 + 2).toNatClampNeg)) M).2) hp)
def F__law__1023 (g : Gl) (k23 : Int32 → Mem → Oc) (x4 : Int32) (M : Mem) : Oc := F__law__1040 g k23 x4 ((W_soon (scX g ((x4 + 1).toNatClampNeg)) (scX g ((x4 + 2).toNatClampNeg)) M).1) ((W_soon (scX g ((x4 + 1).toNatClampNeg)) (scX g ((x4 + 2).toNatClampNeg)) M).2)
def P__law__1023 (g : Gl) (pk23 : Int32 → Mem → Prop) (x4 : Int32) (M : Mem) : Prop := (vp_in (x4 + 1) (g.2.2.2 5000001)) ∧ ((vp_in (x4 + 2) (g.2.2.2 5000001)) ∧ (((Q_soon (scX g ((x4 + 1).toNatClampNeg)) (scX g ((x4 + 2).toNatClampNeg)) M) ∧ (P__law__1040 g pk23 x4 ((W_soon (scX g ((x4 + 1).toNatClampNeg)) (scX g ((x4 + 2).toNatClampNeg)) M).1) ((W_soon (scX g ((x4 + 1).toNatClampNeg)) (scX g ((x4 + 2).toNatClampNeg)) M).2)))))
theorem T__law__1023 {g : Gl} {cx : Nat} (k23 : Int32 → Mem → Oc) (pk23 : Int32 → Mem → Prop) (ih23 : ∀ (x4 : Int32) (M : Mem), pk23 x4 M → Rc g 68 cx mL_law_ 23 [some (.ref 5000000), some (.ref 1558), some (.ref 0), some (.ref 1557), some (.int x4), none, none, none] [] M ((k23 x4 M))) (x4 : Int32) (M : Mem) (hp : P__law__1023 g pk23 x4 M) : Rc g 68 (cx + 8) mL_law_ 1023 [some (.ref 5000000), some (.ref 1558), some (.ref 0), some (.ref 1557), some (.int x4), none, none, none] [] M ((F__law__1023 g k23 x4 M)) := by
  rw [F__law__1023]
  rw [P__law__1023] at hp
  obtain ⟨p0, hp⟩ := hp
  refine b_law__1023 p0 ?_
  obtain ⟨p1, hp⟩ := hp
  refine b_law__1030 p1 ?_
  obtain ⟨hc, hp⟩ := hp
  refine R_cw (cx := cx + 2) (by omega) (b_law__1036 (cx := cx)  (CW_soon (scX g ((x4 + 1).toNatClampNeg)) (scX g ((x4 + 2).toNatClampNeg)) M hc) (Nat.le_of_ble_eq_true rfl) ?_)
  exact R_cw (by omega) (T__law__1040 k23 pk23 ih23 x4 ((W_soon (scX g ((x4 + 1).toNatClampNeg)) (scX g ((x4 + 2).toNatClampNeg)) M).1) ((W_soon (scX g ((x4 + 1).toNatClampNeg)) (scX g ((x4 + 2).toNatClampNeg)) M).2) hp)
def F__law__1156 (g : Gl) (k23 : Int32 → Mem → Oc) (x4 : Int32) (M : Mem) : Oc := F__law__2461 g k23 x4 M
def P__law__1156 (g : Gl) (pk23 : Int32 → Mem → Prop) (x4 : Int32) (M : Mem) : Prop := (P__law__2461 g pk23 x4 M)
theorem T__law__1156 {g : Gl} {cx : Nat} (k23 : Int32 → Mem → Oc) (pk23 : Int32 → Mem → Prop) (ih23 : ∀ (x4 : Int32) (M : Mem), pk23 x4 M → Rc g 68 cx mL_law_ 23 [some (.ref 5000000), some (.ref 1558), some (.ref 0), some (.ref 1557), some (.int x4), none, none, none] [] M ((k23 x4 M))) (x4 : Int32) (M : Mem) (hp : P__law__1156 g pk23 x4 M) : Rc g 68 cx mL_law_ 1156 [some (.ref 5000000), some (.ref 1558), some (.ref 0), some (.ref 1557), some (.int x4), none, none, none] [] M ((F__law__1156 g k23 x4 M)) := by
  rw [F__law__1156]
  rw [P__law__1156] at hp
  refine b_law__1156  ?_
  exact R_cw (by omega) (T__law__2461 k23 pk23 ih23 x4 M hp)
def F__law__1126 (g : Gl) (k23 : Int32 → Mem → Oc) (x4 : Int32) (x5 : Int32) (xs0 : Int32) (M : Mem) : Oc := if (F_12_thrown_0 M) = x5 then (if x5 = 0 then (if (lg_cmp (rl M 1557 ((0 : Int32).toNatClampNeg)) xs0.toInt64) = 0 then (F__law__1156 g k23 x4 M) else (.inl (some (.int 0), M))) else (F__law__1156 g k23 x4 M)) else (.inl (some (.int 0), M))
def P__law__1126 (g : Gl) (pk23 : Int32 → Mem → Prop) (x4 : Int32) (x5 : Int32) (xs0 : Int32) (M : Mem) : Prop := (((((F_12_thrown_0 M) = x5 → ((¬ x5 = 0 → P__law__1156 g pk23 x4 M) ∧ (x5 = 0 → (((lg_cmp (rl M 1557 ((0 : Int32).toNatClampNeg)) xs0.toInt64) = 0 → P__law__1156 g pk23 x4 M) ∧ (¬ (lg_cmp (rl M 1557 ((0 : Int32).toNatClampNeg)) xs0.toInt64) = 0 → True))))) ∧ (¬ (F_12_thrown_0 M) = x5 → True))))
theorem T__law__1126 {g : Gl} {cx : Nat} (k23 : Int32 → Mem → Oc) (pk23 : Int32 → Mem → Prop) (ih23 : ∀ (x4 : Int32) (M : Mem), pk23 x4 M → Rc g 68 cx mL_law_ 23 [some (.ref 5000000), some (.ref 1558), some (.ref 0), some (.ref 1557), some (.int x4), none, none, none] [] M ((k23 x4 M))) (x4 : Int32) (x5 : Int32) (xs0 : Int32) (M : Mem) (hp : P__law__1126 g pk23 x4 x5 xs0 M) : Rc g 68 cx mL_law_ 1126 [some (.ref 5000000), some (.ref 1558), some (.ref 0), some (.ref 1557), some (.int x4), some (.int x5), none, none] [.int xs0] M ((F__law__1126 g k23 x4 x5 xs0 M)) := by
  rw [F__law__1126]
  rw [P__law__1126] at hp
  refine b_law__1126  (C_12_thrown  M) (Nat.le_of_ble_eq_true rfl) ?_
  refine b_law__1132  (fun h => ?_) (fun h => ?_)
  · rw [if_pos h]
    have hp := hp.1 h
    refine b_law__1139  (fun h => ?_) (fun h => ?_)
    · rw [if_neg h]
      have hp := hp.1 h
      exact R_cw (by omega) (T__law__1156 k23 pk23 ih23 x4 M hp)
    · rw [if_pos h]
      have hp := hp.2 h
      refine b_law__1144 (vpl (by decide)) (fun h => ?_) (fun h => ?_)
      · rw [if_pos h]
        have hp := hp.1 h
        exact R_cw (by omega) (T__law__1156 k23 pk23 ih23 x4 M hp)
      · rw [if_neg h]
        exact b_law__1154  rfl
  · rw [if_neg h]
    exact b_law__1137  rfl
def F__law__1108 (g : Gl) (k23 : Int32 → Mem → Oc) (x4 : Int32) (xs0 : Int32) (M : Mem) : Oc := F__law__1126 g k23 x4 xs0 ((F_12_within_0 (scX g ((x4 + 1).toNatClampNeg)) (scX g ((x4 + 2).toNatClampNeg)) M).1) ((F_12_within_0 (scX g ((x4 + 1).toNatClampNeg)) (scX g ((x4 + 2).toNatClampNeg)) M).2)
def P__law__1108 (g : Gl) (pk23 : Int32 → Mem → Prop) (x4 : Int32) (xs0 : Int32) (M : Mem) : Prop := (vp_in (x4 + 1) (g.2.2.2 5000001)) ∧ ((vp_in (x4 + 2) (g.2.2.2 5000001)) ∧ (((P_12_within_0 (scX g ((x4 + 1).toNatClampNeg)) (scX g ((x4 + 2).toNatClampNeg)) M) ∧ (P__law__1126 g pk23 x4 xs0 ((F_12_within_0 (scX g ((x4 + 1).toNatClampNeg)) (scX g ((x4 + 2).toNatClampNeg)) M).1) ((F_12_within_0 (scX g ((x4 + 1).toNatClampNeg)) (scX g ((x4 + 2).toNatClampNeg)) M).2)))))
theorem T__law__1108 {g : Gl} {cx : Nat} (k23 : Int32 → Mem → Oc) (pk23 : Int32 → Mem → Prop) (ih23 : ∀ (x4 : Int32) (M : Mem), pk23 x4 M → Rc g 68 cx mL_law_ 23 [some (.ref 5000000), some (.ref 1558), some (.ref 0), some (.ref 1557), some (.int x4), none, none, none] [] M ((k23 x4 M))) (x4 : Int32) (xs0 : Int32) (M : Mem) (hp : P__law__1108 g pk23 x4 xs0 M) : Rc g 68 cx mL_law_ 1108 [some (.ref 5000000), some (.ref 1558), some (.ref 0), some (.ref 1557), some (.int x4), none, none, none] [.int xs0] M ((F__law__1108 g k23 x4 xs0 M)) := by
  rw [F__law__1108]
  rw [P__law__1108] at hp
  obtain ⟨p0, hp⟩ := hp
  refine b_law__1108 p0 ?_
  obtain ⟨p1, hp⟩ := hp
  refine b_law__1117 p1 ?_
  obtain ⟨hc, hp⟩ := hp
  refine b_law__1123  (C_12_within (scX g ((x4 + 1).toNatClampNeg)) (scX g ((x4 + 2).toNatClampNeg)) M hc) (Nat.le_of_ble_eq_true rfl) ?_
  exact R_cw (by omega) (T__law__1126 k23 pk23 ih23 x4 xs0 ((F_12_within_0 (scX g ((x4 + 1).toNatClampNeg)) (scX g ((x4 + 2).toNatClampNeg)) M).1) ((F_12_within_0 (scX g ((x4 + 1).toNatClampNeg)) (scX g ((x4 + 2).toNatClampNeg)) M).2) hp)
def F__law__1091 (g : Gl) (k23 : Int32 → Mem → Oc) (x4 : Int32) (M : Mem) : Oc := F__law__1108 g k23 x4 ((W_within (scX g ((x4 + 1).toNatClampNeg)) (scX g ((x4 + 2).toNatClampNeg)) M).1) ((W_within (scX g ((x4 + 1).toNatClampNeg)) (scX g ((x4 + 2).toNatClampNeg)) M).2)
def P__law__1091 (g : Gl) (pk23 : Int32 → Mem → Prop) (x4 : Int32) (M : Mem) : Prop := (vp_in (x4 + 1) (g.2.2.2 5000001)) ∧ ((vp_in (x4 + 2) (g.2.2.2 5000001)) ∧ (((Q_within (scX g ((x4 + 1).toNatClampNeg)) (scX g ((x4 + 2).toNatClampNeg)) M) ∧ (P__law__1108 g pk23 x4 ((W_within (scX g ((x4 + 1).toNatClampNeg)) (scX g ((x4 + 2).toNatClampNeg)) M).1) ((W_within (scX g ((x4 + 1).toNatClampNeg)) (scX g ((x4 + 2).toNatClampNeg)) M).2)))))
theorem T__law__1091 {g : Gl} {cx : Nat} (k23 : Int32 → Mem → Oc) (pk23 : Int32 → Mem → Prop) (ih23 : ∀ (x4 : Int32) (M : Mem), pk23 x4 M → Rc g 68 cx mL_law_ 23 [some (.ref 5000000), some (.ref 1558), some (.ref 0), some (.ref 1557), some (.int x4), none, none, none] [] M ((k23 x4 M))) (x4 : Int32) (M : Mem) (hp : P__law__1091 g pk23 x4 M) : Rc g 68 (cx + 8) mL_law_ 1091 [some (.ref 5000000), some (.ref 1558), some (.ref 0), some (.ref 1557), some (.int x4), none, none, none] [] M ((F__law__1091 g k23 x4 M)) := by
  rw [F__law__1091]
  rw [P__law__1091] at hp
  obtain ⟨p0, hp⟩ := hp
  refine b_law__1091 p0 ?_
  obtain ⟨p1, hp⟩ := hp
  refine b_law__1098 p1 ?_
  obtain ⟨hc, hp⟩ := hp
  refine R_cw (cx := cx + 2) (by omega) (b_law__1104 (cx := cx)  (CW_within (scX g ((x4 + 1).toNatClampNeg)) (scX g ((x4 + 2).toNatClampNeg)) M hc) (Nat.le_of_ble_eq_true rfl) ?_)
  exact R_cw (by omega) (T__law__1108 k23 pk23 ih23 x4 ((W_within (scX g ((x4 + 1).toNatClampNeg)) (scX g ((x4 + 2).toNatClampNeg)) M).1) ((W_within (scX g ((x4 + 1).toNatClampNeg)) (scX g ((x4 + 2).toNatClampNeg)) M).2) hp)
def F__law__1212 (g : Gl) (k23 : Int32 → Mem → Oc) (x4 : Int32) (M : Mem) : Oc := F__law__2461 g k23 x4 M
def P__law__1212 (g : Gl) (pk23 : Int32 → Mem → Prop) (x4 : Int32) (M : Mem) : Prop := (P__law__2461 g pk23 x4 M)
theorem T__law__1212 {g : Gl} {cx : Nat} (k23 : Int32 → Mem → Oc) (pk23 : Int32 → Mem → Prop) (ih23 : ∀ (x4 : Int32) (M : Mem), pk23 x4 M → Rc g 68 cx mL_law_ 23 [some (.ref 5000000), some (.ref 1558), some (.ref 0), some (.ref 1557), some (.int x4), none, none, none] [] M ((k23 x4 M))) (x4 : Int32) (M : Mem) (hp : P__law__1212 g pk23 x4 M) : Rc g 68 cx mL_law_ 1212 [some (.ref 5000000), some (.ref 1558), some (.ref 0), some (.ref 1557), some (.int x4), none, none, none] [] M ((F__law__1212 g k23 x4 M)) := by
  rw [F__law__1212]
  rw [P__law__1212] at hp
  refine b_law__1212  ?_
  exact R_cw (by omega) (T__law__2461 k23 pk23 ih23 x4 M hp)
def F__law__1182 (g : Gl) (k23 : Int32 → Mem → Oc) (x4 : Int32) (x5 : Int32) (xs0 : Int32) (M : Mem) : Oc := if (F_12_thrown_0 M) = x5 then (if x5 = 0 then (if (lg_cmp (rl M 1557 ((0 : Int32).toNatClampNeg)) xs0.toInt64) = 0 then (F__law__1212 g k23 x4 M) else (.inl (some (.int 0), M))) else (F__law__1212 g k23 x4 M)) else (.inl (some (.int 0), M))
def P__law__1182 (g : Gl) (pk23 : Int32 → Mem → Prop) (x4 : Int32) (x5 : Int32) (xs0 : Int32) (M : Mem) : Prop := (((((F_12_thrown_0 M) = x5 → ((¬ x5 = 0 → P__law__1212 g pk23 x4 M) ∧ (x5 = 0 → (((lg_cmp (rl M 1557 ((0 : Int32).toNatClampNeg)) xs0.toInt64) = 0 → P__law__1212 g pk23 x4 M) ∧ (¬ (lg_cmp (rl M 1557 ((0 : Int32).toNatClampNeg)) xs0.toInt64) = 0 → True))))) ∧ (¬ (F_12_thrown_0 M) = x5 → True))))
theorem T__law__1182 {g : Gl} {cx : Nat} (k23 : Int32 → Mem → Oc) (pk23 : Int32 → Mem → Prop) (ih23 : ∀ (x4 : Int32) (M : Mem), pk23 x4 M → Rc g 68 cx mL_law_ 23 [some (.ref 5000000), some (.ref 1558), some (.ref 0), some (.ref 1557), some (.int x4), none, none, none] [] M ((k23 x4 M))) (x4 : Int32) (x5 : Int32) (xs0 : Int32) (M : Mem) (hp : P__law__1182 g pk23 x4 x5 xs0 M) : Rc g 68 cx mL_law_ 1182 [some (.ref 5000000), some (.ref 1558), some (.ref 0), some (.ref 1557), some (.int x4), some (.int x5), none, none] [.int xs0] M ((F__law__1182 g k23 x4 x5 xs0 M)) := by
  rw [F__law__1182]
  rw [P__law__1182] at hp
  refine b_law__1182  (C_12_thrown  M) (Nat.le_of_ble_eq_true rfl) ?_
  refine b_law__1188  (fun h => ?_) (fun h => ?_)
  · rw [if_pos h]
    have hp := hp.1 h
    refine b_law__1195  (fun h => ?_) (fun h => ?_)
    · rw [if_neg h]
      have hp := hp.1 h
      exact R_cw (by omega) (T__law__1212 k23 pk23 ih23 x4 M hp)
    · rw [if_pos h]
      have hp := hp.2 h
      refine b_law__1200 (vpl (by decide)) (fun h => ?_) (fun h => ?_)
      · rw [if_pos h]
        have hp := hp.1 h
        exact R_cw (by omega) (T__law__1212 k23 pk23 ih23 x4 M hp)
      · rw [if_neg h]
        exact b_law__1210  rfl
  · rw [if_neg h]
    exact b_law__1193  rfl
def F__law__1170 (g : Gl) (k23 : Int32 → Mem → Oc) (x4 : Int32) (xs0 : Int32) (M : Mem) : Oc := F__law__1182 g k23 x4 xs0 ((F_12_out_0 (scX g ((x4 + 1).toNatClampNeg)) M).1) ((F_12_out_0 (scX g ((x4 + 1).toNatClampNeg)) M).2)
def P__law__1170 (g : Gl) (pk23 : Int32 → Mem → Prop) (x4 : Int32) (xs0 : Int32) (M : Mem) : Prop := (vp_in (x4 + 1) (g.2.2.2 5000001)) ∧ (((P_12_out_0 (scX g ((x4 + 1).toNatClampNeg)) M) ∧ (P__law__1182 g pk23 x4 xs0 ((F_12_out_0 (scX g ((x4 + 1).toNatClampNeg)) M).1) ((F_12_out_0 (scX g ((x4 + 1).toNatClampNeg)) M).2))))
theorem T__law__1170 {g : Gl} {cx : Nat} (k23 : Int32 → Mem → Oc) (pk23 : Int32 → Mem → Prop) (ih23 : ∀ (x4 : Int32) (M : Mem), pk23 x4 M → Rc g 68 cx mL_law_ 23 [some (.ref 5000000), some (.ref 1558), some (.ref 0), some (.ref 1557), some (.int x4), none, none, none] [] M ((k23 x4 M))) (x4 : Int32) (xs0 : Int32) (M : Mem) (hp : P__law__1170 g pk23 x4 xs0 M) : Rc g 68 cx mL_law_ 1170 [some (.ref 5000000), some (.ref 1558), some (.ref 0), some (.ref 1557), some (.int x4), none, none, none] [.int xs0] M ((F__law__1170 g k23 x4 xs0 M)) := by
  rw [F__law__1170]
  rw [P__law__1170] at hp
  obtain ⟨p0, hp⟩ := hp
  refine b_law__1170 p0 ?_
  obtain ⟨hc, hp⟩ := hp
  refine b_law__1179  (C_12_out (scX g ((x4 + 1).toNatClampNeg)) M hc) (Nat.le_of_ble_eq_true rfl) ?_
  exact R_cw (by omega) (T__law__1182 k23 pk23 ih23 x4 xs0 ((F_12_out_0 (scX g ((x4 + 1).toNatClampNeg)) M).1) ((F_12_out_0 (scX g ((x4 + 1).toNatClampNeg)) M).2) hp)
def F__law__1159 (g : Gl) (k23 : Int32 → Mem → Oc) (x4 : Int32) (M : Mem) : Oc := F__law__1170 g k23 x4 ((W_out (scX g ((x4 + 1).toNatClampNeg)) M).1) ((W_out (scX g ((x4 + 1).toNatClampNeg)) M).2)
def P__law__1159 (g : Gl) (pk23 : Int32 → Mem → Prop) (x4 : Int32) (M : Mem) : Prop := (vp_in (x4 + 1) (g.2.2.2 5000001)) ∧ (((Q_out (scX g ((x4 + 1).toNatClampNeg)) M) ∧ (P__law__1170 g pk23 x4 ((W_out (scX g ((x4 + 1).toNatClampNeg)) M).1) ((W_out (scX g ((x4 + 1).toNatClampNeg)) M).2))))
theorem T__law__1159 {g : Gl} {cx : Nat} (k23 : Int32 → Mem → Oc) (pk23 : Int32 → Mem → Prop) (ih23 : ∀ (x4 : Int32) (M : Mem), pk23 x4 M → Rc g 68 cx mL_law_ 23 [some (.ref 5000000), some (.ref 1558), some (.ref 0), some (.ref 1557), some (.int x4), none, none, none] [] M ((k23 x4 M))) (x4 : Int32) (M : Mem) (hp : P__law__1159 g pk23 x4 M) : Rc g 68 (cx + 8) mL_law_ 1159 [some (.ref 5000000), some (.ref 1558), some (.ref 0), some (.ref 1557), some (.int x4), none, none, none] [] M ((F__law__1159 g k23 x4 M)) := by
  rw [F__law__1159]
  rw [P__law__1159] at hp
  obtain ⟨p0, hp⟩ := hp
  refine b_law__1159 p0 ?_
  obtain ⟨hc, hp⟩ := hp
  refine R_cw (cx := cx + 1) (by omega) (b_law__1166 (cx := cx)  (CW_out (scX g ((x4 + 1).toNatClampNeg)) M hc) (Nat.le_of_ble_eq_true rfl) ?_)
  exact R_cw (by omega) (T__law__1170 k23 pk23 ih23 x4 ((W_out (scX g ((x4 + 1).toNatClampNeg)) M).1) ((W_out (scX g ((x4 + 1).toNatClampNeg)) M).2) hp)
def F__law__1268 (g : Gl) (k23 : Int32 → Mem → Oc) (x4 : Int32) (M : Mem) : Oc := F__law__2461 g k23 x4 M
def P__law__1268 (g : Gl) (pk23 : Int32 → Mem → Prop) (x4 : Int32) (M : Mem) : Prop := (P__law__2461 g pk23 x4 M)
theorem T__law__1268 {g : Gl} {cx : Nat} (k23 : Int32 → Mem → Oc) (pk23 : Int32 → Mem → Prop) (ih23 : ∀ (x4 : Int32) (M : Mem), pk23 x4 M → Rc g 68 cx mL_law_ 23 [some (.ref 5000000), some (.ref 1558), some (.ref 0), some (.ref 1557), some (.int x4), none, none, none] [] M ((k23 x4 M))) (x4 : Int32) (M : Mem) (hp : P__law__1268 g pk23 x4 M) : Rc g 68 cx mL_law_ 1268 [some (.ref 5000000), some (.ref 1558), some (.ref 0), some (.ref 1557), some (.int x4), none, none, none] [] M ((F__law__1268 g k23 x4 M)) := by
  rw [F__law__1268]
  rw [P__law__1268] at hp
  refine b_law__1268  ?_
  exact R_cw (by omega) (T__law__2461 k23 pk23 ih23 x4 M hp)
def F__law__1238 (g : Gl) (k23 : Int32 → Mem → Oc) (x4 : Int32) (x5 : Int32) (xs0 : Int32) (M : Mem) : Oc := if (F_12_thrown_0 M) = x5 then (if x5 = 0 then (if (lg_cmp (rl M 1557 ((0 : Int32).toNatClampNeg)) xs0.toInt64) = 0 then (F__law__1268 g k23 x4 M) else (.inl (some (.int 0), M))) else (F__law__1268 g k23 x4 M)) else (.inl (some (.int 0), M))
def P__law__1238 (g : Gl) (pk23 : Int32 → Mem → Prop) (x4 : Int32) (x5 : Int32) (xs0 : Int32) (M : Mem) : Prop := (((((F_12_thrown_0 M) = x5 → ((¬ x5 = 0 → P__law__1268 g pk23 x4 M) ∧ (x5 = 0 → (((lg_cmp (rl M 1557 ((0 : Int32).toNatClampNeg)) xs0.toInt64) = 0 → P__law__1268 g pk23 x4 M) ∧ (¬ (lg_cmp (rl M 1557 ((0 : Int32).toNatClampNeg)) xs0.toInt64) = 0 → True))))) ∧ (¬ (F_12_thrown_0 M) = x5 → True))))
theorem T__law__1238 {g : Gl} {cx : Nat} (k23 : Int32 → Mem → Oc) (pk23 : Int32 → Mem → Prop) (ih23 : ∀ (x4 : Int32) (M : Mem), pk23 x4 M → Rc g 68 cx mL_law_ 23 [some (.ref 5000000), some (.ref 1558), some (.ref 0), some (.ref 1557), some (.int x4), none, none, none] [] M ((k23 x4 M))) (x4 : Int32) (x5 : Int32) (xs0 : Int32) (M : Mem) (hp : P__law__1238 g pk23 x4 x5 xs0 M) : Rc g 68 cx mL_law_ 1238 [some (.ref 5000000), some (.ref 1558), some (.ref 0), some (.ref 1557), some (.int x4), some (.int x5), none, none] [.int xs0] M ((F__law__1238 g k23 x4 x5 xs0 M)) := by
  rw [F__law__1238]
  rw [P__law__1238] at hp
  refine b_law__1238  (C_12_thrown  M) (Nat.le_of_ble_eq_true rfl) ?_
  refine b_law__1244  (fun h => ?_) (fun h => ?_)
  · rw [if_pos h]
    have hp := hp.1 h
    refine b_law__1251  (fun h => ?_) (fun h => ?_)
    · rw [if_neg h]
      have hp := hp.1 h
      exact R_cw (by omega) (T__law__1268 k23 pk23 ih23 x4 M hp)
    · rw [if_pos h]
      have hp := hp.2 h
      refine b_law__1256 (vpl (by decide)) (fun h => ?_) (fun h => ?_)
      · rw [if_pos h]
        have hp := hp.1 h
        exact R_cw (by omega) (T__law__1268 k23 pk23 ih23 x4 M hp)
      · rw [if_neg h]
        exact b_law__1266  rfl
  · rw [if_neg h]
    exact b_law__1249  rfl
def F__law__1226 (g : Gl) (k23 : Int32 → Mem → Oc) (x4 : Int32) (xs0 : Int32) (M : Mem) : Oc := F__law__1238 g k23 x4 xs0 ((F_12_string_0 (scX g ((x4 + 1).toNatClampNeg)) M).1) ((F_12_string_0 (scX g ((x4 + 1).toNatClampNeg)) M).2)
def P__law__1226 (g : Gl) (pk23 : Int32 → Mem → Prop) (x4 : Int32) (xs0 : Int32) (M : Mem) : Prop := (vp_in (x4 + 1) (g.2.2.2 5000001)) ∧ (((P_12_string_0 (scX g ((x4 + 1).toNatClampNeg)) M) ∧ (P__law__1238 g pk23 x4 xs0 ((F_12_string_0 (scX g ((x4 + 1).toNatClampNeg)) M).1) ((F_12_string_0 (scX g ((x4 + 1).toNatClampNeg)) M).2))))
theorem T__law__1226 {g : Gl} {cx : Nat} (k23 : Int32 → Mem → Oc) (pk23 : Int32 → Mem → Prop) (ih23 : ∀ (x4 : Int32) (M : Mem), pk23 x4 M → Rc g 68 cx mL_law_ 23 [some (.ref 5000000), some (.ref 1558), some (.ref 0), some (.ref 1557), some (.int x4), none, none, none] [] M ((k23 x4 M))) (x4 : Int32) (xs0 : Int32) (M : Mem) (hp : P__law__1226 g pk23 x4 xs0 M) : Rc g 68 cx mL_law_ 1226 [some (.ref 5000000), some (.ref 1558), some (.ref 0), some (.ref 1557), some (.int x4), none, none, none] [.int xs0] M ((F__law__1226 g k23 x4 xs0 M)) := by
  rw [F__law__1226]
  rw [P__law__1226] at hp
  obtain ⟨p0, hp⟩ := hp
  refine b_law__1226 p0 ?_
  obtain ⟨hc, hp⟩ := hp
  refine b_law__1235  (C_12_string (scX g ((x4 + 1).toNatClampNeg)) M hc) (Nat.le_of_ble_eq_true rfl) ?_
  exact R_cw (by omega) (T__law__1238 k23 pk23 ih23 x4 xs0 ((F_12_string_0 (scX g ((x4 + 1).toNatClampNeg)) M).1) ((F_12_string_0 (scX g ((x4 + 1).toNatClampNeg)) M).2) hp)
def F__law__1215 (g : Gl) (k23 : Int32 → Mem → Oc) (x4 : Int32) (M : Mem) : Oc := F__law__1226 g k23 x4 ((W_string (scX g ((x4 + 1).toNatClampNeg)) M).1) ((W_string (scX g ((x4 + 1).toNatClampNeg)) M).2)
def P__law__1215 (g : Gl) (pk23 : Int32 → Mem → Prop) (x4 : Int32) (M : Mem) : Prop := (vp_in (x4 + 1) (g.2.2.2 5000001)) ∧ (((Q_string (scX g ((x4 + 1).toNatClampNeg)) M) ∧ (P__law__1226 g pk23 x4 ((W_string (scX g ((x4 + 1).toNatClampNeg)) M).1) ((W_string (scX g ((x4 + 1).toNatClampNeg)) M).2))))
theorem T__law__1215 {g : Gl} {cx : Nat} (k23 : Int32 → Mem → Oc) (pk23 : Int32 → Mem → Prop) (ih23 : ∀ (x4 : Int32) (M : Mem), pk23 x4 M → Rc g 68 cx mL_law_ 23 [some (.ref 5000000), some (.ref 1558), some (.ref 0), some (.ref 1557), some (.int x4), none, none, none] [] M ((k23 x4 M))) (x4 : Int32) (M : Mem) (hp : P__law__1215 g pk23 x4 M) : Rc g 68 (cx + 8) mL_law_ 1215 [some (.ref 5000000), some (.ref 1558), some (.ref 0), some (.ref 1557), some (.int x4), none, none, none] [] M ((F__law__1215 g k23 x4 M)) := by
  rw [F__law__1215]
  rw [P__law__1215] at hp
  obtain ⟨p0, hp⟩ := hp
  refine b_law__1215 p0 ?_
  obtain ⟨hc, hp⟩ := hp
  refine R_cw (cx := cx + 1) (by omega) (b_law__1222 (cx := cx)  (CW_string (scX g ((x4 + 1).toNatClampNeg)) M hc) (Nat.le_of_ble_eq_true rfl) ?_)
  exact R_cw (by omega) (T__law__1226 k23 pk23 ih23 x4 ((W_string (scX g ((x4 + 1).toNatClampNeg)) M).1) ((W_string (scX g ((x4 + 1).toNatClampNeg)) M).2) hp)
def F__law__1324 (g : Gl) (k23 : Int32 → Mem → Oc) (x4 : Int32) (M : Mem) : Oc := F__law__2461 g k23 x4 M
def P__law__1324 (g : Gl) (pk23 : Int32 → Mem → Prop) (x4 : Int32) (M : Mem) : Prop := (P__law__2461 g pk23 x4 M)
theorem T__law__1324 {g : Gl} {cx : Nat} (k23 : Int32 → Mem → Oc) (pk23 : Int32 → Mem → Prop) (ih23 : ∀ (x4 : Int32) (M : Mem), pk23 x4 M → Rc g 68 cx mL_law_ 23 [some (.ref 5000000), some (.ref 1558), some (.ref 0), some (.ref 1557), some (.int x4), none, none, none] [] M ((k23 x4 M))) (x4 : Int32) (M : Mem) (hp : P__law__1324 g pk23 x4 M) : Rc g 68 cx mL_law_ 1324 [some (.ref 5000000), some (.ref 1558), some (.ref 0), some (.ref 1557), some (.int x4), none, none, none] [] M ((F__law__1324 g k23 x4 M)) := by
  rw [F__law__1324]
  rw [P__law__1324] at hp
  refine b_law__1324  ?_
  exact R_cw (by omega) (T__law__2461 k23 pk23 ih23 x4 M hp)
def F__law__1294 (g : Gl) (k23 : Int32 → Mem → Oc) (x4 : Int32) (x5 : Int32) (xs0 : Int32) (M : Mem) : Oc := if (F_12_thrown_0 M) = x5 then (if x5 = 0 then (if (lg_cmp (rl M 1557 ((0 : Int32).toNatClampNeg)) xs0.toInt64) = 0 then (F__law__1324 g k23 x4 M) else (.inl (some (.int 0), M))) else (F__law__1324 g k23 x4 M)) else (.inl (some (.int 0), M))
def P__law__1294 (g : Gl) (pk23 : Int32 → Mem → Prop) (x4 : Int32) (x5 : Int32) (xs0 : Int32) (M : Mem) : Prop := (((((F_12_thrown_0 M) = x5 → ((¬ x5 = 0 → P__law__1324 g pk23 x4 M) ∧ (x5 = 0 → (((lg_cmp (rl M 1557 ((0 : Int32).toNatClampNeg)) xs0.toInt64) = 0 → P__law__1324 g pk23 x4 M) ∧ (¬ (lg_cmp (rl M 1557 ((0 : Int32).toNatClampNeg)) xs0.toInt64) = 0 → True))))) ∧ (¬ (F_12_thrown_0 M) = x5 → True))))
theorem T__law__1294 {g : Gl} {cx : Nat} (k23 : Int32 → Mem → Oc) (pk23 : Int32 → Mem → Prop) (ih23 : ∀ (x4 : Int32) (M : Mem), pk23 x4 M → Rc g 68 cx mL_law_ 23 [some (.ref 5000000), some (.ref 1558), some (.ref 0), some (.ref 1557), some (.int x4), none, none, none] [] M ((k23 x4 M))) (x4 : Int32) (x5 : Int32) (xs0 : Int32) (M : Mem) (hp : P__law__1294 g pk23 x4 x5 xs0 M) : Rc g 68 cx mL_law_ 1294 [some (.ref 5000000), some (.ref 1558), some (.ref 0), some (.ref 1557), some (.int x4), some (.int x5), none, none] [.int xs0] M ((F__law__1294 g k23 x4 x5 xs0 M)) := by
  rw [F__law__1294]
  rw [P__law__1294] at hp
  refine b_law__1294  (C_12_thrown  M) (Nat.le_of_ble_eq_true rfl) ?_
  refine b_law__1300  (fun h => ?_) (fun h => ?_)
  · rw [if_pos h]
    have hp := hp.1 h
    refine b_law__1307  (fun h => ?_) (fun h => ?_)
    · rw [if_neg h]
      have hp := hp.1 h
      exact R_cw (by omega) (T__law__1324 k23 pk23 ih23 x4 M hp)
    · rw [if_pos h]
      have hp := hp.2 h
      refine b_law__1312 (vpl (by decide)) (fun h => ?_) (fun h => ?_)
      · rw [if_pos h]
        have hp := hp.1 h
        exact R_cw (by omega) (T__law__1324 k23 pk23 ih23 x4 M hp)
      · rw [if_neg h]
        exact b_law__1322  rfl
  · rw [if_neg h]
    exact b_law__1305  rfl
def F__law__1282 (g : Gl) (k23 : Int32 → Mem → Oc) (x4 : Int32) (xs0 : Int32) (M : Mem) : Oc := F__law__1294 g k23 x4 xs0 ((F_12_longest_0 (scX g ((x4 + 1).toNatClampNeg)) M).1) ((F_12_longest_0 (scX g ((x4 + 1).toNatClampNeg)) M).2)
def P__law__1282 (g : Gl) (pk23 : Int32 → Mem → Prop) (x4 : Int32) (xs0 : Int32) (M : Mem) : Prop := (vp_in (x4 + 1) (g.2.2.2 5000001)) ∧ (((P_12_longest_0 (scX g ((x4 + 1).toNatClampNeg)) M) ∧ (P__law__1294 g pk23 x4 xs0 ((F_12_longest_0 (scX g ((x4 + 1).toNatClampNeg)) M).1) ((F_12_longest_0 (scX g ((x4 + 1).toNatClampNeg)) M).2))))
theorem T__law__1282 {g : Gl} {cx : Nat} (k23 : Int32 → Mem → Oc) (pk23 : Int32 → Mem → Prop) (ih23 : ∀ (x4 : Int32) (M : Mem), pk23 x4 M → Rc g 68 cx mL_law_ 23 [some (.ref 5000000), some (.ref 1558), some (.ref 0), some (.ref 1557), some (.int x4), none, none, none] [] M ((k23 x4 M))) (x4 : Int32) (xs0 : Int32) (M : Mem) (hp : P__law__1282 g pk23 x4 xs0 M) : Rc g 68 cx mL_law_ 1282 [some (.ref 5000000), some (.ref 1558), some (.ref 0), some (.ref 1557), some (.int x4), none, none, none] [.int xs0] M ((F__law__1282 g k23 x4 xs0 M)) := by
  rw [F__law__1282]
  rw [P__law__1282] at hp
  obtain ⟨p0, hp⟩ := hp
  refine b_law__1282 p0 ?_
  obtain ⟨hc, hp⟩ := hp
  refine b_law__1291  (C_12_longest (scX g ((x4 + 1).toNatClampNeg)) M hc) (Nat.le_of_ble_eq_true rfl) ?_
  exact R_cw (by omega) (T__law__1294 k23 pk23 ih23 x4 xs0 ((F_12_longest_0 (scX g ((x4 + 1).toNatClampNeg)) M).1) ((F_12_longest_0 (scX g ((x4 + 1).toNatClampNeg)) M).2) hp)
def F__law__1271 (g : Gl) (k23 : Int32 → Mem → Oc) (x4 : Int32) (M : Mem) : Oc := F__law__1282 g k23 x4 ((W_longest (scX g ((x4 + 1).toNatClampNeg)) M).1) ((W_longest (scX g ((x4 + 1).toNatClampNeg)) M).2)
def P__law__1271 (g : Gl) (pk23 : Int32 → Mem → Prop) (x4 : Int32) (M : Mem) : Prop := (vp_in (x4 + 1) (g.2.2.2 5000001)) ∧ (((Q_longest (scX g ((x4 + 1).toNatClampNeg)) M) ∧ (P__law__1282 g pk23 x4 ((W_longest (scX g ((x4 + 1).toNatClampNeg)) M).1) ((W_longest (scX g ((x4 + 1).toNatClampNeg)) M).2))))
theorem T__law__1271 {g : Gl} {cx : Nat} (k23 : Int32 → Mem → Oc) (pk23 : Int32 → Mem → Prop) (ih23 : ∀ (x4 : Int32) (M : Mem), pk23 x4 M → Rc g 68 cx mL_law_ 23 [some (.ref 5000000), some (.ref 1558), some (.ref 0), some (.ref 1557), some (.int x4), none, none, none] [] M ((k23 x4 M))) (x4 : Int32) (M : Mem) (hp : P__law__1271 g pk23 x4 M) : Rc g 68 (cx + 8) mL_law_ 1271 [some (.ref 5000000), some (.ref 1558), some (.ref 0), some (.ref 1557), some (.int x4), none, none, none] [] M ((F__law__1271 g k23 x4 M)) := by
  rw [F__law__1271]
  rw [P__law__1271] at hp
  obtain ⟨p0, hp⟩ := hp
  refine b_law__1271 p0 ?_
  obtain ⟨hc, hp⟩ := hp
  refine R_cw (cx := cx + 1) (by omega) (b_law__1278 (cx := cx)  (CW_longest (scX g ((x4 + 1).toNatClampNeg)) M hc) (Nat.le_of_ble_eq_true rfl) ?_)
  exact R_cw (by omega) (T__law__1282 k23 pk23 ih23 x4 ((W_longest (scX g ((x4 + 1).toNatClampNeg)) M).1) ((W_longest (scX g ((x4 + 1).toNatClampNeg)) M).2) hp)
def F__law__1380 (g : Gl) (k23 : Int32 → Mem → Oc) (x4 : Int32) (M : Mem) : Oc := F__law__2461 g k23 x4 M
def P__law__1380 (g : Gl) (pk23 : Int32 → Mem → Prop) (x4 : Int32) (M : Mem) : Prop := (P__law__2461 g pk23 x4 M)
theorem T__law__1380 {g : Gl} {cx : Nat} (k23 : Int32 → Mem → Oc) (pk23 : Int32 → Mem → Prop) (ih23 : ∀ (x4 : Int32) (M : Mem), pk23 x4 M → Rc g 68 cx mL_law_ 23 [some (.ref 5000000), some (.ref 1558), some (.ref 0), some (.ref 1557), some (.int x4), none, none, none] [] M ((k23 x4 M))) (x4 : Int32) (M : Mem) (hp : P__law__1380 g pk23 x4 M) : Rc g 68 cx mL_law_ 1380 [some (.ref 5000000), some (.ref 1558), some (.ref 0), some (.ref 1557), some (.int x4), none, none, none] [] M ((F__law__1380 g k23 x4 M)) := by
  rw [F__law__1380]
  rw [P__law__1380] at hp
  refine b_law__1380  ?_
  exact R_cw (by omega) (T__law__2461 k23 pk23 ih23 x4 M hp)
def F__law__1350 (g : Gl) (k23 : Int32 → Mem → Oc) (x4 : Int32) (x5 : Int32) (xs0 : Int32) (M : Mem) : Oc := if (F_12_thrown_0 M) = x5 then (if x5 = 0 then (if (lg_cmp (rl M 1557 ((0 : Int32).toNatClampNeg)) xs0.toInt64) = 0 then (F__law__1380 g k23 x4 M) else (.inl (some (.int 0), M))) else (F__law__1380 g k23 x4 M)) else (.inl (some (.int 0), M))
def P__law__1350 (g : Gl) (pk23 : Int32 → Mem → Prop) (x4 : Int32) (x5 : Int32) (xs0 : Int32) (M : Mem) : Prop := (((((F_12_thrown_0 M) = x5 → ((¬ x5 = 0 → P__law__1380 g pk23 x4 M) ∧ (x5 = 0 → (((lg_cmp (rl M 1557 ((0 : Int32).toNatClampNeg)) xs0.toInt64) = 0 → P__law__1380 g pk23 x4 M) ∧ (¬ (lg_cmp (rl M 1557 ((0 : Int32).toNatClampNeg)) xs0.toInt64) = 0 → True))))) ∧ (¬ (F_12_thrown_0 M) = x5 → True))))
theorem T__law__1350 {g : Gl} {cx : Nat} (k23 : Int32 → Mem → Oc) (pk23 : Int32 → Mem → Prop) (ih23 : ∀ (x4 : Int32) (M : Mem), pk23 x4 M → Rc g 68 cx mL_law_ 23 [some (.ref 5000000), some (.ref 1558), some (.ref 0), some (.ref 1557), some (.int x4), none, none, none] [] M ((k23 x4 M))) (x4 : Int32) (x5 : Int32) (xs0 : Int32) (M : Mem) (hp : P__law__1350 g pk23 x4 x5 xs0 M) : Rc g 68 cx mL_law_ 1350 [some (.ref 5000000), some (.ref 1558), some (.ref 0), some (.ref 1557), some (.int x4), some (.int x5), none, none] [.int xs0] M ((F__law__1350 g k23 x4 x5 xs0 M)) := by
  rw [F__law__1350]
  rw [P__law__1350] at hp
  refine b_law__1350  (C_12_thrown  M) (Nat.le_of_ble_eq_true rfl) ?_
  refine b_law__1356  (fun h => ?_) (fun h => ?_)
  · rw [if_pos h]
    have hp := hp.1 h
    refine b_law__1363  (fun h => ?_) (fun h => ?_)
    · rw [if_neg h]
      have hp := hp.1 h
      exact R_cw (by omega) (T__law__1380 k23 pk23 ih23 x4 M hp)
    · rw [if_pos h]
      have hp := hp.2 h
      refine b_law__1368 (vpl (by decide)) (fun h => ?_) (fun h => ?_)
      · rw [if_pos h]
        have hp := hp.1 h
        exact R_cw (by omega) (T__law__1380 k23 pk23 ih23 x4 M hp)
      · rw [if_neg h]
        exact b_law__1378  rfl
  · rw [if_neg h]
    exact b_law__1361  rfl
def F__law__1338 (g : Gl) (k23 : Int32 → Mem → Oc) (x4 : Int32) (xs0 : Int32) (M : Mem) : Oc := F__law__1350 g k23 x4 xs0 ((F_12_lost_0 (scX g ((x4 + 1).toNatClampNeg)) M).1) ((F_12_lost_0 (scX g ((x4 + 1).toNatClampNeg)) M).2)
def P__law__1338 (g : Gl) (pk23 : Int32 → Mem → Prop) (x4 : Int32) (xs0 : Int32) (M : Mem) : Prop := (vp_in (x4 + 1) (g.2.2.2 5000001)) ∧ (((P_12_lost_0 (scX g ((x4 + 1).toNatClampNeg)) M) ∧ (P__law__1350 g pk23 x4 xs0 ((F_12_lost_0 (scX g ((x4 + 1).toNatClampNeg)) M).1) ((F_12_lost_0 (scX g ((x4 + 1).toNatClampNeg)) M).2))))
theorem T__law__1338 {g : Gl} {cx : Nat} (k23 : Int32 → Mem → Oc) (pk23 : Int32 → Mem → Prop) (ih23 : ∀ (x4 : Int32) (M : Mem), pk23 x4 M → Rc g 68 cx mL_law_ 23 [some (.ref 5000000), some (.ref 1558), some (.ref 0), some (.ref 1557), some (.int x4), none, none, none] [] M ((k23 x4 M))) (x4 : Int32) (xs0 : Int32) (M : Mem) (hp : P__law__1338 g pk23 x4 xs0 M) : Rc g 68 cx mL_law_ 1338 [some (.ref 5000000), some (.ref 1558), some (.ref 0), some (.ref 1557), some (.int x4), none, none, none] [.int xs0] M ((F__law__1338 g k23 x4 xs0 M)) := by
  rw [F__law__1338]
  rw [P__law__1338] at hp
  obtain ⟨p0, hp⟩ := hp
  refine b_law__1338 p0 ?_
  obtain ⟨hc, hp⟩ := hp
  refine b_law__1347  (C_12_lost (scX g ((x4 + 1).toNatClampNeg)) M hc) (Nat.le_of_ble_eq_true rfl) ?_
  exact R_cw (by omega) (T__law__1350 k23 pk23 ih23 x4 xs0 ((F_12_lost_0 (scX g ((x4 + 1).toNatClampNeg)) M).1) ((F_12_lost_0 (scX g ((x4 + 1).toNatClampNeg)) M).2) hp)
def F__law__1327 (g : Gl) (k23 : Int32 → Mem → Oc) (x4 : Int32) (M : Mem) : Oc := F__law__1338 g k23 x4 ((W_lost (scX g ((x4 + 1).toNatClampNeg)) M).1) ((W_lost (scX g ((x4 + 1).toNatClampNeg)) M).2)
def P__law__1327 (g : Gl) (pk23 : Int32 → Mem → Prop) (x4 : Int32) (M : Mem) : Prop := (vp_in (x4 + 1) (g.2.2.2 5000001)) ∧ (((Q_lost (scX g ((x4 + 1).toNatClampNeg)) M) ∧ (P__law__1338 g pk23 x4 ((W_lost (scX g ((x4 + 1).toNatClampNeg)) M).1) ((W_lost (scX g ((x4 + 1).toNatClampNeg)) M).2))))
theorem T__law__1327 {g : Gl} {cx : Nat} (k23 : Int32 → Mem → Oc) (pk23 : Int32 → Mem → Prop) (ih23 : ∀ (x4 : Int32) (M : Mem), pk23 x4 M → Rc g 68 cx mL_law_ 23 [some (.ref 5000000), some (.ref 1558), some (.ref 0), some (.ref 1557), some (.int x4), none, none, none] [] M ((k23 x4 M))) (x4 : Int32) (M : Mem) (hp : P__law__1327 g pk23 x4 M) : Rc g 68 (cx + 8) mL_law_ 1327 [some (.ref 5000000), some (.ref 1558), some (.ref 0), some (.ref 1557), some (.int x4), none, none, none] [] M ((F__law__1327 g k23 x4 M)) := by
  rw [F__law__1327]
  rw [P__law__1327] at hp
  obtain ⟨p0, hp⟩ := hp
  refine b_law__1327 p0 ?_
  obtain ⟨hc, hp⟩ := hp
  refine R_cw (cx := cx + 1) (by omega) (b_law__1334 (cx := cx)  (CW_lost (scX g ((x4 + 1).toNatClampNeg)) M hc) (Nat.le_of_ble_eq_true rfl) ?_)
  exact R_cw (by omega) (T__law__1338 k23 pk23 ih23 x4 ((W_lost (scX g ((x4 + 1).toNatClampNeg)) M).1) ((W_lost (scX g ((x4 + 1).toNatClampNeg)) M).2) hp)
def F__law__1391 (g : Gl) (k23 : Int32 → Mem → Oc) (x4 : Int32) (xs0 : Int32) (xs1 : Int32) (M : Mem) : Oc := if xs1 = xs0 then (F__law__2461 g k23 x4 M) else (.inl (some (.int 0), M))
def P__law__1391 (g : Gl) (pk23 : Int32 → Mem → Prop) (x4 : Int32) (xs0 : Int32) (xs1 : Int32) (M : Mem) : Prop := ((xs1 = xs0 → P__law__2461 g pk23 x4 M) ∧ (¬ xs1 = xs0 → True))
theorem T__law__1391 {g : Gl} {cx : Nat} (k23 : Int32 → Mem → Oc) (pk23 : Int32 → Mem → Prop) (ih23 : ∀ (x4 : Int32) (M : Mem), pk23 x4 M → Rc g 68 cx mL_law_ 23 [some (.ref 5000000), some (.ref 1558), some (.ref 0), some (.ref 1557), some (.int x4), none, none, none] [] M ((k23 x4 M))) (x4 : Int32) (xs0 : Int32) (xs1 : Int32) (M : Mem) (hp : P__law__1391 g pk23 x4 xs0 xs1 M) : Rc g 68 cx mL_law_ 1391 [some (.ref 5000000), some (.ref 1558), some (.ref 0), some (.ref 1557), some (.int x4), none, none, none] [.int xs0, .int xs1] M ((F__law__1391 g k23 x4 xs0 xs1 M)) := by
  rw [F__law__1391]
  rw [P__law__1391] at hp
  refine b_law__1391  (fun h => ?_) (fun h => ?_)
  · rw [if_pos h]
    have hp := hp.1 h
    exact R_cw (by omega) (T__law__2461 k23 pk23 ih23 x4 M hp)
  · rw [if_neg h]
    exact b_law__1394  rfl
def F__law__1387 (g : Gl) (k23 : Int32 → Mem → Oc) (x4 : Int32) (xs0 : Int32) (M : Mem) : Oc := F__law__1391 g k23 x4 ((F_12_cuts_0 M).1) xs0 ((F_12_cuts_0 M).2)
def P__law__1387 (g : Gl) (pk23 : Int32 → Mem → Prop) (x4 : Int32) (xs0 : Int32) (M : Mem) : Prop := ((P_12_cuts_0 M) ∧ (P__law__1391 g pk23 x4 ((F_12_cuts_0 M).1) xs0 ((F_12_cuts_0 M).2)))
theorem T__law__1387 {g : Gl} {cx : Nat} (k23 : Int32 → Mem → Oc) (pk23 : Int32 → Mem → Prop) (ih23 : ∀ (x4 : Int32) (M : Mem), pk23 x4 M → Rc g 68 cx mL_law_ 23 [some (.ref 5000000), some (.ref 1558), some (.ref 0), some (.ref 1557), some (.int x4), none, none, none] [] M ((k23 x4 M))) (x4 : Int32) (xs0 : Int32) (M : Mem) (hp : P__law__1387 g pk23 x4 xs0 M) : Rc g 68 cx mL_law_ 1387 [some (.ref 5000000), some (.ref 1558), some (.ref 0), some (.ref 1557), some (.int x4), none, none, none] [.int xs0] M ((F__law__1387 g k23 x4 xs0 M)) := by
  rw [F__law__1387]
  rw [P__law__1387] at hp
  obtain ⟨hc, hp⟩ := hp
  refine b_law__1387  (C_12_cuts  M hc) (Nat.le_of_ble_eq_true rfl) ?_
  exact R_cw (by omega) (T__law__1391 k23 pk23 ih23 x4 ((F_12_cuts_0 M).1) xs0 ((F_12_cuts_0 M).2) hp)
def F__law__1383 (g : Gl) (k23 : Int32 → Mem → Oc) (x4 : Int32) (M : Mem) : Oc := F__law__1387 g k23 x4 ((F_11_cuts_0 M).1) ((F_11_cuts_0 M).2)
def P__law__1383 (g : Gl) (pk23 : Int32 → Mem → Prop) (x4 : Int32) (M : Mem) : Prop := ((P_11_cuts_0 M) ∧ (P__law__1387 g pk23 x4 ((F_11_cuts_0 M).1) ((F_11_cuts_0 M).2)))
theorem T__law__1383 {g : Gl} {cx : Nat} (k23 : Int32 → Mem → Oc) (pk23 : Int32 → Mem → Prop) (ih23 : ∀ (x4 : Int32) (M : Mem), pk23 x4 M → Rc g 68 cx mL_law_ 23 [some (.ref 5000000), some (.ref 1558), some (.ref 0), some (.ref 1557), some (.int x4), none, none, none] [] M ((k23 x4 M))) (x4 : Int32) (M : Mem) (hp : P__law__1383 g pk23 x4 M) : Rc g 68 cx mL_law_ 1383 [some (.ref 5000000), some (.ref 1558), some (.ref 0), some (.ref 1557), some (.int x4), none, none, none] [] M ((F__law__1383 g k23 x4 M)) := by
  rw [F__law__1383]
  rw [P__law__1383] at hp
  obtain ⟨hc, hp⟩ := hp
  refine b_law__1383  (C_11_cuts  M hc) (Nat.le_of_ble_eq_true rfl) ?_
  exact R_cw (by omega) (T__law__1387 k23 pk23 ih23 x4 ((F_11_cuts_0 M).1) ((F_11_cuts_0 M).2) hp)
def F__law__1449 (g : Gl) (k23 : Int32 → Mem → Oc) (x4 : Int32) (M : Mem) : Oc := F__law__2461 g k23 x4 M
def P__law__1449 (g : Gl) (pk23 : Int32 → Mem → Prop) (x4 : Int32) (M : Mem) : Prop := (P__law__2461 g pk23 x4 M)
theorem T__law__1449 {g : Gl} {cx : Nat} (k23 : Int32 → Mem → Oc) (pk23 : Int32 → Mem → Prop) (ih23 : ∀ (x4 : Int32) (M : Mem), pk23 x4 M → Rc g 68 cx mL_law_ 23 [some (.ref 5000000), some (.ref 1558), some (.ref 0), some (.ref 1557), some (.int x4), none, none, none] [] M ((k23 x4 M))) (x4 : Int32) (M : Mem) (hp : P__law__1449 g pk23 x4 M) : Rc g 68 cx mL_law_ 1449 [some (.ref 5000000), some (.ref 1558), some (.ref 0), some (.ref 1557), some (.int x4), none, none, none] [] M ((F__law__1449 g k23 x4 M)) := by
  rw [F__law__1449]
  rw [P__law__1449] at hp
  refine b_law__1449  ?_
  exact R_cw (by omega) (T__law__2461 k23 pk23 ih23 x4 M hp)
def F__law__1419 (g : Gl) (k23 : Int32 → Mem → Oc) (x4 : Int32) (x5 : Int32) (xs0 : Int32) (M : Mem) : Oc := if (F_12_thrown_0 M) = x5 then (if x5 = 0 then (if (lg_cmp (rl M 1557 ((0 : Int32).toNatClampNeg)) xs0.toInt64) = 0 then (F__law__1449 g k23 x4 M) else (.inl (some (.int 0), M))) else (F__law__1449 g k23 x4 M)) else (.inl (some (.int 0), M))
def P__law__1419 (g : Gl) (pk23 : Int32 → Mem → Prop) (x4 : Int32) (x5 : Int32) (xs0 : Int32) (M : Mem) : Prop := (((((F_12_thrown_0 M) = x5 → ((¬ x5 = 0 → P__law__1449 g pk23 x4 M) ∧ (x5 = 0 → (((lg_cmp (rl M 1557 ((0 : Int32).toNatClampNeg)) xs0.toInt64) = 0 → P__law__1449 g pk23 x4 M) ∧ (¬ (lg_cmp (rl M 1557 ((0 : Int32).toNatClampNeg)) xs0.toInt64) = 0 → True))))) ∧ (¬ (F_12_thrown_0 M) = x5 → True))))
theorem T__law__1419 {g : Gl} {cx : Nat} (k23 : Int32 → Mem → Oc) (pk23 : Int32 → Mem → Prop) (ih23 : ∀ (x4 : Int32) (M : Mem), pk23 x4 M → Rc g 68 cx mL_law_ 23 [some (.ref 5000000), some (.ref 1558), some (.ref 0), some (.ref 1557), some (.int x4), none, none, none] [] M ((k23 x4 M))) (x4 : Int32) (x5 : Int32) (xs0 : Int32) (M : Mem) (hp : P__law__1419 g pk23 x4 x5 xs0 M) : Rc g 68 cx mL_law_ 1419 [some (.ref 5000000), some (.ref 1558), some (.ref 0), some (.ref 1557), some (.int x4), some (.int x5), none, none] [.int xs0] M ((F__law__1419 g k23 x4 x5 xs0 M)) := by
  rw [F__law__1419]
  rw [P__law__1419] at hp
  refine b_law__1419  (C_12_thrown  M) (Nat.le_of_ble_eq_true rfl) ?_
  refine b_law__1425  (fun h => ?_) (fun h => ?_)
  · rw [if_pos h]
    have hp := hp.1 h
    refine b_law__1432  (fun h => ?_) (fun h => ?_)
    · rw [if_neg h]
      have hp := hp.1 h
      exact R_cw (by omega) (T__law__1449 k23 pk23 ih23 x4 M hp)
    · rw [if_pos h]
      have hp := hp.2 h
      refine b_law__1437 (vpl (by decide)) (fun h => ?_) (fun h => ?_)
      · rw [if_pos h]
        have hp := hp.1 h
        exact R_cw (by omega) (T__law__1449 k23 pk23 ih23 x4 M hp)
      · rw [if_neg h]
        exact b_law__1447  rfl
  · rw [if_neg h]
    exact b_law__1430  rfl
def F__law__1407 (g : Gl) (k23 : Int32 → Mem → Oc) (x4 : Int32) (xs0 : Int32) (M : Mem) : Oc := F__law__1419 g k23 x4 xs0 ((F_12_wing_0 (scX g ((x4 + 1).toNatClampNeg)) M).1) ((F_12_wing_0 (scX g ((x4 + 1).toNatClampNeg)) M).2)
def P__law__1407 (g : Gl) (pk23 : Int32 → Mem → Prop) (x4 : Int32) (xs0 : Int32) (M : Mem) : Prop := (vp_in (x4 + 1) (g.2.2.2 5000001)) ∧ (((P_12_wing_0 (scX g ((x4 + 1).toNatClampNeg)) M) ∧ (P__law__1419 g pk23 x4 xs0 ((F_12_wing_0 (scX g ((x4 + 1).toNatClampNeg)) M).1) ((F_12_wing_0 (scX g ((x4 + 1).toNatClampNeg)) M).2))))
theorem T__law__1407 {g : Gl} {cx : Nat} (k23 : Int32 → Mem → Oc) (pk23 : Int32 → Mem → Prop) (ih23 : ∀ (x4 : Int32) (M : Mem), pk23 x4 M → Rc g 68 cx mL_law_ 23 [some (.ref 5000000), some (.ref 1558), some (.ref 0), some (.ref 1557), some (.int x4), none, none, none] [] M ((k23 x4 M))) (x4 : Int32) (xs0 : Int32) (M : Mem) (hp : P__law__1407 g pk23 x4 xs0 M) : Rc g 68 cx mL_law_ 1407 [some (.ref 5000000), some (.ref 1558), some (.ref 0), some (.ref 1557), some (.int x4), none, none, none] [.int xs0] M ((F__law__1407 g k23 x4 xs0 M)) := by
  rw [F__law__1407]
  rw [P__law__1407] at hp
  obtain ⟨p0, hp⟩ := hp
  refine b_law__1407 p0 ?_
  obtain ⟨hc, hp⟩ := hp
  refine b_law__1416  (C_12_wing (scX g ((x4 + 1).toNatClampNeg)) M hc) (Nat.le_of_ble_eq_true rfl) ?_
  exact R_cw (by omega) (T__law__1419 k23 pk23 ih23 x4 xs0 ((F_12_wing_0 (scX g ((x4 + 1).toNatClampNeg)) M).1) ((F_12_wing_0 (scX g ((x4 + 1).toNatClampNeg)) M).2) hp)
def F__law__1396 (g : Gl) (k23 : Int32 → Mem → Oc) (x4 : Int32) (M : Mem) : Oc := F__law__1407 g k23 x4 ((W_wing (scX g ((x4 + 1).toNatClampNeg)) M).1) ((W_wing (scX g ((x4 + 1).toNatClampNeg)) M).2)
def P__law__1396 (g : Gl) (pk23 : Int32 → Mem → Prop) (x4 : Int32) (M : Mem) : Prop := (vp_in (x4 + 1) (g.2.2.2 5000001)) ∧ (((Q_wing (scX g ((x4 + 1).toNatClampNeg)) M) ∧ (P__law__1407 g pk23 x4 ((W_wing (scX g ((x4 + 1).toNatClampNeg)) M).1) ((W_wing (scX g ((x4 + 1).toNatClampNeg)) M).2))))
theorem T__law__1396 {g : Gl} {cx : Nat} (k23 : Int32 → Mem → Oc) (pk23 : Int32 → Mem → Prop) (ih23 : ∀ (x4 : Int32) (M : Mem), pk23 x4 M → Rc g 68 cx mL_law_ 23 [some (.ref 5000000), some (.ref 1558), some (.ref 0), some (.ref 1557), some (.int x4), none, none, none] [] M ((k23 x4 M))) (x4 : Int32) (M : Mem) (hp : P__law__1396 g pk23 x4 M) : Rc g 68 (cx + 8) mL_law_ 1396 [some (.ref 5000000), some (.ref 1558), some (.ref 0), some (.ref 1557), some (.int x4), none, none, none] [] M ((F__law__1396 g k23 x4 M)) := by
  rw [F__law__1396]
  rw [P__law__1396] at hp
  obtain ⟨p0, hp⟩ := hp
  refine b_law__1396 p0 ?_
  obtain ⟨hc, hp⟩ := hp
  refine R_cw (cx := cx + 1) (by omega) (b_law__1403 (cx := cx)  (CW_wing (scX g ((x4 + 1).toNatClampNeg)) M hc) (Nat.le_of_ble_eq_true rfl) ?_)
  exact R_cw (by omega) (T__law__1407 k23 pk23 ih23 x4 ((W_wing (scX g ((x4 + 1).toNatClampNeg)) M).1) ((W_wing (scX g ((x4 + 1).toNatClampNeg)) M).2) hp)
def F__law__1505 (g : Gl) (k23 : Int32 → Mem → Oc) (x4 : Int32) (M : Mem) : Oc := F__law__2461 g k23 x4 M
def P__law__1505 (g : Gl) (pk23 : Int32 → Mem → Prop) (x4 : Int32) (M : Mem) : Prop := (P__law__2461 g pk23 x4 M)
theorem T__law__1505 {g : Gl} {cx : Nat} (k23 : Int32 → Mem → Oc) (pk23 : Int32 → Mem → Prop) (ih23 : ∀ (x4 : Int32) (M : Mem), pk23 x4 M → Rc g 68 cx mL_law_ 23 [some (.ref 5000000), some (.ref 1558), some (.ref 0), some (.ref 1557), some (.int x4), none, none, none] [] M ((k23 x4 M))) (x4 : Int32) (M : Mem) (hp : P__law__1505 g pk23 x4 M) : Rc g 68 cx mL_law_ 1505 [some (.ref 5000000), some (.ref 1558), some (.ref 0), some (.ref 1557), some (.int x4), none, none, none] [] M ((F__law__1505 g k23 x4 M)) := by
  rw [F__law__1505]
  rw [P__law__1505] at hp
  refine b_law__1505  ?_
  exact R_cw (by omega) (T__law__2461 k23 pk23 ih23 x4 M hp)
def F__law__1475 (g : Gl) (k23 : Int32 → Mem → Oc) (x4 : Int32) (x5 : Int32) (xs0 : Int32) (M : Mem) : Oc := if (F_12_thrown_0 M) = x5 then (if x5 = 0 then (if (lg_cmp (rl M 1557 ((0 : Int32).toNatClampNeg)) xs0.toInt64) = 0 then (F__law__1505 g k23 x4 M) else (.inl (some (.int 0), M))) else (F__law__1505 g k23 x4 M)) else (.inl (some (.int 0), M))
def P__law__1475 (g : Gl) (pk23 : Int32 → Mem → Prop) (x4 : Int32) (x5 : Int32) (xs0 : Int32) (M : Mem) : Prop := (((((F_12_thrown_0 M) = x5 → ((¬ x5 = 0 → P__law__1505 g pk23 x4 M) ∧ (x5 = 0 → (((lg_cmp (rl M 1557 ((0 : Int32).toNatClampNeg)) xs0.toInt64) = 0 → P__law__1505 g pk23 x4 M) ∧ (¬ (lg_cmp (rl M 1557 ((0 : Int32).toNatClampNeg)) xs0.toInt64) = 0 → True))))) ∧ (¬ (F_12_thrown_0 M) = x5 → True))))
theorem T__law__1475 {g : Gl} {cx : Nat} (k23 : Int32 → Mem → Oc) (pk23 : Int32 → Mem → Prop) (ih23 : ∀ (x4 : Int32) (M : Mem), pk23 x4 M → Rc g 68 cx mL_law_ 23 [some (.ref 5000000), some (.ref 1558), some (.ref 0), some (.ref 1557), some (.int x4), none, none, none] [] M ((k23 x4 M))) (x4 : Int32) (x5 : Int32) (xs0 : Int32) (M : Mem) (hp : P__law__1475 g pk23 x4 x5 xs0 M) : Rc g 68 cx mL_law_ 1475 [some (.ref 5000000), some (.ref 1558), some (.ref 0), some (.ref 1557), some (.int x4), some (.int x5), none, none] [.int xs0] M ((F__law__1475 g k23 x4 x5 xs0 M)) := by
  rw [F__law__1475]
  rw [P__law__1475] at hp
  refine b_law__1475  (C_12_thrown  M) (Nat.le_of_ble_eq_true rfl) ?_
  refine b_law__1481  (fun h => ?_) (fun h => ?_)
  · rw [if_pos h]
    have hp := hp.1 h
    refine b_law__1488  (fun h => ?_) (fun h => ?_)
    · rw [if_neg h]
      have hp := hp.1 h
      exact R_cw (by omega) (T__law__1505 k23 pk23 ih23 x4 M hp)
    · rw [if_pos h]
      have hp := hp.2 h
      refine b_law__1493 (vpl (by decide)) (fun h => ?_) (fun h => ?_)
      · rw [if_pos h]
        have hp := hp.1 h
        exact R_cw (by omega) (T__law__1505 k23 pk23 ih23 x4 M hp)
      · rw [if_neg h]
        exact b_law__1503  rfl
  · rw [if_neg h]
    exact b_law__1486  rfl
def F__law__1463 (g : Gl) (k23 : Int32 → Mem → Oc) (x4 : Int32) (xs0 : Int32) (M : Mem) : Oc := F__law__1475 g k23 x4 xs0 ((F_12_round_0 (scX g ((x4 + 1).toNatClampNeg)) M).1) ((F_12_round_0 (scX g ((x4 + 1).toNatClampNeg)) M).2)
def P__law__1463 (g : Gl) (pk23 : Int32 → Mem → Prop) (x4 : Int32) (xs0 : Int32) (M : Mem) : Prop := (vp_in (x4 + 1) (g.2.2.2 5000001)) ∧ (((P_12_round_0 (scX g ((x4 + 1).toNatClampNeg)) M) ∧ (P__law__1475 g pk23 x4 xs0 ((F_12_round_0 (scX g ((x4 + 1).toNatClampNeg)) M).1) ((F_12_round_0 (scX g ((x4 + 1).toNatClampNeg)) M).2))))
theorem T__law__1463 {g : Gl} {cx : Nat} (k23 : Int32 → Mem → Oc) (pk23 : Int32 → Mem → Prop) (ih23 : ∀ (x4 : Int32) (M : Mem), pk23 x4 M → Rc g 68 cx mL_law_ 23 [some (.ref 5000000), some (.ref 1558), some (.ref 0), some (.ref 1557), some (.int x4), none, none, none] [] M ((k23 x4 M))) (x4 : Int32) (xs0 : Int32) (M : Mem) (hp : P__law__1463 g pk23 x4 xs0 M) : Rc g 68 cx mL_law_ 1463 [some (.ref 5000000), some (.ref 1558), some (.ref 0), some (.ref 1557), some (.int x4), none, none, none] [.int xs0] M ((F__law__1463 g k23 x4 xs0 M)) := by
  rw [F__law__1463]
  rw [P__law__1463] at hp
  obtain ⟨p0, hp⟩ := hp
  refine b_law__1463 p0 ?_
  obtain ⟨hc, hp⟩ := hp
  refine b_law__1472  (C_12_round (scX g ((x4 + 1).toNatClampNeg)) M hc) (Nat.le_of_ble_eq_true rfl) ?_
  exact R_cw (by omega) (T__law__1475 k23 pk23 ih23 x4 xs0 ((F_12_round_0 (scX g ((x4 + 1).toNatClampNeg)) M).1) ((F_12_round_0 (scX g ((x4 + 1).toNatClampNeg)) M).2) hp)
def F__law__1452 (g : Gl) (k23 : Int32 → Mem → Oc) (x4 : Int32) (M : Mem) : Oc := F__law__1463 g k23 x4 ((W_round (scX g ((x4 + 1).toNatClampNeg)) M).1) ((W_round (scX g ((x4 + 1).toNatClampNeg)) M).2)
def P__law__1452 (g : Gl) (pk23 : Int32 → Mem → Prop) (x4 : Int32) (M : Mem) : Prop := (vp_in (x4 + 1) (g.2.2.2 5000001)) ∧ (((Q_round (scX g ((x4 + 1).toNatClampNeg)) M) ∧ (P__law__1463 g pk23 x4 ((W_round (scX g ((x4 + 1).toNatClampNeg)) M).1) ((W_round (scX g ((x4 + 1).toNatClampNeg)) M).2))))
theorem T__law__1452 {g : Gl} {cx : Nat} (k23 : Int32 → Mem → Oc) (pk23 : Int32 → Mem → Prop) (ih23 : ∀ (x4 : Int32) (M : Mem), pk23 x4 M → Rc g 68 cx mL_law_ 23 [some (.ref 5000000), some (.ref 1558), some (.ref 0), some (.ref 1557), some (.int x4), none, none, none] [] M ((k23 x4 M))) (x4 : Int32) (M : Mem) (hp : P__law__1452 g pk23 x4 M) : Rc g 68 (cx + 8) mL_law_ 1452 [some (.ref 5000000), some (.ref 1558), some (.ref 0), some (.ref 1557), some (.int x4), none, none, none] [] M ((F__law__1452 g k23 x4 M)) := by
  rw [F__law__1452]
  rw [P__law__1452] at hp
  obtain ⟨p0, hp⟩ := hp
  refine b_law__1452 p0 ?_
  obtain ⟨hc, hp⟩ := hp
  refine R_cw (cx := cx + 1) (by omega) (b_law__1459 (cx := cx)  (CW_round (scX g ((x4 + 1).toNatClampNeg)) M hc) (Nat.le_of_ble_eq_true rfl) ?_)
  exact R_cw (by omega) (T__law__1463 k23 pk23 ih23 x4 ((W_round (scX g ((x4 + 1).toNatClampNeg)) M).1) ((W_round (scX g ((x4 + 1).toNatClampNeg)) M).2) hp)
def F__law__1561 (g : Gl) (k23 : Int32 → Mem → Oc) (x4 : Int32) (M : Mem) : Oc := F__law__2461 g k23 x4 M
def P__law__1561 (g : Gl) (pk23 : Int32 → Mem → Prop) (x4 : Int32) (M : Mem) : Prop := (P__law__2461 g pk23 x4 M)
theorem T__law__1561 {g : Gl} {cx : Nat} (k23 : Int32 → Mem → Oc) (pk23 : Int32 → Mem → Prop) (ih23 : ∀ (x4 : Int32) (M : Mem), pk23 x4 M → Rc g 68 cx mL_law_ 23 [some (.ref 5000000), some (.ref 1558), some (.ref 0), some (.ref 1557), some (.int x4), none, none, none] [] M ((k23 x4 M))) (x4 : Int32) (M : Mem) (hp : P__law__1561 g pk23 x4 M) : Rc g 68 cx mL_law_ 1561 [some (.ref 5000000), some (.ref 1558), some (.ref 0), some (.ref 1557), some (.int x4), none, none, none] [] M ((F__law__1561 g k23 x4 M)) := by
  rw [F__law__1561]
  rw [P__law__1561] at hp
  refine b_law__1561  ?_
  exact R_cw (by omega) (T__law__2461 k23 pk23 ih23 x4 M hp)
def F__law__1531 (g : Gl) (k23 : Int32 → Mem → Oc) (x4 : Int32) (x5 : Int32) (xs0 : Int32) (M : Mem) : Oc := if (F_12_thrown_0 M) = x5 then (if x5 = 0 then (if (lg_cmp (rl M 1557 ((0 : Int32).toNatClampNeg)) xs0.toInt64) = 0 then (F__law__1561 g k23 x4 M) else (.inl (some (.int 0), M))) else (F__law__1561 g k23 x4 M)) else (.inl (some (.int 0), M))
def P__law__1531 (g : Gl) (pk23 : Int32 → Mem → Prop) (x4 : Int32) (x5 : Int32) (xs0 : Int32) (M : Mem) : Prop := (((((F_12_thrown_0 M) = x5 → ((¬ x5 = 0 → P__law__1561 g pk23 x4 M) ∧ (x5 = 0 → (((lg_cmp (rl M 1557 ((0 : Int32).toNatClampNeg)) xs0.toInt64) = 0 → P__law__1561 g pk23 x4 M) ∧ (¬ (lg_cmp (rl M 1557 ((0 : Int32).toNatClampNeg)) xs0.toInt64) = 0 → True))))) ∧ (¬ (F_12_thrown_0 M) = x5 → True))))
theorem T__law__1531 {g : Gl} {cx : Nat} (k23 : Int32 → Mem → Oc) (pk23 : Int32 → Mem → Prop) (ih23 : ∀ (x4 : Int32) (M : Mem), pk23 x4 M → Rc g 68 cx mL_law_ 23 [some (.ref 5000000), some (.ref 1558), some (.ref 0), some (.ref 1557), some (.int x4), none, none, none] [] M ((k23 x4 M))) (x4 : Int32) (x5 : Int32) (xs0 : Int32) (M : Mem) (hp : P__law__1531 g pk23 x4 x5 xs0 M) : Rc g 68 cx mL_law_ 1531 [some (.ref 5000000), some (.ref 1558), some (.ref 0), some (.ref 1557), some (.int x4), some (.int x5), none, none] [.int xs0] M ((F__law__1531 g k23 x4 x5 xs0 M)) := by
  rw [F__law__1531]
  rw [P__law__1531] at hp
  refine b_law__1531  (C_12_thrown  M) (Nat.le_of_ble_eq_true rfl) ?_
  refine b_law__1537  (fun h => ?_) (fun h => ?_)
  · rw [if_pos h]
    have hp := hp.1 h
    refine b_law__1544  (fun h => ?_) (fun h => ?_)
    · rw [if_neg h]
      have hp := hp.1 h
      exact R_cw (by omega) (T__law__1561 k23 pk23 ih23 x4 M hp)
    · rw [if_pos h]
      have hp := hp.2 h
      refine b_law__1549 (vpl (by decide)) (fun h => ?_) (fun h => ?_)
      · rw [if_pos h]
        have hp := hp.1 h
        exact R_cw (by omega) (T__law__1561 k23 pk23 ih23 x4 M hp)
      · rw [if_neg h]
        exact b_law__1559  rfl
  · rw [if_neg h]
    exact b_law__1542  rfl
def F__law__1519 (g : Gl) (k23 : Int32 → Mem → Oc) (x4 : Int32) (xs0 : Int32) (M : Mem) : Oc := F__law__1531 g k23 x4 xs0 ((F_12_last_0 (scX g ((x4 + 1).toNatClampNeg)) M).1) ((F_12_last_0 (scX g ((x4 + 1).toNatClampNeg)) M).2)
def P__law__1519 (g : Gl) (pk23 : Int32 → Mem → Prop) (x4 : Int32) (xs0 : Int32) (M : Mem) : Prop := (vp_in (x4 + 1) (g.2.2.2 5000001)) ∧ (((P_12_last_0 (scX g ((x4 + 1).toNatClampNeg)) M) ∧ (P__law__1531 g pk23 x4 xs0 ((F_12_last_0 (scX g ((x4 + 1).toNatClampNeg)) M).1) ((F_12_last_0 (scX g ((x4 + 1).toNatClampNeg)) M).2))))
theorem T__law__1519 {g : Gl} {cx : Nat} (k23 : Int32 → Mem → Oc) (pk23 : Int32 → Mem → Prop) (ih23 : ∀ (x4 : Int32) (M : Mem), pk23 x4 M → Rc g 68 cx mL_law_ 23 [some (.ref 5000000), some (.ref 1558), some (.ref 0), some (.ref 1557), some (.int x4), none, none, none] [] M ((k23 x4 M))) (x4 : Int32) (xs0 : Int32) (M : Mem) (hp : P__law__1519 g pk23 x4 xs0 M) : Rc g 68 cx mL_law_ 1519 [some (.ref 5000000), some (.ref 1558), some (.ref 0), some (.ref 1557), some (.int x4), none, none, none] [.int xs0] M ((F__law__1519 g k23 x4 xs0 M)) := by
  rw [F__law__1519]
  rw [P__law__1519] at hp
  obtain ⟨p0, hp⟩ := hp
  refine b_law__1519 p0 ?_
  obtain ⟨hc, hp⟩ := hp
  refine b_law__1528  (C_12_last (scX g ((x4 + 1).toNatClampNeg)) M hc) (Nat.le_of_ble_eq_true rfl) ?_
  exact R_cw (by omega) (T__law__1531 k23 pk23 ih23 x4 xs0 ((F_12_last_0 (scX g ((x4 + 1).toNatClampNeg)) M).1) ((F_12_last_0 (scX g ((x4 + 1).toNatClampNeg)) M).2) hp)
def F__law__1508 (g : Gl) (k23 : Int32 → Mem → Oc) (x4 : Int32) (M : Mem) : Oc := F__law__1519 g k23 x4 ((W_last (scX g ((x4 + 1).toNatClampNeg)) M).1) ((W_last (scX g ((x4 + 1).toNatClampNeg)) M).2)
def P__law__1508 (g : Gl) (pk23 : Int32 → Mem → Prop) (x4 : Int32) (M : Mem) : Prop := (vp_in (x4 + 1) (g.2.2.2 5000001)) ∧ (((Q_last (scX g ((x4 + 1).toNatClampNeg)) M) ∧ (P__law__1519 g pk23 x4 ((W_last (scX g ((x4 + 1).toNatClampNeg)) M).1) ((W_last (scX g ((x4 + 1).toNatClampNeg)) M).2))))
theorem T__law__1508 {g : Gl} {cx : Nat} (k23 : Int32 → Mem → Oc) (pk23 : Int32 → Mem → Prop) (ih23 : ∀ (x4 : Int32) (M : Mem), pk23 x4 M → Rc g 68 cx mL_law_ 23 [some (.ref 5000000), some (.ref 1558), some (.ref 0), some (.ref 1557), some (.int x4), none, none, none] [] M ((k23 x4 M))) (x4 : Int32) (M : Mem) (hp : P__law__1508 g pk23 x4 M) : Rc g 68 (cx + 8) mL_law_ 1508 [some (.ref 5000000), some (.ref 1558), some (.ref 0), some (.ref 1557), some (.int x4), none, none, none] [] M ((F__law__1508 g k23 x4 M)) := by
  rw [F__law__1508]
  rw [P__law__1508] at hp
  obtain ⟨p0, hp⟩ := hp
  refine b_law__1508 p0 ?_
  obtain ⟨hc, hp⟩ := hp
  refine R_cw (cx := cx + 1) (by omega) (b_law__1515 (cx := cx)  (CW_last (scX g ((x4 + 1).toNatClampNeg)) M hc) (Nat.le_of_ble_eq_true rfl) ?_)
  exact R_cw (by omega) (T__law__1519 k23 pk23 ih23 x4 ((W_last (scX g ((x4 + 1).toNatClampNeg)) M).1) ((W_last (scX g ((x4 + 1).toNatClampNeg)) M).2) hp)
def F__law__1641 (g : Gl) (k23 : Int32 → Mem → Oc) (x4 : Int32) (M : Mem) : Oc := F__law__2461 g k23 x4 M
def P__law__1641 (g : Gl) (pk23 : Int32 → Mem → Prop) (x4 : Int32) (M : Mem) : Prop := (P__law__2461 g pk23 x4 M)
theorem T__law__1641 {g : Gl} {cx : Nat} (k23 : Int32 → Mem → Oc) (pk23 : Int32 → Mem → Prop) (ih23 : ∀ (x4 : Int32) (M : Mem), pk23 x4 M → Rc g 68 cx mL_law_ 23 [some (.ref 5000000), some (.ref 1558), some (.ref 0), some (.ref 1557), some (.int x4), none, none, none] [] M ((k23 x4 M))) (x4 : Int32) (M : Mem) (hp : P__law__1641 g pk23 x4 M) : Rc g 68 cx mL_law_ 1641 [some (.ref 5000000), some (.ref 1558), some (.ref 0), some (.ref 1557), some (.int x4), none, none, none] [] M ((F__law__1641 g k23 x4 M)) := by
  rw [F__law__1641]
  rw [P__law__1641] at hp
  refine b_law__1641  ?_
  exact R_cw (by omega) (T__law__2461 k23 pk23 ih23 x4 M hp)
def F__law__1611 (g : Gl) (k23 : Int32 → Mem → Oc) (x4 : Int32) (x5 : Int32) (xs0 : Int32) (M : Mem) : Oc := if (F_12_thrown_0 M) = x5 then (if x5 = 0 then (if (lg_cmp (rl M 1557 ((0 : Int32).toNatClampNeg)) xs0.toInt64) = 0 then (F__law__1641 g k23 x4 M) else (.inl (some (.int 0), M))) else (F__law__1641 g k23 x4 M)) else (.inl (some (.int 0), M))
def P__law__1611 (g : Gl) (pk23 : Int32 → Mem → Prop) (x4 : Int32) (x5 : Int32) (xs0 : Int32) (M : Mem) : Prop := (((((F_12_thrown_0 M) = x5 → ((¬ x5 = 0 → P__law__1641 g pk23 x4 M) ∧ (x5 = 0 → (((lg_cmp (rl M 1557 ((0 : Int32).toNatClampNeg)) xs0.toInt64) = 0 → P__law__1641 g pk23 x4 M) ∧ (¬ (lg_cmp (rl M 1557 ((0 : Int32).toNatClampNeg)) xs0.toInt64) = 0 → True))))) ∧ (¬ (F_12_thrown_0 M) = x5 → True))))
theorem T__law__1611 {g : Gl} {cx : Nat} (k23 : Int32 → Mem → Oc) (pk23 : Int32 → Mem → Prop) (ih23 : ∀ (x4 : Int32) (M : Mem), pk23 x4 M → Rc g 68 cx mL_law_ 23 [some (.ref 5000000), some (.ref 1558), some (.ref 0), some (.ref 1557), some (.int x4), none, none, none] [] M ((k23 x4 M))) (x4 : Int32) (x5 : Int32) (xs0 : Int32) (M : Mem) (hp : P__law__1611 g pk23 x4 x5 xs0 M) : Rc g 68 cx mL_law_ 1611 [some (.ref 5000000), some (.ref 1558), some (.ref 0), some (.ref 1557), some (.int x4), some (.int x5), none, none] [.int xs0] M ((F__law__1611 g k23 x4 x5 xs0 M)) := by
  rw [F__law__1611]
  rw [P__law__1611] at hp
  refine b_law__1611  (C_12_thrown  M) (Nat.le_of_ble_eq_true rfl) ?_
  refine b_law__1617  (fun h => ?_) (fun h => ?_)
  · rw [if_pos h]
    have hp := hp.1 h
    refine b_law__1624  (fun h => ?_) (fun h => ?_)
    · rw [if_neg h]
      have hp := hp.1 h
      exact R_cw (by omega) (T__law__1641 k23 pk23 ih23 x4 M hp)
    · rw [if_pos h]
      have hp := hp.2 h
      refine b_law__1629 (vpl (by decide)) (fun h => ?_) (fun h => ?_)
      · rw [if_pos h]
        have hp := hp.1 h
        exact R_cw (by omega) (T__law__1641 k23 pk23 ih23 x4 M hp)
      · rw [if_neg h]
        exact b_law__1639  rfl
  · rw [if_neg h]
    exact b_law__1622  rfl
def F__law__1587 (g : Gl) (k23 : Int32 → Mem → Oc) (x4 : Int32) (xs0 : Int32) (M : Mem) : Oc := F__law__1611 g k23 x4 xs0 ((F_12_meet_0 (scX g ((x4 + 1).toNatClampNeg)) (scX g ((x4 + 2).toNatClampNeg)) (scX g ((x4 + 3).toNatClampNeg)) M).1) ((F_12_meet_0 (scX g ((x4 + 1).toNatClampNeg)) (scX g ((x4 + 2).toNatClampNeg)) (scX g ((x4 + 3).toNatClampNeg)) M).2)
def P__law__1587 (g : Gl) (pk23 : Int32 → Mem → Prop) (x4 : Int32) (xs0 : Int32) (M : Mem) : Prop := (vp_in (x4 + 1) (g.2.2.2 5000001)) ∧ ((vp_in (x4 + 2) (g.2.2.2 5000001)) ∧ ((vp_in (x4 + 3) (g.2.2.2 5000001)) ∧ (((P_12_meet_0 (scX g ((x4 + 1).toNatClampNeg)) (scX g ((x4 + 2).toNatClampNeg)) (scX g ((x4 + 3).toNatClampNeg)) M) ∧ (P__law__1611 g pk23 x4 xs0 ((F_12_meet_0 (scX g ((x4 + 1).toNatClampNeg)) (scX g ((x4 + 2).toNatClampNeg)) (scX g ((x4 + 3).toNatClampNeg)) M).1) ((F_12_meet_0 (scX g ((x4 + 1).toNatClampNeg)) (scX g ((x4 + 2).toNatClampNeg)) (scX g ((x4 + 3).toNatClampNeg)) M).2))))))
theorem T__law__1587 {g : Gl} {cx : Nat} (k23 : Int32 → Mem → Oc) (pk23 : Int32 → Mem → Prop) (ih23 : ∀ (x4 : Int32) (M : Mem), pk23 x4 M → Rc g 68 cx mL_law_ 23 [some (.ref 5000000), some (.ref 1558), some (.ref 0), some (.ref 1557), some (.int x4), none, none, none] [] M ((k23 x4 M))) (x4 : Int32) (xs0 : Int32) (M : Mem) (hp : P__law__1587 g pk23 x4 xs0 M) : Rc g 68 cx mL_law_ 1587 [some (.ref 5000000), some (.ref 1558), some (.ref 0), some (.ref 1557), some (.int x4), none, none, none] [.int xs0] M ((F__law__1587 g k23 x4 xs0 M)) := by
  rw [F__law__1587]
  rw [P__law__1587] at hp
  obtain ⟨p0, hp⟩ := hp
  refine b_law__1587 p0 ?_
  obtain ⟨p1, hp⟩ := hp
  refine b_law__1596 p1 ?_
  obtain ⟨p2, hp⟩ := hp
  refine b_law__1602 p2 ?_
  obtain ⟨hc, hp⟩ := hp
  refine b_law__1608  (C_12_meet (scX g ((x4 + 1).toNatClampNeg)) (scX g ((x4 + 2).toNatClampNeg)) (scX g ((x4 + 3).toNatClampNeg)) M hc) (Nat.le_of_ble_eq_true rfl) ?_
  exact R_cw (by omega) (T__law__1611 k23 pk23 ih23 x4 xs0 ((F_12_meet_0 (scX g ((x4 + 1).toNatClampNeg)) (scX g ((x4 + 2).toNatClampNeg)) (scX g ((x4 + 3).toNatClampNeg)) M).1) ((F_12_meet_0 (scX g ((x4 + 1).toNatClampNeg)) (scX g ((x4 + 2).toNatClampNeg)) (scX g ((x4 + 3).toNatClampNeg)) M).2) hp)
def F__law__1564 (g : Gl) (k23 : Int32 → Mem → Oc) (x4 : Int32) (M : Mem) : Oc := F__law__1587 g k23 x4 ((W_meet (scX g ((x4 + 1).toNatClampNeg)) (scX g ((x4 + 2).toNatClampNeg)) (scX g ((x4 + 3).toNatClampNeg)) M).1) ((W_meet (scX g ((x4 + 1).toNatClampNeg)) (scX g ((x4 + 2).toNatClampNeg)) (scX g ((x4 + 3).toNatClampNeg)) M).2)
def P__law__1564 (g : Gl) (pk23 : Int32 → Mem → Prop) (x4 : Int32) (M : Mem) : Prop := (vp_in (x4 + 1) (g.2.2.2 5000001)) ∧ ((vp_in (x4 + 2) (g.2.2.2 5000001)) ∧ ((vp_in (x4 + 3) (g.2.2.2 5000001)) ∧ (((Q_meet (scX g ((x4 + 1).toNatClampNeg)) (scX g ((x4 + 2).toNatClampNeg)) (scX g ((x4 + 3).toNatClampNeg)) M) ∧ (P__law__1587 g pk23 x4 ((W_meet (scX g ((x4 + 1).toNatClampNeg)) (scX g ((x4 + 2).toNatClampNeg)) (scX g ((x4 + 3).toNatClampNeg)) M).1) ((W_meet (scX g ((x4 + 1).toNatClampNeg)) (scX g ((x4 + 2).toNatClampNeg)) (scX g ((x4 + 3).toNatClampNeg)) M).2))))))
theorem T__law__1564 {g : Gl} {cx : Nat} (k23 : Int32 → Mem → Oc) (pk23 : Int32 → Mem → Prop) (ih23 : ∀ (x4 : Int32) (M : Mem), pk23 x4 M → Rc g 68 cx mL_law_ 23 [some (.ref 5000000), some (.ref 1558), some (.ref 0), some (.ref 1557), some (.int x4), none, none, none] [] M ((k23 x4 M))) (x4 : Int32) (M : Mem) (hp : P__law__1564 g pk23 x4 M) : Rc g 68 (cx + 8) mL_law_ 1564 [some (.ref 5000000), some (.ref 1558), some (.ref 0), some (.ref 1557), some (.int x4), none, none, none] [] M ((F__law__1564 g k23 x4 M)) := by
  rw [F__law__1564]
  rw [P__law__1564] at hp
  obtain ⟨p0, hp⟩ := hp
  refine b_law__1564 p0 ?_
  obtain ⟨p1, hp⟩ := hp
  refine b_law__1571 p1 ?_
  obtain ⟨p2, hp⟩ := hp
  refine b_law__1577 p2 ?_
  obtain ⟨hc, hp⟩ := hp
  refine R_cw (cx := cx + 3) (by omega) (b_law__1583 (cx := cx)  (CW_meet (scX g ((x4 + 1).toNatClampNeg)) (scX g ((x4 + 2).toNatClampNeg)) (scX g ((x4 + 3).toNatClampNeg)) M hc) (Nat.le_of_ble_eq_true rfl) ?_)
  exact R_cw (by omega) (T__law__1587 k23 pk23 ih23 x4 ((W_meet (scX g ((x4 + 1).toNatClampNeg)) (scX g ((x4 + 2).toNatClampNeg)) (scX g ((x4 + 3).toNatClampNeg)) M).1) ((W_meet (scX g ((x4 + 1).toNatClampNeg)) (scX g ((x4 + 2).toNatClampNeg)) (scX g ((x4 + 3).toNatClampNeg)) M).2) hp)
def F__law__1721 (g : Gl) (k23 : Int32 → Mem → Oc) (x4 : Int32) (M : Mem) : Oc := F__law__2461 g k23 x4 M
def P__law__1721 (g : Gl) (pk23 : Int32 → Mem → Prop) (x4 : Int32) (M : Mem) : Prop := (P__law__2461 g pk23 x4 M)
theorem T__law__1721 {g : Gl} {cx : Nat} (k23 : Int32 → Mem → Oc) (pk23 : Int32 → Mem → Prop) (ih23 : ∀ (x4 : Int32) (M : Mem), pk23 x4 M → Rc g 68 cx mL_law_ 23 [some (.ref 5000000), some (.ref 1558), some (.ref 0), some (.ref 1557), some (.int x4), none, none, none] [] M ((k23 x4 M))) (x4 : Int32) (M : Mem) (hp : P__law__1721 g pk23 x4 M) : Rc g 68 cx mL_law_ 1721 [some (.ref 5000000), some (.ref 1558), some (.ref 0), some (.ref 1557), some (.int x4), none, none, none] [] M ((F__law__1721 g k23 x4 M)) := by
  rw [F__law__1721]
  rw [P__law__1721] at hp
  refine b_law__1721  ?_
  exact R_cw (by omega) (T__law__2461 k23 pk23 ih23 x4 M hp)
def F__law__1691 (g : Gl) (k23 : Int32 → Mem → Oc) (x4 : Int32) (x5 : Int32) (xs0 : Int32) (M : Mem) : Oc := if (F_12_thrown_0 M) = x5 then (if x5 = 0 then (if (lg_cmp (rl M 1557 ((0 : Int32).toNatClampNeg)) xs0.toInt64) = 0 then (F__law__1721 g k23 x4 M) else (.inl (some (.int 0), M))) else (F__law__1721 g k23 x4 M)) else (.inl (some (.int 0), M))
def P__law__1691 (g : Gl) (pk23 : Int32 → Mem → Prop) (x4 : Int32) (x5 : Int32) (xs0 : Int32) (M : Mem) : Prop := (((((F_12_thrown_0 M) = x5 → ((¬ x5 = 0 → P__law__1721 g pk23 x4 M) ∧ (x5 = 0 → (((lg_cmp (rl M 1557 ((0 : Int32).toNatClampNeg)) xs0.toInt64) = 0 → P__law__1721 g pk23 x4 M) ∧ (¬ (lg_cmp (rl M 1557 ((0 : Int32).toNatClampNeg)) xs0.toInt64) = 0 → True))))) ∧ (¬ (F_12_thrown_0 M) = x5 → True))))
theorem T__law__1691 {g : Gl} {cx : Nat} (k23 : Int32 → Mem → Oc) (pk23 : Int32 → Mem → Prop) (ih23 : ∀ (x4 : Int32) (M : Mem), pk23 x4 M → Rc g 68 cx mL_law_ 23 [some (.ref 5000000), some (.ref 1558), some (.ref 0), some (.ref 1557), some (.int x4), none, none, none] [] M ((k23 x4 M))) (x4 : Int32) (x5 : Int32) (xs0 : Int32) (M : Mem) (hp : P__law__1691 g pk23 x4 x5 xs0 M) : Rc g 68 cx mL_law_ 1691 [some (.ref 5000000), some (.ref 1558), some (.ref 0), some (.ref 1557), some (.int x4), some (.int x5), none, none] [.int xs0] M ((F__law__1691 g k23 x4 x5 xs0 M)) := by
  rw [F__law__1691]
  rw [P__law__1691] at hp
  refine b_law__1691  (C_12_thrown  M) (Nat.le_of_ble_eq_true rfl) ?_
  refine b_law__1697  (fun h => ?_) (fun h => ?_)
  · rw [if_pos h]
    have hp := hp.1 h
    refine b_law__1704  (fun h => ?_) (fun h => ?_)
    · rw [if_neg h]
      have hp := hp.1 h
      exact R_cw (by omega) (T__law__1721 k23 pk23 ih23 x4 M hp)
    · rw [if_pos h]
      have hp := hp.2 h
      refine b_law__1709 (vpl (by decide)) (fun h => ?_) (fun h => ?_)
      · rw [if_pos h]
        have hp := hp.1 h
        exact R_cw (by omega) (T__law__1721 k23 pk23 ih23 x4 M hp)
      · rw [if_neg h]
        exact b_law__1719  rfl
  · rw [if_neg h]
    exact b_law__1702  rfl
def F__law__1667 (g : Gl) (k23 : Int32 → Mem → Oc) (x4 : Int32) (xs0 : Int32) (M : Mem) : Oc := F__law__1691 g k23 x4 xs0 ((F_12_parted_0 (scX g ((x4 + 1).toNatClampNeg)) (scX g ((x4 + 2).toNatClampNeg)) (scX g ((x4 + 3).toNatClampNeg)) M).1) ((F_12_parted_0 (scX g ((x4 + 1).toNatClampNeg)) (scX g ((x4 + 2).toNatClampNeg)) (scX g ((x4 + 3).toNatClampNeg)) M).2)
def P__law__1667 (g : Gl) (pk23 : Int32 → Mem → Prop) (x4 : Int32) (xs0 : Int32) (M : Mem) : Prop := (vp_in (x4 + 1) (g.2.2.2 5000001)) ∧ ((vp_in (x4 + 2) (g.2.2.2 5000001)) ∧ ((vp_in (x4 + 3) (g.2.2.2 5000001)) ∧ (((P_12_parted_0 (scX g ((x4 + 1).toNatClampNeg)) (scX g ((x4 + 2).toNatClampNeg)) (scX g ((x4 + 3).toNatClampNeg)) M) ∧ (P__law__1691 g pk23 x4 xs0 ((F_12_parted_0 (scX g ((x4 + 1).toNatClampNeg)) (scX g ((x4 + 2).toNatClampNeg)) (scX g ((x4 + 3).toNatClampNeg)) M).1) ((F_12_parted_0 (scX g ((x4 + 1).toNatClampNeg)) (scX g ((x4 + 2).toNatClampNeg)) (scX g ((x4 + 3).toNatClampNeg)) M).2))))))
theorem T__law__1667 {g : Gl} {cx : Nat} (k23 : Int32 → Mem → Oc) (pk23 : Int32 → Mem → Prop) (ih23 : ∀ (x4 : Int32) (M : Mem), pk23 x4 M → Rc g 68 cx mL_law_ 23 [some (.ref 5000000), some (.ref 1558), some (.ref 0), some (.ref 1557), some (.int x4), none, none, none] [] M ((k23 x4 M))) (x4 : Int32) (xs0 : Int32) (M : Mem) (hp : P__law__1667 g pk23 x4 xs0 M) : Rc g 68 cx mL_law_ 1667 [some (.ref 5000000), some (.ref 1558), some (.ref 0), some (.ref 1557), some (.int x4), none, none, none] [.int xs0] M ((F__law__1667 g k23 x4 xs0 M)) := by
  rw [F__law__1667]
  rw [P__law__1667] at hp
  obtain ⟨p0, hp⟩ := hp
  refine b_law__1667 p0 ?_
  obtain ⟨p1, hp⟩ := hp
  refine b_law__1676 p1 ?_
  obtain ⟨p2, hp⟩ := hp
  refine b_law__1682 p2 ?_
  obtain ⟨hc, hp⟩ := hp
  refine b_law__1688  (C_12_parted (scX g ((x4 + 1).toNatClampNeg)) (scX g ((x4 + 2).toNatClampNeg)) (scX g ((x4 + 3).toNatClampNeg)) M hc) (Nat.le_of_ble_eq_true rfl) ?_
  exact R_cw (by omega) (T__law__1691 k23 pk23 ih23 x4 xs0 ((F_12_parted_0 (scX g ((x4 + 1).toNatClampNeg)) (scX g ((x4 + 2).toNatClampNeg)) (scX g ((x4 + 3).toNatClampNeg)) M).1) ((F_12_parted_0 (scX g ((x4 + 1).toNatClampNeg)) (scX g ((x4 + 2).toNatClampNeg)) (scX g ((x4 + 3).toNatClampNeg)) M).2) hp)
def F__law__1644 (g : Gl) (k23 : Int32 → Mem → Oc) (x4 : Int32) (M : Mem) : Oc := F__law__1667 g k23 x4 ((W_parted (scX g ((x4 + 1).toNatClampNeg)) (scX g ((x4 + 2).toNatClampNeg)) (scX g ((x4 + 3).toNatClampNeg)) M).1) ((W_parted (scX g ((x4 + 1).toNatClampNeg)) (scX g ((x4 + 2).toNatClampNeg)) (scX g ((x4 + 3).toNatClampNeg)) M).2)
def P__law__1644 (g : Gl) (pk23 : Int32 → Mem → Prop) (x4 : Int32) (M : Mem) : Prop := (vp_in (x4 + 1) (g.2.2.2 5000001)) ∧ ((vp_in (x4 + 2) (g.2.2.2 5000001)) ∧ ((vp_in (x4 + 3) (g.2.2.2 5000001)) ∧ (((Q_parted (scX g ((x4 + 1).toNatClampNeg)) (scX g ((x4 + 2).toNatClampNeg)) (scX g ((x4 + 3).toNatClampNeg)) M) ∧ (P__law__1667 g pk23 x4 ((W_parted (scX g ((x4 + 1).toNatClampNeg)) (scX g ((x4 + 2).toNatClampNeg)) (scX g ((x4 + 3).toNatClampNeg)) M).1) ((W_parted (scX g ((x4 + 1).toNatClampNeg)) (scX g ((x4 + 2).toNatClampNeg)) (scX g ((x4 + 3).toNatClampNeg)) M).2))))))
theorem T__law__1644 {g : Gl} {cx : Nat} (k23 : Int32 → Mem → Oc) (pk23 : Int32 → Mem → Prop) (ih23 : ∀ (x4 : Int32) (M : Mem), pk23 x4 M → Rc g 68 cx mL_law_ 23 [some (.ref 5000000), some (.ref 1558), some (.ref 0), some (.ref 1557), some (.int x4), none, none, none] [] M ((k23 x4 M))) (x4 : Int32) (M : Mem) (hp : P__law__1644 g pk23 x4 M) : Rc g 68 (cx + 8) mL_law_ 1644 [some (.ref 5000000), some (.ref 1558), some (.ref 0), some (.ref 1557), some (.int x4), none, none, none] [] M ((F__law__1644 g k23 x4 M)) := by
  rw [F__law__1644]
  rw [P__law__1644] at hp
  obtain ⟨p0, hp⟩ := hp
  refine b_law__1644 p0 ?_
  obtain ⟨p1, hp⟩ := hp
  refine b_law__1651 p1 ?_
  obtain ⟨p2, hp⟩ := hp
  refine b_law__1657 p2 ?_
  obtain ⟨hc, hp⟩ := hp
  refine R_cw (cx := cx + 3) (by omega) (b_law__1663 (cx := cx)  (CW_parted (scX g ((x4 + 1).toNatClampNeg)) (scX g ((x4 + 2).toNatClampNeg)) (scX g ((x4 + 3).toNatClampNeg)) M hc) (Nat.le_of_ble_eq_true rfl) ?_)
  exact R_cw (by omega) (T__law__1667 k23 pk23 ih23 x4 ((W_parted (scX g ((x4 + 1).toNatClampNeg)) (scX g ((x4 + 2).toNatClampNeg)) (scX g ((x4 + 3).toNatClampNeg)) M).1) ((W_parted (scX g ((x4 + 1).toNatClampNeg)) (scX g ((x4 + 2).toNatClampNeg)) (scX g ((x4 + 3).toNatClampNeg)) M).2) hp)
def F__law__1800 (g : Gl) (k23 : Int32 → Mem → Oc) (x4 : Int32) (M : Mem) : Oc := F__law__2461 g k23 x4 M
def P__law__1800 (g : Gl) (pk23 : Int32 → Mem → Prop) (x4 : Int32) (M : Mem) : Prop := (P__law__2461 g pk23 x4 M)
theorem T__law__1800 {g : Gl} {cx : Nat} (k23 : Int32 → Mem → Oc) (pk23 : Int32 → Mem → Prop) (ih23 : ∀ (x4 : Int32) (M : Mem), pk23 x4 M → Rc g 68 cx mL_law_ 23 [some (.ref 5000000), some (.ref 1558), some (.ref 0), some (.ref 1557), some (.int x4), none, none, none] [] M ((k23 x4 M))) (x4 : Int32) (M : Mem) (hp : P__law__1800 g pk23 x4 M) : Rc g 68 cx mL_law_ 1800 [some (.ref 5000000), some (.ref 1558), some (.ref 0), some (.ref 1557), some (.int x4), none, none, none] [] M ((F__law__1800 g k23 x4 M)) := by
  rw [F__law__1800]
  rw [P__law__1800] at hp
  refine b_law__1800  ?_
  exact R_cw (by omega) (T__law__2461 k23 pk23 ih23 x4 M hp)
def F__law__1771 (g : Gl) (k23 : Int32 → Mem → Oc) (x4 : Int32) (x5 : Int32) (ys0 : Int64) (M : Mem) : Oc := if (F_12_thrown_0 M) = x5 then (if x5 = 0 then (if (lg_cmp (rl M 1557 ((0 : Int32).toNatClampNeg)) ys0) = 0 then (F__law__1800 g k23 x4 M) else (.inl (some (.int 0), M))) else (F__law__1800 g k23 x4 M)) else (.inl (some (.int 0), M))
def P__law__1771 (g : Gl) (pk23 : Int32 → Mem → Prop) (x4 : Int32) (x5 : Int32) (ys0 : Int64) (M : Mem) : Prop := (((((F_12_thrown_0 M) = x5 → ((¬ x5 = 0 → P__law__1800 g pk23 x4 M) ∧ (x5 = 0 → (((lg_cmp (rl M 1557 ((0 : Int32).toNatClampNeg)) ys0) = 0 → P__law__1800 g pk23 x4 M) ∧ (¬ (lg_cmp (rl M 1557 ((0 : Int32).toNatClampNeg)) ys0) = 0 → True))))) ∧ (¬ (F_12_thrown_0 M) = x5 → True))))
theorem T__law__1771 {g : Gl} {cx : Nat} (k23 : Int32 → Mem → Oc) (pk23 : Int32 → Mem → Prop) (ih23 : ∀ (x4 : Int32) (M : Mem), pk23 x4 M → Rc g 68 cx mL_law_ 23 [some (.ref 5000000), some (.ref 1558), some (.ref 0), some (.ref 1557), some (.int x4), none, none, none] [] M ((k23 x4 M))) (x4 : Int32) (x5 : Int32) (ys0 : Int64) (M : Mem) (hp : P__law__1771 g pk23 x4 x5 ys0 M) : Rc g 68 cx mL_law_ 1771 [some (.ref 5000000), some (.ref 1558), some (.ref 0), some (.ref 1557), some (.int x4), some (.int x5), none, none] [.long ys0] M ((F__law__1771 g k23 x4 x5 ys0 M)) := by
  rw [F__law__1771]
  rw [P__law__1771] at hp
  refine b_law__1771  (C_12_thrown  M) (Nat.le_of_ble_eq_true rfl) ?_
  refine b_law__1777  (fun h => ?_) (fun h => ?_)
  · rw [if_pos h]
    have hp := hp.1 h
    refine b_law__1784  (fun h => ?_) (fun h => ?_)
    · rw [if_neg h]
      have hp := hp.1 h
      exact R_cw (by omega) (T__law__1800 k23 pk23 ih23 x4 M hp)
    · rw [if_pos h]
      have hp := hp.2 h
      refine b_law__1789 (vpl (by decide)) (fun h => ?_) (fun h => ?_)
      · rw [if_pos h]
        have hp := hp.1 h
        exact R_cw (by omega) (T__law__1800 k23 pk23 ih23 x4 M hp)
      · rw [if_neg h]
        exact b_law__1798  rfl
  · rw [if_neg h]
    exact b_law__1782  rfl
def F__law__1747 (g : Gl) (k23 : Int32 → Mem → Oc) (x4 : Int32) (xs0 : Int32) (M : Mem) : Oc := F__law__1771 g k23 x4 xs0 ((F_12_quiet_0 (scX g ((x4 + 1).toNatClampNeg)) (scX g ((x4 + 2).toNatClampNeg)) (scX g ((x4 + 3).toNatClampNeg)) M).1) ((F_12_quiet_0 (scX g ((x4 + 1).toNatClampNeg)) (scX g ((x4 + 2).toNatClampNeg)) (scX g ((x4 + 3).toNatClampNeg)) M).2)
def P__law__1747 (g : Gl) (pk23 : Int32 → Mem → Prop) (x4 : Int32) (xs0 : Int32) (M : Mem) : Prop := (vp_in (x4 + 1) (g.2.2.2 5000001)) ∧ ((vp_in (x4 + 2) (g.2.2.2 5000001)) ∧ ((vp_in (x4 + 3) (g.2.2.2 5000001)) ∧ (((P_12_quiet_0 (scX g ((x4 + 1).toNatClampNeg)) (scX g ((x4 + 2).toNatClampNeg)) (scX g ((x4 + 3).toNatClampNeg)) M) ∧ (P__law__1771 g pk23 x4 xs0 ((F_12_quiet_0 (scX g ((x4 + 1).toNatClampNeg)) (scX g ((x4 + 2).toNatClampNeg)) (scX g ((x4 + 3).toNatClampNeg)) M).1) ((F_12_quiet_0 (scX g ((x4 + 1).toNatClampNeg)) (scX g ((x4 + 2).toNatClampNeg)) (scX g ((x4 + 3).toNatClampNeg)) M).2))))))
theorem T__law__1747 {g : Gl} {cx : Nat} (k23 : Int32 → Mem → Oc) (pk23 : Int32 → Mem → Prop) (ih23 : ∀ (x4 : Int32) (M : Mem), pk23 x4 M → Rc g 68 cx mL_law_ 23 [some (.ref 5000000), some (.ref 1558), some (.ref 0), some (.ref 1557), some (.int x4), none, none, none] [] M ((k23 x4 M))) (x4 : Int32) (xs0 : Int32) (M : Mem) (hp : P__law__1747 g pk23 x4 xs0 M) : Rc g 68 cx mL_law_ 1747 [some (.ref 5000000), some (.ref 1558), some (.ref 0), some (.ref 1557), some (.int x4), none, none, none] [.int xs0] M ((F__law__1747 g k23 x4 xs0 M)) := by
  rw [F__law__1747]
  rw [P__law__1747] at hp
  obtain ⟨p0, hp⟩ := hp
  refine b_law__1747 p0 ?_
  obtain ⟨p1, hp⟩ := hp
  refine b_law__1756 p1 ?_
  obtain ⟨p2, hp⟩ := hp
  refine b_law__1762 p2 ?_
  obtain ⟨hc, hp⟩ := hp
  refine b_law__1768  (C_12_quiet (scX g ((x4 + 1).toNatClampNeg)) (scX g ((x4 + 2).toNatClampNeg)) (scX g ((x4 + 3).toNatClampNeg)) M hc) (Nat.le_of_ble_eq_true rfl) ?_
  exact R_cw (by omega) (T__law__1771 k23 pk23 ih23 x4 xs0 ((F_12_quiet_0 (scX g ((x4 + 1).toNatClampNeg)) (scX g ((x4 + 2).toNatClampNeg)) (scX g ((x4 + 3).toNatClampNeg)) M).1) ((F_12_quiet_0 (scX g ((x4 + 1).toNatClampNeg)) (scX g ((x4 + 2).toNatClampNeg)) (scX g ((x4 + 3).toNatClampNeg)) M).2) hp)
def F__law__1724 (g : Gl) (k23 : Int32 → Mem → Oc) (x4 : Int32) (M : Mem) : Oc := F__law__1747 g k23 x4 ((W_quiet (scX g ((x4 + 1).toNatClampNeg)) (scX g ((x4 + 2).toNatClampNeg)) (scX g ((x4 + 3).toNatClampNeg)) M).1) ((W_quiet (scX g ((x4 + 1).toNatClampNeg)) (scX g ((x4 + 2).toNatClampNeg)) (scX g ((x4 + 3).toNatClampNeg)) M).2)
def P__law__1724 (g : Gl) (pk23 : Int32 → Mem → Prop) (x4 : Int32) (M : Mem) : Prop := (vp_in (x4 + 1) (g.2.2.2 5000001)) ∧ ((vp_in (x4 + 2) (g.2.2.2 5000001)) ∧ ((vp_in (x4 + 3) (g.2.2.2 5000001)) ∧ (((Q_quiet (scX g ((x4 + 1).toNatClampNeg)) (scX g ((x4 + 2).toNatClampNeg)) (scX g ((x4 + 3).toNatClampNeg)) M) ∧ (P__law__1747 g pk23 x4 ((W_quiet (scX g ((x4 + 1).toNatClampNeg)) (scX g ((x4 + 2).toNatClampNeg)) (scX g ((x4 + 3).toNatClampNeg)) M).1) ((W_quiet (scX g ((x4 + 1).toNatClampNeg)) (scX g ((x4 + 2).toNatClampNeg)) (scX g ((x4 + 3).toNatClampNeg)) M).2))))))
theorem T__law__1724 {g : Gl} {cx : Nat} (k23 : Int32 → Mem → Oc) (pk23 : Int32 → Mem → Prop) (ih23 : ∀ (x4 : Int32) (M : Mem), pk23 x4 M → Rc g 68 cx mL_law_ 23 [some (.ref 5000000), some (.ref 1558), some (.ref 0), some (.ref 1557), some (.int x4), none, none, none] [] M ((k23 x4 M))) (x4 : Int32) (M : Mem) (hp : P__law__1724 g pk23 x4 M) : Rc g 68 (cx + 8) mL_law_ 1724 [some (.ref 5000000), some (.ref 1558), some (.ref 0), some (.ref 1557), some (.int x4), none, none, none] [] M ((F__law__1724 g k23 x4 M)) := by
  rw [F__law__1724]
  rw [P__law__1724] at hp
  obtain ⟨p0, hp⟩ := hp
  refine b_law__1724 p0 ?_
  obtain ⟨p1, hp⟩ := hp
  refine b_law__1731 p1 ?_
  obtain ⟨p2, hp⟩ := hp
  refine b_law__1737 p2 ?_
  obtain ⟨hc, hp⟩ := hp
  refine R_cw (cx := cx + 3) (by omega) (b_law__1743 (cx := cx)  (CW_quiet (scX g ((x4 + 1).toNatClampNeg)) (scX g ((x4 + 2).toNatClampNeg)) (scX g ((x4 + 3).toNatClampNeg)) M hc) (Nat.le_of_ble_eq_true rfl) ?_)
  exact R_cw (by omega) (T__law__1747 k23 pk23 ih23 x4 ((W_quiet (scX g ((x4 + 1).toNatClampNeg)) (scX g ((x4 + 2).toNatClampNeg)) (scX g ((x4 + 3).toNatClampNeg)) M).1) ((W_quiet (scX g ((x4 + 1).toNatClampNeg)) (scX g ((x4 + 2).toNatClampNeg)) (scX g ((x4 + 3).toNatClampNeg)) M).2) hp)
def F__law__1868 (g : Gl) (k23 : Int32 → Mem → Oc) (x4 : Int32) (M : Mem) : Oc := F__law__2461 g k23 x4 M
def P__law__1868 (g : Gl) (pk23 : Int32 → Mem → Prop) (x4 : Int32) (M : Mem) : Prop := (P__law__2461 g pk23 x4 M)
theorem T__law__1868 {g : Gl} {cx : Nat} (k23 : Int32 → Mem → Oc) (pk23 : Int32 → Mem → Prop) (ih23 : ∀ (x4 : Int32) (M : Mem), pk23 x4 M → Rc g 68 cx mL_law_ 23 [some (.ref 5000000), some (.ref 1558), some (.ref 0), some (.ref 1557), some (.int x4), none, none, none] [] M ((k23 x4 M))) (x4 : Int32) (M : Mem) (hp : P__law__1868 g pk23 x4 M) : Rc g 68 cx mL_law_ 1868 [some (.ref 5000000), some (.ref 1558), some (.ref 0), some (.ref 1557), some (.int x4), none, none, none] [] M ((F__law__1868 g k23 x4 M)) := by
  rw [F__law__1868]
  rw [P__law__1868] at hp
  refine b_law__1868  ?_
  exact R_cw (by omega) (T__law__2461 k23 pk23 ih23 x4 M hp)
def F__law__1838 (g : Gl) (k23 : Int32 → Mem → Oc) (x4 : Int32) (x5 : Int32) (xs0 : Int32) (M : Mem) : Oc := if (F_12_thrown_0 M) = x5 then (if x5 = 0 then (if (lg_cmp (rl M 1557 ((0 : Int32).toNatClampNeg)) xs0.toInt64) = 0 then (F__law__1868 g k23 x4 M) else (.inl (some (.int 0), M))) else (F__law__1868 g k23 x4 M)) else (.inl (some (.int 0), M))
def P__law__1838 (g : Gl) (pk23 : Int32 → Mem → Prop) (x4 : Int32) (x5 : Int32) (xs0 : Int32) (M : Mem) : Prop := (((((F_12_thrown_0 M) = x5 → ((¬ x5 = 0 → P__law__1868 g pk23 x4 M) ∧ (x5 = 0 → (((lg_cmp (rl M 1557 ((0 : Int32).toNatClampNeg)) xs0.toInt64) = 0 → P__law__1868 g pk23 x4 M) ∧ (¬ (lg_cmp (rl M 1557 ((0 : Int32).toNatClampNeg)) xs0.toInt64) = 0 → True))))) ∧ (¬ (F_12_thrown_0 M) = x5 → True))))
theorem T__law__1838 {g : Gl} {cx : Nat} (k23 : Int32 → Mem → Oc) (pk23 : Int32 → Mem → Prop) (ih23 : ∀ (x4 : Int32) (M : Mem), pk23 x4 M → Rc g 68 cx mL_law_ 23 [some (.ref 5000000), some (.ref 1558), some (.ref 0), some (.ref 1557), some (.int x4), none, none, none] [] M ((k23 x4 M))) (x4 : Int32) (x5 : Int32) (xs0 : Int32) (M : Mem) (hp : P__law__1838 g pk23 x4 x5 xs0 M) : Rc g 68 cx mL_law_ 1838 [some (.ref 5000000), some (.ref 1558), some (.ref 0), some (.ref 1557), some (.int x4), some (.int x5), none, none] [.int xs0] M ((F__law__1838 g k23 x4 x5 xs0 M)) := by
  rw [F__law__1838]
  rw [P__law__1838] at hp
  refine b_law__1838  (C_12_thrown  M) (Nat.le_of_ble_eq_true rfl) ?_
  refine b_law__1844  (fun h => ?_) (fun h => ?_)
  · rw [if_pos h]
    have hp := hp.1 h
    refine b_law__1851  (fun h => ?_) (fun h => ?_)
    · rw [if_neg h]
      have hp := hp.1 h
      exact R_cw (by omega) (T__law__1868 k23 pk23 ih23 x4 M hp)
    · rw [if_pos h]
      have hp := hp.2 h
      refine b_law__1856 (vpl (by decide)) (fun h => ?_) (fun h => ?_)
      · rw [if_pos h]
        have hp := hp.1 h
        exact R_cw (by omega) (T__law__1868 k23 pk23 ih23 x4 M hp)
      · rw [if_neg h]
        exact b_law__1866  rfl
  · rw [if_neg h]
    exact b_law__1849  rfl
def F__law__1820 (g : Gl) (k23 : Int32 → Mem → Oc) (x4 : Int32) (xs0 : Int32) (M : Mem) : Oc := F__law__1838 g k23 x4 xs0 ((F_12_way_0 (scX g ((x4 + 1).toNatClampNeg)) (scX g ((x4 + 2).toNatClampNeg)) M).1) ((F_12_way_0 (scX g ((x4 + 1).toNatClampNeg)) (scX g ((x4 + 2).toNatClampNeg)) M).2)
def P__law__1820 (g : Gl) (pk23 : Int32 → Mem → Prop) (x4 : Int32) (xs0 : Int32) (M : Mem) : Prop := (vp_in (x4 + 1) (g.2.2.2 5000001)) ∧ ((vp_in (x4 + 2) (g.2.2.2 5000001)) ∧ (((P_12_way_0 (scX g ((x4 + 1).toNatClampNeg)) (scX g ((x4 + 2).toNatClampNeg)) M) ∧ (P__law__1838 g pk23 x4 xs0 ((F_12_way_0 (scX g ((x4 + 1).toNatClampNeg)) (scX g ((x4 + 2).toNatClampNeg)) M).1) ((F_12_way_0 (scX g ((x4 + 1).toNatClampNeg)) (scX g ((x4 + 2).toNatClampNeg)) M).2)))))
theorem T__law__1820 {g : Gl} {cx : Nat} (k23 : Int32 → Mem → Oc) (pk23 : Int32 → Mem → Prop) (ih23 : ∀ (x4 : Int32) (M : Mem), pk23 x4 M → Rc g 68 cx mL_law_ 23 [some (.ref 5000000), some (.ref 1558), some (.ref 0), some (.ref 1557), some (.int x4), none, none, none] [] M ((k23 x4 M))) (x4 : Int32) (xs0 : Int32) (M : Mem) (hp : P__law__1820 g pk23 x4 xs0 M) : Rc g 68 cx mL_law_ 1820 [some (.ref 5000000), some (.ref 1558), some (.ref 0), some (.ref 1557), some (.int x4), none, none, none] [.int xs0] M ((F__law__1820 g k23 x4 xs0 M)) := by
  rw [F__law__1820]
  rw [P__law__1820] at hp
  obtain ⟨p0, hp⟩ := hp
  refine b_law__1820 p0 ?_
  obtain ⟨p1, hp⟩ := hp
  refine b_law__1829 p1 ?_
  obtain ⟨hc, hp⟩ := hp
  refine b_law__1835  (C_12_way (scX g ((x4 + 1).toNatClampNeg)) (scX g ((x4 + 2).toNatClampNeg)) M hc) (Nat.le_of_ble_eq_true rfl) ?_
  exact R_cw (by omega) (T__law__1838 k23 pk23 ih23 x4 xs0 ((F_12_way_0 (scX g ((x4 + 1).toNatClampNeg)) (scX g ((x4 + 2).toNatClampNeg)) M).1) ((F_12_way_0 (scX g ((x4 + 1).toNatClampNeg)) (scX g ((x4 + 2).toNatClampNeg)) M).2) hp)
def F__law__1803 (g : Gl) (k23 : Int32 → Mem → Oc) (x4 : Int32) (M : Mem) : Oc := F__law__1820 g k23 x4 ((W_way (scX g ((x4 + 1).toNatClampNeg)) (scX g ((x4 + 2).toNatClampNeg)) M).1) ((W_way (scX g ((x4 + 1).toNatClampNeg)) (scX g ((x4 + 2).toNatClampNeg)) M).2)
def P__law__1803 (g : Gl) (pk23 : Int32 → Mem → Prop) (x4 : Int32) (M : Mem) : Prop := (vp_in (x4 + 1) (g.2.2.2 5000001)) ∧ ((vp_in (x4 + 2) (g.2.2.2 5000001)) ∧ (((Q_way (scX g ((x4 + 1).toNatClampNeg)) (scX g ((x4 + 2).toNatClampNeg)) M) ∧ (P__law__1820 g pk23 x4 ((W_way (scX g ((x4 + 1).toNatClampNeg)) (scX g ((x4 + 2).toNatClampNeg)) M).1) ((W_way (scX g ((x4 + 1).toNatClampNeg)) (scX g ((x4 + 2).toNatClampNeg)) M).2)))))
theorem T__law__1803 {g : Gl} {cx : Nat} (k23 : Int32 → Mem → Oc) (pk23 : Int32 → Mem → Prop) (ih23 : ∀ (x4 : Int32) (M : Mem), pk23 x4 M → Rc g 68 cx mL_law_ 23 [some (.ref 5000000), some (.ref 1558), some (.ref 0), some (.ref 1557), some (.int x4), none, none, none] [] M ((k23 x4 M))) (x4 : Int32) (M : Mem) (hp : P__law__1803 g pk23 x4 M) : Rc g 68 (cx + 8) mL_law_ 1803 [some (.ref 5000000), some (.ref 1558), some (.ref 0), some (.ref 1557), some (.int x4), none, none, none] [] M ((F__law__1803 g k23 x4 M)) := by
  rw [F__law__1803]
  rw [P__law__1803] at hp
  obtain ⟨p0, hp⟩ := hp
  refine b_law__1803 p0 ?_
  obtain ⟨p1, hp⟩ := hp
  refine b_law__1810 p1 ?_
  obtain ⟨hc, hp⟩ := hp
  refine R_cw (cx := cx + 2) (by omega) (b_law__1816 (cx := cx)  (CW_way (scX g ((x4 + 1).toNatClampNeg)) (scX g ((x4 + 2).toNatClampNeg)) M hc) (Nat.le_of_ble_eq_true rfl) ?_)
  exact R_cw (by omega) (T__law__1820 k23 pk23 ih23 x4 ((W_way (scX g ((x4 + 1).toNatClampNeg)) (scX g ((x4 + 2).toNatClampNeg)) M).1) ((W_way (scX g ((x4 + 1).toNatClampNeg)) (scX g ((x4 + 2).toNatClampNeg)) M).2) hp)
def F__law__1936 (g : Gl) (k23 : Int32 → Mem → Oc) (x4 : Int32) (M : Mem) : Oc := F__law__2461 g k23 x4 M
def P__law__1936 (g : Gl) (pk23 : Int32 → Mem → Prop) (x4 : Int32) (M : Mem) : Prop := (P__law__2461 g pk23 x4 M)
theorem T__law__1936 {g : Gl} {cx : Nat} (k23 : Int32 → Mem → Oc) (pk23 : Int32 → Mem → Prop) (ih23 : ∀ (x4 : Int32) (M : Mem), pk23 x4 M → Rc g 68 cx mL_law_ 23 [some (.ref 5000000), some (.ref 1558), some (.ref 0), some (.ref 1557), some (.int x4), none, none, none] [] M ((k23 x4 M))) (x4 : Int32) (M : Mem) (hp : P__law__1936 g pk23 x4 M) : Rc g 68 cx mL_law_ 1936 [some (.ref 5000000), some (.ref 1558), some (.ref 0), some (.ref 1557), some (.int x4), none, none, none] [] M ((F__law__1936 g k23 x4 M)) := by
  rw [F__law__1936]
  rw [P__law__1936] at hp
  refine b_law__1936  ?_
  exact R_cw (by omega) (T__law__2461 k23 pk23 ih23 x4 M hp)
def F__law__1906 (g : Gl) (k23 : Int32 → Mem → Oc) (x4 : Int32) (x5 : Int32) (xs0 : Int32) (M : Mem) : Oc := if (F_12_thrown_0 M) = x5 then (if x5 = 0 then (if (lg_cmp (rl M 1557 ((0 : Int32).toNatClampNeg)) xs0.toInt64) = 0 then (F__law__1936 g k23 x4 M) else (.inl (some (.int 0), M))) else (F__law__1936 g k23 x4 M)) else (.inl (some (.int 0), M))
def P__law__1906 (g : Gl) (pk23 : Int32 → Mem → Prop) (x4 : Int32) (x5 : Int32) (xs0 : Int32) (M : Mem) : Prop := (((((F_12_thrown_0 M) = x5 → ((¬ x5 = 0 → P__law__1936 g pk23 x4 M) ∧ (x5 = 0 → (((lg_cmp (rl M 1557 ((0 : Int32).toNatClampNeg)) xs0.toInt64) = 0 → P__law__1936 g pk23 x4 M) ∧ (¬ (lg_cmp (rl M 1557 ((0 : Int32).toNatClampNeg)) xs0.toInt64) = 0 → True))))) ∧ (¬ (F_12_thrown_0 M) = x5 → True))))
theorem T__law__1906 {g : Gl} {cx : Nat} (k23 : Int32 → Mem → Oc) (pk23 : Int32 → Mem → Prop) (ih23 : ∀ (x4 : Int32) (M : Mem), pk23 x4 M → Rc g 68 cx mL_law_ 23 [some (.ref 5000000), some (.ref 1558), some (.ref 0), some (.ref 1557), some (.int x4), none, none, none] [] M ((k23 x4 M))) (x4 : Int32) (x5 : Int32) (xs0 : Int32) (M : Mem) (hp : P__law__1906 g pk23 x4 x5 xs0 M) : Rc g 68 cx mL_law_ 1906 [some (.ref 5000000), some (.ref 1558), some (.ref 0), some (.ref 1557), some (.int x4), some (.int x5), none, none] [.int xs0] M ((F__law__1906 g k23 x4 x5 xs0 M)) := by
  rw [F__law__1906]
  rw [P__law__1906] at hp
  refine b_law__1906  (C_12_thrown  M) (Nat.le_of_ble_eq_true rfl) ?_
  refine b_law__1912  (fun h => ?_) (fun h => ?_)
  · rw [if_pos h]
    have hp := hp.1 h
    refine b_law__1919  (fun h => ?_) (fun h => ?_)
    · rw [if_neg h]
      have hp := hp.1 h
      exact R_cw (by omega) (T__law__1936 k23 pk23 ih23 x4 M hp)
    · rw [if_pos h]
      have hp := hp.2 h
      refine b_law__1924 (vpl (by decide)) (fun h => ?_) (fun h => ?_)
      · rw [if_pos h]
        have hp := hp.1 h
        exact R_cw (by omega) (T__law__1936 k23 pk23 ih23 x4 M hp)
      · rw [if_neg h]
        exact b_law__1934  rfl
  · rw [if_neg h]
    exact b_law__1917  rfl
def F__law__1888 (g : Gl) (k23 : Int32 → Mem → Oc) (x4 : Int32) (xs0 : Int32) (M : Mem) : Oc := F__law__1906 g k23 x4 xs0 ((F_12_next_0 (scX g ((x4 + 1).toNatClampNeg)) (scX g ((x4 + 2).toNatClampNeg)) M).1) ((F_12_next_0 (scX g ((x4 + 1).toNatClampNeg)) (scX g ((x4 + 2).toNatClampNeg)) M).2)
def P__law__1888 (g : Gl) (pk23 : Int32 → Mem → Prop) (x4 : Int32) (xs0 : Int32) (M : Mem) : Prop := (vp_in (x4 + 1) (g.2.2.2 5000001)) ∧ ((vp_in (x4 + 2) (g.2.2.2 5000001)) ∧ (((P_12_next_0 (scX g ((x4 + 1).toNatClampNeg)) (scX g ((x4 + 2).toNatClampNeg)) M) ∧ (P__law__1906 g pk23 x4 xs0 ((F_12_next_0 (scX g ((x4 + 1).toNatClampNeg)) (scX g ((x4 + 2).toNatClampNeg)) M).1) ((F_12_next_0 (scX g ((x4 + 1).toNatClampNeg)) (scX g ((x4 + 2).toNatClampNeg)) M).2)))))
theorem T__law__1888 {g : Gl} {cx : Nat} (k23 : Int32 → Mem → Oc) (pk23 : Int32 → Mem → Prop) (ih23 : ∀ (x4 : Int32) (M : Mem), pk23 x4 M → Rc g 68 cx mL_law_ 23 [some (.ref 5000000), some (.ref 1558), some (.ref 0), some (.ref 1557), some (.int x4), none, none, none] [] M ((k23 x4 M))) (x4 : Int32) (xs0 : Int32) (M : Mem) (hp : P__law__1888 g pk23 x4 xs0 M) : Rc g 68 cx mL_law_ 1888 [some (.ref 5000000), some (.ref 1558), some (.ref 0), some (.ref 1557), some (.int x4), none, none, none] [.int xs0] M ((F__law__1888 g k23 x4 xs0 M)) := by
  rw [F__law__1888]
  rw [P__law__1888] at hp
  obtain ⟨p0, hp⟩ := hp
  refine b_law__1888 p0 ?_
  obtain ⟨p1, hp⟩ := hp
  refine b_law__1897 p1 ?_
  obtain ⟨hc, hp⟩ := hp
  refine b_law__1903  (C_12_next (scX g ((x4 + 1).toNatClampNeg)) (scX g ((x4 + 2).toNatClampNeg)) M hc) (Nat.le_of_ble_eq_true rfl) ?_
  exact R_cw (by omega) (T__law__1906 k23 pk23 ih23 x4 xs0 ((F_12_next_0 (scX g ((x4 + 1).toNatClampNeg)) (scX g ((x4 + 2).toNatClampNeg)) M).1) ((F_12_next_0 (scX g ((x4 + 1).toNatClampNeg)) (scX g ((x4 + 2).toNatClampNeg)) M).2) hp)
def F__law__1871 (g : Gl) (k23 : Int32 → Mem → Oc) (x4 : Int32) (M : Mem) : Oc := F__law__1888 g k23 x4 ((W_next (scX g ((x4 + 1).toNatClampNeg)) (scX g ((x4 + 2).toNatClampNeg)) M).1) ((W_next (scX g ((x4 + 1).toNatClampNeg)) (scX g ((x4 + 2).toNatClampNeg)) M).2)
def P__law__1871 (g : Gl) (pk23 : Int32 → Mem → Prop) (x4 : Int32) (M : Mem) : Prop := (vp_in (x4 + 1) (g.2.2.2 5000001)) ∧ ((vp_in (x4 + 2) (g.2.2.2 5000001)) ∧ (((Q_next (scX g ((x4 + 1).toNatClampNeg)) (scX g ((x4 + 2).toNatClampNeg)) M) ∧ (P__law__1888 g pk23 x4 ((W_next (scX g ((x4 + 1).toNatClampNeg)) (scX g ((x4 + 2).toNatClampNeg)) M).1) ((W_next (scX g ((x4 + 1).toNatClampNeg)) (scX g ((x4 + 2).toNatClampNeg)) M).2)))))
theorem T__law__1871 {g : Gl} {cx : Nat} (k23 : Int32 → Mem → Oc) (pk23 : Int32 → Mem → Prop) (ih23 : ∀ (x4 : Int32) (M : Mem), pk23 x4 M → Rc g 68 cx mL_law_ 23 [some (.ref 5000000), some (.ref 1558), some (.ref 0), some (.ref 1557), some (.int x4), none, none, none] [] M ((k23 x4 M))) (x4 : Int32) (M : Mem) (hp : P__law__1871 g pk23 x4 M) : Rc g 68 (cx + 8) mL_law_ 1871 [some (.ref 5000000), some (.ref 1558), some (.ref 0), some (.ref 1557), some (.int x4), none, none, none] [] M ((F__law__1871 g k23 x4 M)) := by
  rw [F__law__1871]
  rw [P__law__1871] at hp
  obtain ⟨p0, hp⟩ := hp
  refine b_law__1871 p0 ?_
  obtain ⟨p1, hp⟩ := hp
  refine b_law__1878 p1 ?_
  obtain ⟨hc, hp⟩ := hp
  refine R_cw (cx := cx + 2) (by omega) (b_law__1884 (cx := cx)  (CW_next (scX g ((x4 + 1).toNatClampNeg)) (scX g ((x4 + 2).toNatClampNeg)) M hc) (Nat.le_of_ble_eq_true rfl) ?_)
  exact R_cw (by omega) (T__law__1888 k23 pk23 ih23 x4 ((W_next (scX g ((x4 + 1).toNatClampNeg)) (scX g ((x4 + 2).toNatClampNeg)) M).1) ((W_next (scX g ((x4 + 1).toNatClampNeg)) (scX g ((x4 + 2).toNatClampNeg)) M).2) hp)
def F__law__1992 (g : Gl) (k23 : Int32 → Mem → Oc) (x4 : Int32) (M : Mem) : Oc := F__law__2461 g k23 x4 M
def P__law__1992 (g : Gl) (pk23 : Int32 → Mem → Prop) (x4 : Int32) (M : Mem) : Prop := (P__law__2461 g pk23 x4 M)
theorem T__law__1992 {g : Gl} {cx : Nat} (k23 : Int32 → Mem → Oc) (pk23 : Int32 → Mem → Prop) (ih23 : ∀ (x4 : Int32) (M : Mem), pk23 x4 M → Rc g 68 cx mL_law_ 23 [some (.ref 5000000), some (.ref 1558), some (.ref 0), some (.ref 1557), some (.int x4), none, none, none] [] M ((k23 x4 M))) (x4 : Int32) (M : Mem) (hp : P__law__1992 g pk23 x4 M) : Rc g 68 cx mL_law_ 1992 [some (.ref 5000000), some (.ref 1558), some (.ref 0), some (.ref 1557), some (.int x4), none, none, none] [] M ((F__law__1992 g k23 x4 M)) := by
  rw [F__law__1992]
  rw [P__law__1992] at hp
  refine b_law__1992  ?_
  exact R_cw (by omega) (T__law__2461 k23 pk23 ih23 x4 M hp)
def F__law__1962 (g : Gl) (k23 : Int32 → Mem → Oc) (x4 : Int32) (x5 : Int32) (xs0 : Int32) (M : Mem) : Oc := if (F_12_thrown_0 M) = x5 then (if x5 = 0 then (if (lg_cmp (rl M 1557 ((0 : Int32).toNatClampNeg)) xs0.toInt64) = 0 then (F__law__1992 g k23 x4 M) else (.inl (some (.int 0), M))) else (F__law__1992 g k23 x4 M)) else (.inl (some (.int 0), M))
def P__law__1962 (g : Gl) (pk23 : Int32 → Mem → Prop) (x4 : Int32) (x5 : Int32) (xs0 : Int32) (M : Mem) : Prop := (((((F_12_thrown_0 M) = x5 → ((¬ x5 = 0 → P__law__1992 g pk23 x4 M) ∧ (x5 = 0 → (((lg_cmp (rl M 1557 ((0 : Int32).toNatClampNeg)) xs0.toInt64) = 0 → P__law__1992 g pk23 x4 M) ∧ (¬ (lg_cmp (rl M 1557 ((0 : Int32).toNatClampNeg)) xs0.toInt64) = 0 → True))))) ∧ (¬ (F_12_thrown_0 M) = x5 → True))))
theorem T__law__1962 {g : Gl} {cx : Nat} (k23 : Int32 → Mem → Oc) (pk23 : Int32 → Mem → Prop) (ih23 : ∀ (x4 : Int32) (M : Mem), pk23 x4 M → Rc g 68 cx mL_law_ 23 [some (.ref 5000000), some (.ref 1558), some (.ref 0), some (.ref 1557), some (.int x4), none, none, none] [] M ((k23 x4 M))) (x4 : Int32) (x5 : Int32) (xs0 : Int32) (M : Mem) (hp : P__law__1962 g pk23 x4 x5 xs0 M) : Rc g 68 cx mL_law_ 1962 [some (.ref 5000000), some (.ref 1558), some (.ref 0), some (.ref 1557), some (.int x4), some (.int x5), none, none] [.int xs0] M ((F__law__1962 g k23 x4 x5 xs0 M)) := by
  rw [F__law__1962]
  rw [P__law__1962] at hp
  refine b_law__1962  (C_12_thrown  M) (Nat.le_of_ble_eq_true rfl) ?_
  refine b_law__1968  (fun h => ?_) (fun h => ?_)
  · rw [if_pos h]
    have hp := hp.1 h
    refine b_law__1975  (fun h => ?_) (fun h => ?_)
    · rw [if_neg h]
      have hp := hp.1 h
      exact R_cw (by omega) (T__law__1992 k23 pk23 ih23 x4 M hp)
    · rw [if_pos h]
      have hp := hp.2 h
      refine b_law__1980 (vpl (by decide)) (fun h => ?_) (fun h => ?_)
      · rw [if_pos h]
        have hp := hp.1 h
        exact R_cw (by omega) (T__law__1992 k23 pk23 ih23 x4 M hp)
      · rw [if_neg h]
        exact b_law__1990  rfl
  · rw [if_neg h]
    exact b_law__1973  rfl
def F__law__1950 (g : Gl) (k23 : Int32 → Mem → Oc) (x4 : Int32) (xs0 : Int32) (M : Mem) : Oc := F__law__1962 g k23 x4 xs0 ((F_12_loop_0 (scX g ((x4 + 1).toNatClampNeg)) M).1) ((F_12_loop_0 (scX g ((x4 + 1).toNatClampNeg)) M).2)
def P__law__1950 (g : Gl) (pk23 : Int32 → Mem → Prop) (x4 : Int32) (xs0 : Int32) (M : Mem) : Prop := (vp_in (x4 + 1) (g.2.2.2 5000001)) ∧ (((P_12_loop_0 (scX g ((x4 + 1).toNatClampNeg)) M) ∧ (P__law__1962 g pk23 x4 xs0 ((F_12_loop_0 (scX g ((x4 + 1).toNatClampNeg)) M).1) ((F_12_loop_0 (scX g ((x4 + 1).toNatClampNeg)) M).2))))
theorem T__law__1950 {g : Gl} {cx : Nat} (k23 : Int32 → Mem → Oc) (pk23 : Int32 → Mem → Prop) (ih23 : ∀ (x4 : Int32) (M : Mem), pk23 x4 M → Rc g 68 cx mL_law_ 23 [some (.ref 5000000), some (.ref 1558), some (.ref 0), some (.ref 1557), some (.int x4), none, none, none] [] M ((k23 x4 M))) (x4 : Int32) (xs0 : Int32) (M : Mem) (hp : P__law__1950 g pk23 x4 xs0 M) : Rc g 68 cx mL_law_ 1950 [some (.ref 5000000), some (.ref 1558), some (.ref 0), some (.ref 1557), some (.int x4), none, none, none] [.int xs0] M ((F__law__1950 g k23 x4 xs0 M)) := by
  rw [F__law__1950]
  rw [P__law__1950] at hp
  obtain ⟨p0, hp⟩ := hp
  refine b_law__1950 p0 ?_
  obtain ⟨hc, hp⟩ := hp
  refine b_law__1959  (C_12_loop (scX g ((x4 + 1).toNatClampNeg)) M hc) (Nat.le_of_ble_eq_true rfl) ?_
  exact R_cw (by omega) (T__law__1962 k23 pk23 ih23 x4 xs0 ((F_12_loop_0 (scX g ((x4 + 1).toNatClampNeg)) M).1) ((F_12_loop_0 (scX g ((x4 + 1).toNatClampNeg)) M).2) hp)
def F__law__1939 (g : Gl) (k23 : Int32 → Mem → Oc) (x4 : Int32) (M : Mem) : Oc := F__law__1950 g k23 x4 ((W_loop (scX g ((x4 + 1).toNatClampNeg)) M).1) ((W_loop (scX g ((x4 + 1).toNatClampNeg)) M).2)
def P__law__1939 (g : Gl) (pk23 : Int32 → Mem → Prop) (x4 : Int32) (M : Mem) : Prop := (vp_in (x4 + 1) (g.2.2.2 5000001)) ∧ (((Q_loop (scX g ((x4 + 1).toNatClampNeg)) M) ∧ (P__law__1950 g pk23 x4 ((W_loop (scX g ((x4 + 1).toNatClampNeg)) M).1) ((W_loop (scX g ((x4 + 1).toNatClampNeg)) M).2))))
theorem T__law__1939 {g : Gl} {cx : Nat} (k23 : Int32 → Mem → Oc) (pk23 : Int32 → Mem → Prop) (ih23 : ∀ (x4 : Int32) (M : Mem), pk23 x4 M → Rc g 68 cx mL_law_ 23 [some (.ref 5000000), some (.ref 1558), some (.ref 0), some (.ref 1557), some (.int x4), none, none, none] [] M ((k23 x4 M))) (x4 : Int32) (M : Mem) (hp : P__law__1939 g pk23 x4 M) : Rc g 68 (cx + 8) mL_law_ 1939 [some (.ref 5000000), some (.ref 1558), some (.ref 0), some (.ref 1557), some (.int x4), none, none, none] [] M ((F__law__1939 g k23 x4 M)) := by
  rw [F__law__1939]
  rw [P__law__1939] at hp
  obtain ⟨p0, hp⟩ := hp
  refine b_law__1939 p0 ?_
  obtain ⟨hc, hp⟩ := hp
  refine R_cw (cx := cx + 1) (by omega) (b_law__1946 (cx := cx)  (CW_loop (scX g ((x4 + 1).toNatClampNeg)) M hc) (Nat.le_of_ble_eq_true rfl) ?_)
  exact R_cw (by omega) (T__law__1950 k23 pk23 ih23 x4 ((W_loop (scX g ((x4 + 1).toNatClampNeg)) M).1) ((W_loop (scX g ((x4 + 1).toNatClampNeg)) M).2) hp)
def F__law__2060 (g : Gl) (k23 : Int32 → Mem → Oc) (x4 : Int32) (M : Mem) : Oc := F__law__2461 g k23 x4 M
def P__law__2060 (g : Gl) (pk23 : Int32 → Mem → Prop) (x4 : Int32) (M : Mem) : Prop := (P__law__2461 g pk23 x4 M)
theorem T__law__2060 {g : Gl} {cx : Nat} (k23 : Int32 → Mem → Oc) (pk23 : Int32 → Mem → Prop) (ih23 : ∀ (x4 : Int32) (M : Mem), pk23 x4 M → Rc g 68 cx mL_law_ 23 [some (.ref 5000000), some (.ref 1558), some (.ref 0), some (.ref 1557), some (.int x4), none, none, none] [] M ((k23 x4 M))) (x4 : Int32) (M : Mem) (hp : P__law__2060 g pk23 x4 M) : Rc g 68 cx mL_law_ 2060 [some (.ref 5000000), some (.ref 1558), some (.ref 0), some (.ref 1557), some (.int x4), none, none, none] [] M ((F__law__2060 g k23 x4 M)) := by
  rw [F__law__2060]
  rw [P__law__2060] at hp
  refine b_law__2060  ?_
  exact R_cw (by omega) (T__law__2461 k23 pk23 ih23 x4 M hp)
def F__law__2030 (g : Gl) (k23 : Int32 → Mem → Oc) (x4 : Int32) (x5 : Int32) (xs0 : Int32) (M : Mem) : Oc := if (F_12_thrown_0 M) = x5 then (if x5 = 0 then (if (lg_cmp (rl M 1557 ((0 : Int32).toNatClampNeg)) xs0.toInt64) = 0 then (F__law__2060 g k23 x4 M) else (.inl (some (.int 0), M))) else (F__law__2060 g k23 x4 M)) else (.inl (some (.int 0), M))
def P__law__2030 (g : Gl) (pk23 : Int32 → Mem → Prop) (x4 : Int32) (x5 : Int32) (xs0 : Int32) (M : Mem) : Prop := (((((F_12_thrown_0 M) = x5 → ((¬ x5 = 0 → P__law__2060 g pk23 x4 M) ∧ (x5 = 0 → (((lg_cmp (rl M 1557 ((0 : Int32).toNatClampNeg)) xs0.toInt64) = 0 → P__law__2060 g pk23 x4 M) ∧ (¬ (lg_cmp (rl M 1557 ((0 : Int32).toNatClampNeg)) xs0.toInt64) = 0 → True))))) ∧ (¬ (F_12_thrown_0 M) = x5 → True))))
theorem T__law__2030 {g : Gl} {cx : Nat} (k23 : Int32 → Mem → Oc) (pk23 : Int32 → Mem → Prop) (ih23 : ∀ (x4 : Int32) (M : Mem), pk23 x4 M → Rc g 68 cx mL_law_ 23 [some (.ref 5000000), some (.ref 1558), some (.ref 0), some (.ref 1557), some (.int x4), none, none, none] [] M ((k23 x4 M))) (x4 : Int32) (x5 : Int32) (xs0 : Int32) (M : Mem) (hp : P__law__2030 g pk23 x4 x5 xs0 M) : Rc g 68 cx mL_law_ 2030 [some (.ref 5000000), some (.ref 1558), some (.ref 0), some (.ref 1557), some (.int x4), some (.int x5), none, none] [.int xs0] M ((F__law__2030 g k23 x4 x5 xs0 M)) := by
  rw [F__law__2030]
  rw [P__law__2030] at hp
  refine b_law__2030  (C_12_thrown  M) (Nat.le_of_ble_eq_true rfl) ?_
  refine b_law__2036  (fun h => ?_) (fun h => ?_)
  · rw [if_pos h]
    have hp := hp.1 h
    refine b_law__2043  (fun h => ?_) (fun h => ?_)
    · rw [if_neg h]
      have hp := hp.1 h
      exact R_cw (by omega) (T__law__2060 k23 pk23 ih23 x4 M hp)
    · rw [if_pos h]
      have hp := hp.2 h
      refine b_law__2048 (vpl (by decide)) (fun h => ?_) (fun h => ?_)
      · rw [if_pos h]
        have hp := hp.1 h
        exact R_cw (by omega) (T__law__2060 k23 pk23 ih23 x4 M hp)
      · rw [if_neg h]
        exact b_law__2058  rfl
  · rw [if_neg h]
    exact b_law__2041  rfl
def F__law__2012 (g : Gl) (k23 : Int32 → Mem → Oc) (x4 : Int32) (xs0 : Int32) (M : Mem) : Oc := F__law__2030 g k23 x4 xs0 ((F_12_closed_0 (scX g ((x4 + 1).toNatClampNeg)) (scX g ((x4 + 2).toNatClampNeg)) M).1) ((F_12_closed_0 (scX g ((x4 + 1).toNatClampNeg)) (scX g ((x4 + 2).toNatClampNeg)) M).2)
def P__law__2012 (g : Gl) (pk23 : Int32 → Mem → Prop) (x4 : Int32) (xs0 : Int32) (M : Mem) : Prop := (vp_in (x4 + 1) (g.2.2.2 5000001)) ∧ ((vp_in (x4 + 2) (g.2.2.2 5000001)) ∧ (((P_12_closed_0 (scX g ((x4 + 1).toNatClampNeg)) (scX g ((x4 + 2).toNatClampNeg)) M) ∧ (P__law__2030 g pk23 x4 xs0 ((F_12_closed_0 (scX g ((x4 + 1).toNatClampNeg)) (scX g ((x4 + 2).toNatClampNeg)) M).1) ((F_12_closed_0 (scX g ((x4 + 1).toNatClampNeg)) (scX g ((x4 + 2).toNatClampNeg)) M).2)))))
theorem T__law__2012 {g : Gl} {cx : Nat} (k23 : Int32 → Mem → Oc) (pk23 : Int32 → Mem → Prop) (ih23 : ∀ (x4 : Int32) (M : Mem), pk23 x4 M → Rc g 68 cx mL_law_ 23 [some (.ref 5000000), some (.ref 1558), some (.ref 0), some (.ref 1557), some (.int x4), none, none, none] [] M ((k23 x4 M))) (x4 : Int32) (xs0 : Int32) (M : Mem) (hp : P__law__2012 g pk23 x4 xs0 M) : Rc g 68 cx mL_law_ 2012 [some (.ref 5000000), some (.ref 1558), some (.ref 0), some (.ref 1557), some (.int x4), none, none, none] [.int xs0] M ((F__law__2012 g k23 x4 xs0 M)) := by
  rw [F__law__2012]
  rw [P__law__2012] at hp
  obtain ⟨p0, hp⟩ := hp
  refine b_law__2012 p0 ?_
  obtain ⟨p1, hp⟩ := hp
  refine b_law__2021 p1 ?_
  obtain ⟨hc, hp⟩ := hp
  refine b_law__2027  (C_12_closed (scX g ((x4 + 1).toNatClampNeg)) (scX g ((x4 + 2).toNatClampNeg)) M hc) (Nat.le_of_ble_eq_true rfl) ?_
  exact R_cw (by omega) (T__law__2030 k23 pk23 ih23 x4 xs0 ((F_12_closed_0 (scX g ((x4 + 1).toNatClampNeg)) (scX g ((x4 + 2).toNatClampNeg)) M).1) ((F_12_closed_0 (scX g ((x4 + 1).toNatClampNeg)) (scX g ((x4 + 2).toNatClampNeg)) M).2) hp)
def F__law__1995 (g : Gl) (k23 : Int32 → Mem → Oc) (x4 : Int32) (M : Mem) : Oc := F__law__2012 g k23 x4 ((W_closed (scX g ((x4 + 1).toNatClampNeg)) (scX g ((x4 + 2).toNatClampNeg)) M).1) ((W_closed (scX g ((x4 + 1).toNatClampNeg)) (scX g ((x4 + 2).toNatClampNeg)) M).2)
def P__law__1995 (g : Gl) (pk23 : Int32 → Mem → Prop) (x4 : Int32) (M : Mem) : Prop := (vp_in (x4 + 1) (g.2.2.2 5000001)) ∧ ((vp_in (x4 + 2) (g.2.2.2 5000001)) ∧ (((Q_closed (scX g ((x4 + 1).toNatClampNeg)) (scX g ((x4 + 2).toNatClampNeg)) M) ∧ (P__law__2012 g pk23 x4 ((W_closed (scX g ((x4 + 1).toNatClampNeg)) (scX g ((x4 + 2).toNatClampNeg)) M).1) ((W_closed (scX g ((x4 + 1).toNatClampNeg)) (scX g ((x4 + 2).toNatClampNeg)) M).2)))))
theorem T__law__1995 {g : Gl} {cx : Nat} (k23 : Int32 → Mem → Oc) (pk23 : Int32 → Mem → Prop) (ih23 : ∀ (x4 : Int32) (M : Mem), pk23 x4 M → Rc g 68 cx mL_law_ 23 [some (.ref 5000000), some (.ref 1558), some (.ref 0), some (.ref 1557), some (.int x4), none, none, none] [] M ((k23 x4 M))) (x4 : Int32) (M : Mem) (hp : P__law__1995 g pk23 x4 M) : Rc g 68 (cx + 8) mL_law_ 1995 [some (.ref 5000000), some (.ref 1558), some (.ref 0), some (.ref 1557), some (.int x4), none, none, none] [] M ((F__law__1995 g k23 x4 M)) := by
  rw [F__law__1995]
  rw [P__law__1995] at hp
  obtain ⟨p0, hp⟩ := hp
  refine b_law__1995 p0 ?_
  obtain ⟨p1, hp⟩ := hp
  refine b_law__2002 p1 ?_
  obtain ⟨hc, hp⟩ := hp
  refine R_cw (cx := cx + 2) (by omega) (b_law__2008 (cx := cx)  (CW_closed (scX g ((x4 + 1).toNatClampNeg)) (scX g ((x4 + 2).toNatClampNeg)) M hc) (Nat.le_of_ble_eq_true rfl) ?_)
  exact R_cw (by omega) (T__law__2012 k23 pk23 ih23 x4 ((W_closed (scX g ((x4 + 1).toNatClampNeg)) (scX g ((x4 + 2).toNatClampNeg)) M).1) ((W_closed (scX g ((x4 + 1).toNatClampNeg)) (scX g ((x4 + 2).toNatClampNeg)) M).2) hp)
def F__law__2116 (g : Gl) (k23 : Int32 → Mem → Oc) (x4 : Int32) (M : Mem) : Oc := F__law__2461 g k23 x4 M
def P__law__2116 (g : Gl) (pk23 : Int32 → Mem → Prop) (x4 : Int32) (M : Mem) : Prop := (P__law__2461 g pk23 x4 M)
theorem T__law__2116 {g : Gl} {cx : Nat} (k23 : Int32 → Mem → Oc) (pk23 : Int32 → Mem → Prop) (ih23 : ∀ (x4 : Int32) (M : Mem), pk23 x4 M → Rc g 68 cx mL_law_ 23 [some (.ref 5000000), some (.ref 1558), some (.ref 0), some (.ref 1557), some (.int x4), none, none, none] [] M ((k23 x4 M))) (x4 : Int32) (M : Mem) (hp : P__law__2116 g pk23 x4 M) : Rc g 68 cx mL_law_ 2116 [some (.ref 5000000), some (.ref 1558), some (.ref 0), some (.ref 1557), some (.int x4), none, none, none] [] M ((F__law__2116 g k23 x4 M)) := by
  rw [F__law__2116]
  rw [P__law__2116] at hp
  refine b_law__2116  ?_
  exact R_cw (by omega) (T__law__2461 k23 pk23 ih23 x4 M hp)
def F__law__2086 (g : Gl) (k23 : Int32 → Mem → Oc) (x4 : Int32) (x5 : Int32) (xs0 : Int32) (M : Mem) : Oc := if (F_12_thrown_0 M) = x5 then (if x5 = 0 then (if (lg_cmp (rl M 1557 ((0 : Int32).toNatClampNeg)) xs0.toInt64) = 0 then (F__law__2116 g k23 x4 M) else (.inl (some (.int 0), M))) else (F__law__2116 g k23 x4 M)) else (.inl (some (.int 0), M))
def P__law__2086 (g : Gl) (pk23 : Int32 → Mem → Prop) (x4 : Int32) (x5 : Int32) (xs0 : Int32) (M : Mem) : Prop := (((((F_12_thrown_0 M) = x5 → ((¬ x5 = 0 → P__law__2116 g pk23 x4 M) ∧ (x5 = 0 → (((lg_cmp (rl M 1557 ((0 : Int32).toNatClampNeg)) xs0.toInt64) = 0 → P__law__2116 g pk23 x4 M) ∧ (¬ (lg_cmp (rl M 1557 ((0 : Int32).toNatClampNeg)) xs0.toInt64) = 0 → True))))) ∧ (¬ (F_12_thrown_0 M) = x5 → True))))
theorem T__law__2086 {g : Gl} {cx : Nat} (k23 : Int32 → Mem → Oc) (pk23 : Int32 → Mem → Prop) (ih23 : ∀ (x4 : Int32) (M : Mem), pk23 x4 M → Rc g 68 cx mL_law_ 23 [some (.ref 5000000), some (.ref 1558), some (.ref 0), some (.ref 1557), some (.int x4), none, none, none] [] M ((k23 x4 M))) (x4 : Int32) (x5 : Int32) (xs0 : Int32) (M : Mem) (hp : P__law__2086 g pk23 x4 x5 xs0 M) : Rc g 68 cx mL_law_ 2086 [some (.ref 5000000), some (.ref 1558), some (.ref 0), some (.ref 1557), some (.int x4), some (.int x5), none, none] [.int xs0] M ((F__law__2086 g k23 x4 x5 xs0 M)) := by
  rw [F__law__2086]
  rw [P__law__2086] at hp
  refine b_law__2086  (C_12_thrown  M) (Nat.le_of_ble_eq_true rfl) ?_
  refine b_law__2092  (fun h => ?_) (fun h => ?_)
  · rw [if_pos h]
    have hp := hp.1 h
    refine b_law__2099  (fun h => ?_) (fun h => ?_)
    · rw [if_neg h]
      have hp := hp.1 h
      exact R_cw (by omega) (T__law__2116 k23 pk23 ih23 x4 M hp)
    · rw [if_pos h]
      have hp := hp.2 h
      refine b_law__2104 (vpl (by decide)) (fun h => ?_) (fun h => ?_)
      · rw [if_pos h]
        have hp := hp.1 h
        exact R_cw (by omega) (T__law__2116 k23 pk23 ih23 x4 M hp)
      · rw [if_neg h]
        exact b_law__2114  rfl
  · rw [if_neg h]
    exact b_law__2097  rfl
def F__law__2074 (g : Gl) (k23 : Int32 → Mem → Oc) (x4 : Int32) (xs0 : Int32) (M : Mem) : Oc := F__law__2086 g k23 x4 xs0 ((F_12_crowded_0 (scX g ((x4 + 1).toNatClampNeg)) M).1) ((F_12_crowded_0 (scX g ((x4 + 1).toNatClampNeg)) M).2)
def P__law__2074 (g : Gl) (pk23 : Int32 → Mem → Prop) (x4 : Int32) (xs0 : Int32) (M : Mem) : Prop := (vp_in (x4 + 1) (g.2.2.2 5000001)) ∧ (((P_12_crowded_0 (scX g ((x4 + 1).toNatClampNeg)) M) ∧ (P__law__2086 g pk23 x4 xs0 ((F_12_crowded_0 (scX g ((x4 + 1).toNatClampNeg)) M).1) ((F_12_crowded_0 (scX g ((x4 + 1).toNatClampNeg)) M).2))))
theorem T__law__2074 {g : Gl} {cx : Nat} (k23 : Int32 → Mem → Oc) (pk23 : Int32 → Mem → Prop) (ih23 : ∀ (x4 : Int32) (M : Mem), pk23 x4 M → Rc g 68 cx mL_law_ 23 [some (.ref 5000000), some (.ref 1558), some (.ref 0), some (.ref 1557), some (.int x4), none, none, none] [] M ((k23 x4 M))) (x4 : Int32) (xs0 : Int32) (M : Mem) (hp : P__law__2074 g pk23 x4 xs0 M) : Rc g 68 cx mL_law_ 2074 [some (.ref 5000000), some (.ref 1558), some (.ref 0), some (.ref 1557), some (.int x4), none, none, none] [.int xs0] M ((F__law__2074 g k23 x4 xs0 M)) := by
  rw [F__law__2074]
  rw [P__law__2074] at hp
  obtain ⟨p0, hp⟩ := hp
  refine b_law__2074 p0 ?_
  obtain ⟨hc, hp⟩ := hp
  refine b_law__2083  (C_12_crowded (scX g ((x4 + 1).toNatClampNeg)) M hc) (Nat.le_of_ble_eq_true rfl) ?_
  exact R_cw (by omega) (T__law__2086 k23 pk23 ih23 x4 xs0 ((F_12_crowded_0 (scX g ((x4 + 1).toNatClampNeg)) M).1) ((F_12_crowded_0 (scX g ((x4 + 1).toNatClampNeg)) M).2) hp)
def F__law__2063 (g : Gl) (k23 : Int32 → Mem → Oc) (x4 : Int32) (M : Mem) : Oc := F__law__2074 g k23 x4 ((W_crowded (scX g ((x4 + 1).toNatClampNeg)) M).1) ((W_crowded (scX g ((x4 + 1).toNatClampNeg)) M).2)
def P__law__2063 (g : Gl) (pk23 : Int32 → Mem → Prop) (x4 : Int32) (M : Mem) : Prop := (vp_in (x4 + 1) (g.2.2.2 5000001)) ∧ (((Q_crowded (scX g ((x4 + 1).toNatClampNeg)) M) ∧ (P__law__2074 g pk23 x4 ((W_crowded (scX g ((x4 + 1).toNatClampNeg)) M).1) ((W_crowded (scX g ((x4 + 1).toNatClampNeg)) M).2))))
theorem T__law__2063 {g : Gl} {cx : Nat} (k23 : Int32 → Mem → Oc) (pk23 : Int32 → Mem → Prop) (ih23 : ∀ (x4 : Int32) (M : Mem), pk23 x4 M → Rc g 68 cx mL_law_ 23 [some (.ref 5000000), some (.ref 1558), some (.ref 0), some (.ref 1557), some (.int x4), none, none, none] [] M ((k23 x4 M))) (x4 : Int32) (M : Mem) (hp : P__law__2063 g pk23 x4 M) : Rc g 68 (cx + 8) mL_law_ 2063 [some (.ref 5000000), some (.ref 1558), some (.ref 0), some (.ref 1557), some (.int x4), none, none, none] [] M ((F__law__2063 g k23 x4 M)) := by
  rw [F__law__2063]
  rw [P__law__2063] at hp
  obtain ⟨p0, hp⟩ := hp
  refine b_law__2063 p0 ?_
  obtain ⟨hc, hp⟩ := hp
  refine R_cw (cx := cx + 1) (by omega) (b_law__2070 (cx := cx)  (CW_crowded (scX g ((x4 + 1).toNatClampNeg)) M hc) (Nat.le_of_ble_eq_true rfl) ?_)
  exact R_cw (by omega) (T__law__2074 k23 pk23 ih23 x4 ((W_crowded (scX g ((x4 + 1).toNatClampNeg)) M).1) ((W_crowded (scX g ((x4 + 1).toNatClampNeg)) M).2) hp)
def F__law__2172 (g : Gl) (k23 : Int32 → Mem → Oc) (x4 : Int32) (M : Mem) : Oc := F__law__2461 g k23 x4 M
def P__law__2172 (g : Gl) (pk23 : Int32 → Mem → Prop) (x4 : Int32) (M : Mem) : Prop := (P__law__2461 g pk23 x4 M)
theorem T__law__2172 {g : Gl} {cx : Nat} (k23 : Int32 → Mem → Oc) (pk23 : Int32 → Mem → Prop) (ih23 : ∀ (x4 : Int32) (M : Mem), pk23 x4 M → Rc g 68 cx mL_law_ 23 [some (.ref 5000000), some (.ref 1558), some (.ref 0), some (.ref 1557), some (.int x4), none, none, none] [] M ((k23 x4 M))) (x4 : Int32) (M : Mem) (hp : P__law__2172 g pk23 x4 M) : Rc g 68 cx mL_law_ 2172 [some (.ref 5000000), some (.ref 1558), some (.ref 0), some (.ref 1557), some (.int x4), none, none, none] [] M ((F__law__2172 g k23 x4 M)) := by
  rw [F__law__2172]
  rw [P__law__2172] at hp
  refine b_law__2172  ?_
  exact R_cw (by omega) (T__law__2461 k23 pk23 ih23 x4 M hp)
def F__law__2142 (g : Gl) (k23 : Int32 → Mem → Oc) (x4 : Int32) (x5 : Int32) (xs0 : Int32) (M : Mem) : Oc := if (F_12_thrown_0 M) = x5 then (if x5 = 0 then (if (lg_cmp (rl M 1557 ((0 : Int32).toNatClampNeg)) xs0.toInt64) = 0 then (F__law__2172 g k23 x4 M) else (.inl (some (.int 0), M))) else (F__law__2172 g k23 x4 M)) else (.inl (some (.int 0), M))
def P__law__2142 (g : Gl) (pk23 : Int32 → Mem → Prop) (x4 : Int32) (x5 : Int32) (xs0 : Int32) (M : Mem) : Prop := (((((F_12_thrown_0 M) = x5 → ((¬ x5 = 0 → P__law__2172 g pk23 x4 M) ∧ (x5 = 0 → (((lg_cmp (rl M 1557 ((0 : Int32).toNatClampNeg)) xs0.toInt64) = 0 → P__law__2172 g pk23 x4 M) ∧ (¬ (lg_cmp (rl M 1557 ((0 : Int32).toNatClampNeg)) xs0.toInt64) = 0 → True))))) ∧ (¬ (F_12_thrown_0 M) = x5 → True))))
theorem T__law__2142 {g : Gl} {cx : Nat} (k23 : Int32 → Mem → Oc) (pk23 : Int32 → Mem → Prop) (ih23 : ∀ (x4 : Int32) (M : Mem), pk23 x4 M → Rc g 68 cx mL_law_ 23 [some (.ref 5000000), some (.ref 1558), some (.ref 0), some (.ref 1557), some (.int x4), none, none, none] [] M ((k23 x4 M))) (x4 : Int32) (x5 : Int32) (xs0 : Int32) (M : Mem) (hp : P__law__2142 g pk23 x4 x5 xs0 M) : Rc g 68 cx mL_law_ 2142 [some (.ref 5000000), some (.ref 1558), some (.ref 0), some (.ref 1557), some (.int x4), some (.int x5), none, none] [.int xs0] M ((F__law__2142 g k23 x4 x5 xs0 M)) := by
  rw [F__law__2142]
  rw [P__law__2142] at hp
  refine b_law__2142  (C_12_thrown  M) (Nat.le_of_ble_eq_true rfl) ?_
  refine b_law__2148  (fun h => ?_) (fun h => ?_)
  · rw [if_pos h]
    have hp := hp.1 h
    refine b_law__2155  (fun h => ?_) (fun h => ?_)
    · rw [if_neg h]
      have hp := hp.1 h
      exact R_cw (by omega) (T__law__2172 k23 pk23 ih23 x4 M hp)
    · rw [if_pos h]
      have hp := hp.2 h
      refine b_law__2160 (vpl (by decide)) (fun h => ?_) (fun h => ?_)
      · rw [if_pos h]
        have hp := hp.1 h
        exact R_cw (by omega) (T__law__2172 k23 pk23 ih23 x4 M hp)
      · rw [if_neg h]
        exact b_law__2170  rfl
  · rw [if_neg h]
    exact b_law__2153  rfl
def F__law__2130 (g : Gl) (k23 : Int32 → Mem → Oc) (x4 : Int32) (xs0 : Int32) (M : Mem) : Oc := F__law__2142 g k23 x4 xs0 ((F_12_worn_0 (scX g ((x4 + 1).toNatClampNeg)) M).1) ((F_12_worn_0 (scX g ((x4 + 1).toNatClampNeg)) M).2)
def P__law__2130 (g : Gl) (pk23 : Int32 → Mem → Prop) (x4 : Int32) (xs0 : Int32) (M : Mem) : Prop := (vp_in (x4 + 1) (g.2.2.2 5000001)) ∧ (((P_12_worn_0 (scX g ((x4 + 1).toNatClampNeg)) M) ∧ (P__law__2142 g pk23 x4 xs0 ((F_12_worn_0 (scX g ((x4 + 1).toNatClampNeg)) M).1) ((F_12_worn_0 (scX g ((x4 + 1).toNatClampNeg)) M).2))))
theorem T__law__2130 {g : Gl} {cx : Nat} (k23 : Int32 → Mem → Oc) (pk23 : Int32 → Mem → Prop) (ih23 : ∀ (x4 : Int32) (M : Mem), pk23 x4 M → Rc g 68 cx mL_law_ 23 [some (.ref 5000000), some (.ref 1558), some (.ref 0), some (.ref 1557), some (.int x4), none, none, none] [] M ((k23 x4 M))) (x4 : Int32) (xs0 : Int32) (M : Mem) (hp : P__law__2130 g pk23 x4 xs0 M) : Rc g 68 cx mL_law_ 2130 [some (.ref 5000000), some (.ref 1558), some (.ref 0), some (.ref 1557), some (.int x4), none, none, none] [.int xs0] M ((F__law__2130 g k23 x4 xs0 M)) := by
  rw [F__law__2130]
  rw [P__law__2130] at hp
  obtain ⟨p0, hp⟩ := hp
  refine b_law__2130 p0 ?_
  obtain ⟨hc, hp⟩ := hp
  refine b_law__2139  (C_12_worn (scX g ((x4 + 1).toNatClampNeg)) M hc) (Nat.le_of_ble_eq_true rfl) ?_
  exact R_cw (by omega) (T__law__2142 k23 pk23 ih23 x4 xs0 ((F_12_worn_0 (scX g ((x4 + 1).toNatClampNeg)) M).1) ((F_12_worn_0 (scX g ((x4 + 1).toNatClampNeg)) M).2) hp)
def F__law__2119 (g : Gl) (k23 : Int32 → Mem → Oc) (x4 : Int32) (M : Mem) : Oc := F__law__2130 g k23 x4 ((W_worn (scX g ((x4 + 1).toNatClampNeg)) M).1) ((W_worn (scX g ((x4 + 1).toNatClampNeg)) M).2)
def P__law__2119 (g : Gl) (pk23 : Int32 → Mem → Prop) (x4 : Int32) (M : Mem) : Prop := (vp_in (x4 + 1) (g.2.2.2 5000001)) ∧ (((Q_worn (scX g ((x4 + 1).toNatClampNeg)) M) ∧ (P__law__2130 g pk23 x4 ((W_worn (scX g ((x4 + 1).toNatClampNeg)) M).1) ((W_worn (scX g ((x4 + 1).toNatClampNeg)) M).2))))
theorem T__law__2119 {g : Gl} {cx : Nat} (k23 : Int32 → Mem → Oc) (pk23 : Int32 → Mem → Prop) (ih23 : ∀ (x4 : Int32) (M : Mem), pk23 x4 M → Rc g 68 cx mL_law_ 23 [some (.ref 5000000), some (.ref 1558), some (.ref 0), some (.ref 1557), some (.int x4), none, none, none] [] M ((k23 x4 M))) (x4 : Int32) (M : Mem) (hp : P__law__2119 g pk23 x4 M) : Rc g 68 (cx + 8) mL_law_ 2119 [some (.ref 5000000), some (.ref 1558), some (.ref 0), some (.ref 1557), some (.int x4), none, none, none] [] M ((F__law__2119 g k23 x4 M)) := by
  rw [F__law__2119]
  rw [P__law__2119] at hp
  obtain ⟨p0, hp⟩ := hp
  refine b_law__2119 p0 ?_
  obtain ⟨hc, hp⟩ := hp
  refine R_cw (cx := cx + 1) (by omega) (b_law__2126 (cx := cx)  (CW_worn (scX g ((x4 + 1).toNatClampNeg)) M hc) (Nat.le_of_ble_eq_true rfl) ?_)
  exact R_cw (by omega) (T__law__2130 k23 pk23 ih23 x4 ((W_worn (scX g ((x4 + 1).toNatClampNeg)) M).1) ((W_worn (scX g ((x4 + 1).toNatClampNeg)) M).2) hp)
def F__law__2264 (g : Gl) (k23 : Int32 → Mem → Oc) (x4 : Int32) (M : Mem) : Oc := F__law__2461 g k23 x4 M
def P__law__2264 (g : Gl) (pk23 : Int32 → Mem → Prop) (x4 : Int32) (M : Mem) : Prop := (P__law__2461 g pk23 x4 M)
theorem T__law__2264 {g : Gl} {cx : Nat} (k23 : Int32 → Mem → Oc) (pk23 : Int32 → Mem → Prop) (ih23 : ∀ (x4 : Int32) (M : Mem), pk23 x4 M → Rc g 68 cx mL_law_ 23 [some (.ref 5000000), some (.ref 1558), some (.ref 0), some (.ref 1557), some (.int x4), none, none, none] [] M ((k23 x4 M))) (x4 : Int32) (M : Mem) (hp : P__law__2264 g pk23 x4 M) : Rc g 68 cx mL_law_ 2264 [some (.ref 5000000), some (.ref 1558), some (.ref 0), some (.ref 1557), some (.int x4), none, none, none] [] M ((F__law__2264 g k23 x4 M)) := by
  rw [F__law__2264]
  rw [P__law__2264] at hp
  refine b_law__2264  ?_
  exact R_cw (by omega) (T__law__2461 k23 pk23 ih23 x4 M hp)
def F__law__2234 (g : Gl) (k23 : Int32 → Mem → Oc) (x4 : Int32) (x5 : Int32) (xs0 : Int32) (M : Mem) : Oc := if (F_12_thrown_0 M) = x5 then (if x5 = 0 then (if (lg_cmp (rl M 1557 ((0 : Int32).toNatClampNeg)) xs0.toInt64) = 0 then (F__law__2264 g k23 x4 M) else (.inl (some (.int 0), M))) else (F__law__2264 g k23 x4 M)) else (.inl (some (.int 0), M))
def P__law__2234 (g : Gl) (pk23 : Int32 → Mem → Prop) (x4 : Int32) (x5 : Int32) (xs0 : Int32) (M : Mem) : Prop := (((((F_12_thrown_0 M) = x5 → ((¬ x5 = 0 → P__law__2264 g pk23 x4 M) ∧ (x5 = 0 → (((lg_cmp (rl M 1557 ((0 : Int32).toNatClampNeg)) xs0.toInt64) = 0 → P__law__2264 g pk23 x4 M) ∧ (¬ (lg_cmp (rl M 1557 ((0 : Int32).toNatClampNeg)) xs0.toInt64) = 0 → True))))) ∧ (¬ (F_12_thrown_0 M) = x5 → True))))
theorem T__law__2234 {g : Gl} {cx : Nat} (k23 : Int32 → Mem → Oc) (pk23 : Int32 → Mem → Prop) (ih23 : ∀ (x4 : Int32) (M : Mem), pk23 x4 M → Rc g 68 cx mL_law_ 23 [some (.ref 5000000), some (.ref 1558), some (.ref 0), some (.ref 1557), some (.int x4), none, none, none] [] M ((k23 x4 M))) (x4 : Int32) (x5 : Int32) (xs0 : Int32) (M : Mem) (hp : P__law__2234 g pk23 x4 x5 xs0 M) : Rc g 68 cx mL_law_ 2234 [some (.ref 5000000), some (.ref 1558), some (.ref 0), some (.ref 1557), some (.int x4), some (.int x5), none, none] [.int xs0] M ((F__law__2234 g k23 x4 x5 xs0 M)) := by
  rw [F__law__2234]
  rw [P__law__2234] at hp
  refine b_law__2234  (C_12_thrown  M) (Nat.le_of_ble_eq_true rfl) ?_
  refine b_law__2240  (fun h => ?_) (fun h => ?_)
  · rw [if_pos h]
    have hp := hp.1 h
    refine b_law__2247  (fun h => ?_) (fun h => ?_)
    · rw [if_neg h]
      have hp := hp.1 h
      exact R_cw (by omega) (T__law__2264 k23 pk23 ih23 x4 M hp)
    · rw [if_pos h]
      have hp := hp.2 h
      refine b_law__2252 (vpl (by decide)) (fun h => ?_) (fun h => ?_)
      · rw [if_pos h]
        have hp := hp.1 h
        exact R_cw (by omega) (T__law__2264 k23 pk23 ih23 x4 M hp)
      · rw [if_neg h]
        exact b_law__2262  rfl
  · rw [if_neg h]
    exact b_law__2245  rfl
def F__law__2204 (g : Gl) (k23 : Int32 → Mem → Oc) (x4 : Int32) (xs0 : Int32) (M : Mem) : Oc := F__law__2234 g k23 x4 xs0 ((F_12_sleepwalk_0 (scX g ((x4 + 1).toNatClampNeg)) (scX g ((x4 + 2).toNatClampNeg)) (scX g ((x4 + 3).toNatClampNeg)) (scX g ((x4 + 4).toNatClampNeg)) M).1) ((F_12_sleepwalk_0 (scX g ((x4 + 1).toNatClampNeg)) (scX g ((x4 + 2).toNatClampNeg)) (scX g ((x4 + 3).toNatClampNeg)) (scX g ((x4 + 4).toNatClampNeg)) M).2)
def P__law__2204 (g : Gl) (pk23 : Int32 → Mem → Prop) (x4 : Int32) (xs0 : Int32) (M : Mem) : Prop := (vp_in (x4 + 1) (g.2.2.2 5000001)) ∧ ((vp_in (x4 + 2) (g.2.2.2 5000001)) ∧ ((vp_in (x4 + 3) (g.2.2.2 5000001)) ∧ ((vp_in (x4 + 4) (g.2.2.2 5000001)) ∧ (((P_12_sleepwalk_0 (scX g ((x4 + 1).toNatClampNeg)) (scX g ((x4 + 2).toNatClampNeg)) (scX g ((x4 + 3).toNatClampNeg)) (scX g ((x4 + 4).toNatClampNeg)) M) ∧ (P__law__2234 g pk23 x4 xs0 ((F_12_sleepwalk_0 (scX g ((x4 + 1).toNatClampNeg)) (scX g ((x4 + 2).toNatClampNeg)) (scX g ((x4 + 3).toNatClampNeg)) (scX g ((x4 + 4).toNatClampNeg)) M).1) ((F_12_sleepwalk_0 (scX g ((x4 + 1).toNatClampNeg)) (scX g ((x4 + 2).toNatClampNeg)) (scX g ((x4 + 3).toNatClampNeg)) (scX g ((x4 + 4).toNatClampNeg)) M).2)))))))
theorem T__law__2204 {g : Gl} {cx : Nat} (k23 : Int32 → Mem → Oc) (pk23 : Int32 → Mem → Prop) (ih23 : ∀ (x4 : Int32) (M : Mem), pk23 x4 M → Rc g 68 cx mL_law_ 23 [some (.ref 5000000), some (.ref 1558), some (.ref 0), some (.ref 1557), some (.int x4), none, none, none] [] M ((k23 x4 M))) (x4 : Int32) (xs0 : Int32) (M : Mem) (hp : P__law__2204 g pk23 x4 xs0 M) : Rc g 68 cx mL_law_ 2204 [some (.ref 5000000), some (.ref 1558), some (.ref 0), some (.ref 1557), some (.int x4), none, none, none] [.int xs0] M ((F__law__2204 g k23 x4 xs0 M)) := by
  rw [F__law__2204]
  rw [P__law__2204] at hp
  obtain ⟨p0, hp⟩ := hp
  refine b_law__2204 p0 ?_
  obtain ⟨p1, hp⟩ := hp
  refine b_law__2213 p1 ?_
  obtain ⟨p2, hp⟩ := hp
  refine b_law__2219 p2 ?_
  obtain ⟨p3, hp⟩ := hp
  refine b_law__2225 p3 ?_
  obtain ⟨hc, hp⟩ := hp
  refine b_law__2231  (C_12_sleepwalk (scX g ((x4 + 1).toNatClampNeg)) (scX g ((x4 + 2).toNatClampNeg)) (scX g ((x4 + 3).toNatClampNeg)) (scX g ((x4 + 4).toNatClampNeg)) M hc) (Nat.le_of_ble_eq_true rfl) ?_
  exact R_cw (by omega) (T__law__2234 k23 pk23 ih23 x4 xs0 ((F_12_sleepwalk_0 (scX g ((x4 + 1).toNatClampNeg)) (scX g ((x4 + 2).toNatClampNeg)) (scX g ((x4 + 3).toNatClampNeg)) (scX g ((x4 + 4).toNatClampNeg)) M).1) ((F_12_sleepwalk_0 (scX g ((x4 + 1).toNatClampNeg)) (scX g ((x4 + 2).toNatClampNeg)) (scX g ((x4 + 3).toNatClampNeg)) (scX g ((x4 + 4).toNatClampNeg)) M).2) hp)
def F__law__2175 (g : Gl) (k23 : Int32 → Mem → Oc) (x4 : Int32) (M : Mem) : Oc := F__law__2204 g k23 x4 ((W_sleepwalk (scX g ((x4 + 1).toNatClampNeg)) (scX g ((x4 + 2).toNatClampNeg)) (scX g ((x4 + 3).toNatClampNeg)) (scX g ((x4 + 4).toNatClampNeg)) M).1) ((W_sleepwalk (scX g ((x4 + 1).toNatClampNeg)) (scX g ((x4 + 2).toNatClampNeg)) (scX g ((x4 + 3).toNatClampNeg)) (scX g ((x4 + 4).toNatClampNeg)) M).2)
def P__law__2175 (g : Gl) (pk23 : Int32 → Mem → Prop) (x4 : Int32) (M : Mem) : Prop := (vp_in (x4 + 1) (g.2.2.2 5000001)) ∧ ((vp_in (x4 + 2) (g.2.2.2 5000001)) ∧ ((vp_in (x4 + 3) (g.2.2.2 5000001)) ∧ ((vp_in (x4 + 4) (g.2.2.2 5000001)) ∧ (((Q_sleepwalk (scX g ((x4 + 1).toNatClampNeg)) (scX g ((x4 + 2).toNatClampNeg)) (scX g ((x4 + 3).toNatClampNeg)) (scX g ((x4 + 4).toNatClampNeg)) M) ∧ (P__law__2204 g pk23 x4 ((W_sleepwalk (scX g ((x4 + 1).toNatClampNeg)) (scX g ((x4 + 2).toNatClampNeg)) (scX g ((x4 + 3).toNatClampNeg)) (scX g ((x4 + 4).toNatClampNeg)) M).1) ((W_sleepwalk (scX g ((x4 + 1).toNatClampNeg)) (scX g ((x4 + 2).toNatClampNeg)) (scX g ((x4 + 3).toNatClampNeg)) (scX g ((x4 + 4).toNatClampNeg)) M).2)))))))
theorem T__law__2175 {g : Gl} {cx : Nat} (k23 : Int32 → Mem → Oc) (pk23 : Int32 → Mem → Prop) (ih23 : ∀ (x4 : Int32) (M : Mem), pk23 x4 M → Rc g 68 cx mL_law_ 23 [some (.ref 5000000), some (.ref 1558), some (.ref 0), some (.ref 1557), some (.int x4), none, none, none] [] M ((k23 x4 M))) (x4 : Int32) (M : Mem) (hp : P__law__2175 g pk23 x4 M) : Rc g 68 (cx + 8) mL_law_ 2175 [some (.ref 5000000), some (.ref 1558), some (.ref 0), some (.ref 1557), some (.int x4), none, none, none] [] M ((F__law__2175 g k23 x4 M)) := by
  rw [F__law__2175]
  rw [P__law__2175] at hp
  obtain ⟨p0, hp⟩ := hp
  refine b_law__2175 p0 ?_
  obtain ⟨p1, hp⟩ := hp
  refine b_law__2182 p1 ?_
  obtain ⟨p2, hp⟩ := hp
  refine b_law__2188 p2 ?_
  obtain ⟨p3, hp⟩ := hp
  refine b_law__2194 p3 ?_
  obtain ⟨hc, hp⟩ := hp
  refine R_cw (cx := cx + 3) (by omega) (b_law__2200 (cx := cx)  (CW_sleepwalk (scX g ((x4 + 1).toNatClampNeg)) (scX g ((x4 + 2).toNatClampNeg)) (scX g ((x4 + 3).toNatClampNeg)) (scX g ((x4 + 4).toNatClampNeg)) M hc) (Nat.le_of_ble_eq_true rfl) ?_)
  exact R_cw (by omega) (T__law__2204 k23 pk23 ih23 x4 ((W_sleepwalk (scX g ((x4 + 1).toNatClampNeg)) (scX g ((x4 + 2).toNatClampNeg)) (scX g ((x4 + 3).toNatClampNeg)) (scX g ((x4 + 4).toNatClampNeg)) M).1) ((W_sleepwalk (scX g ((x4 + 1).toNatClampNeg)) (scX g ((x4 + 2).toNatClampNeg)) (scX g ((x4 + 3).toNatClampNeg)) (scX g ((x4 + 4).toNatClampNeg)) M).2) hp)
def F__law__2382 (g : Gl) (k23 : Int32 → Mem → Oc) (x4 : Int32) (M : Mem) : Oc := F__law__2461 g k23 x4 M
def P__law__2382 (g : Gl) (pk23 : Int32 → Mem → Prop) (x4 : Int32) (M : Mem) : Prop := (P__law__2461 g pk23 x4 M)
theorem T__law__2382 {g : Gl} {cx : Nat} (k23 : Int32 → Mem → Oc) (pk23 : Int32 → Mem → Prop) (ih23 : ∀ (x4 : Int32) (M : Mem), pk23 x4 M → Rc g 68 cx mL_law_ 23 [some (.ref 5000000), some (.ref 1558), some (.ref 0), some (.ref 1557), some (.int x4), none, none, none] [] M ((k23 x4 M))) (x4 : Int32) (M : Mem) (hp : P__law__2382 g pk23 x4 M) : Rc g 68 cx mL_law_ 2382 [some (.ref 5000000), some (.ref 1558), some (.ref 0), some (.ref 1557), some (.int x4), none, none, none] [] M ((F__law__2382 g k23 x4 M)) := by
  rw [F__law__2382]
  rw [P__law__2382] at hp
  refine b_law__2382  ?_
  exact R_cw (by omega) (T__law__2461 k23 pk23 ih23 x4 M hp)
def F__law__2352 (g : Gl) (k23 : Int32 → Mem → Oc) (x4 : Int32) (x5 : Int32) (xs0 : Int32) (M : Mem) : Oc := if (F_12_thrown_0 M) = x5 then (if x5 = 0 then (if (lg_cmp (rl M 1557 ((0 : Int32).toNatClampNeg)) xs0.toInt64) = 0 then (F__law__2382 g k23 x4 M) else (.inl (some (.int 0), M))) else (F__law__2382 g k23 x4 M)) else (.inl (some (.int 0), M))
def P__law__2352 (g : Gl) (pk23 : Int32 → Mem → Prop) (x4 : Int32) (x5 : Int32) (xs0 : Int32) (M : Mem) : Prop := (((((F_12_thrown_0 M) = x5 → ((¬ x5 = 0 → P__law__2382 g pk23 x4 M) ∧ (x5 = 0 → (((lg_cmp (rl M 1557 ((0 : Int32).toNatClampNeg)) xs0.toInt64) = 0 → P__law__2382 g pk23 x4 M) ∧ (¬ (lg_cmp (rl M 1557 ((0 : Int32).toNatClampNeg)) xs0.toInt64) = 0 → True))))) ∧ (¬ (F_12_thrown_0 M) = x5 → True))))
theorem T__law__2352 {g : Gl} {cx : Nat} (k23 : Int32 → Mem → Oc) (pk23 : Int32 → Mem → Prop) (ih23 : ∀ (x4 : Int32) (M : Mem), pk23 x4 M → Rc g 68 cx mL_law_ 23 [some (.ref 5000000), some (.ref 1558), some (.ref 0), some (.ref 1557), some (.int x4), none, none, none] [] M ((k23 x4 M))) (x4 : Int32) (x5 : Int32) (xs0 : Int32) (M : Mem) (hp : P__law__2352 g pk23 x4 x5 xs0 M) : Rc g 68 cx mL_law_ 2352 [some (.ref 5000000), some (.ref 1558), some (.ref 0), some (.ref 1557), some (.int x4), some (.int x5), none, none] [.int xs0] M ((F__law__2352 g k23 x4 x5 xs0 M)) := by
  rw [F__law__2352]
  rw [P__law__2352] at hp
  refine b_law__2352  (C_12_thrown  M) (Nat.le_of_ble_eq_true rfl) ?_
  refine b_law__2358  (fun h => ?_) (fun h => ?_)
  · rw [if_pos h]
    have hp := hp.1 h
    refine b_law__2365  (fun h => ?_) (fun h => ?_)
    · rw [if_neg h]
      have hp := hp.1 h
      exact R_cw (by omega) (T__law__2382 k23 pk23 ih23 x4 M hp)
    · rw [if_pos h]
      have hp := hp.2 h
      refine b_law__2370 (vpl (by decide)) (fun h => ?_) (fun h => ?_)
      · rw [if_pos h]
        have hp := hp.1 h
        exact R_cw (by omega) (T__law__2382 k23 pk23 ih23 x4 M hp)
      · rw [if_neg h]
        exact b_law__2380  rfl
  · rw [if_neg h]
    exact b_law__2363  rfl
def F__law__2309 (g : Gl) (k23 : Int32 → Mem → Oc) (x4 : Int32) (xs0 : Int32) (M : Mem) : Oc := F__law__2352 g k23 x4 xs0 ((F_12_span_0 (scX g ((x4 + 1).toNatClampNeg)) (scX g ((x4 + 2).toNatClampNeg)) (scX g ((x4 + 3).toNatClampNeg)) (scX g ((x4 + 4).toNatClampNeg)) (scX g ((x4 + 5).toNatClampNeg)) (scX g ((x4 + 6).toNatClampNeg)) M).1) ((F_12_span_0 (scX g ((x4 + 1).toNatClampNeg)) (scX g ((x4 + 2).toNatClampNeg)) (scX g ((x4 + 3).toNatClampNeg)) (scX g ((x4 + 4).toNatClampNeg)) (scX g ((x4 + 5).toNatClampNeg)) (scX g ((x4 + 6).toNatClampNeg)) M).2)
def P__law__2309 (g : Gl) (pk23 : Int32 → Mem → Prop) (x4 : Int32) (xs0 : Int32) (M : Mem) : Prop := (vp_in (x4 + 1) (g.2.2.2 5000001)) ∧ ((vp_in (x4 + 2) (g.2.2.2 5000001)) ∧ ((vp_in (x4 + 3) (g.2.2.2 5000001)) ∧ ((vp_in (x4 + 4) (g.2.2.2 5000001)) ∧ ((vp_in (x4 + 5) (g.2.2.2 5000001)) ∧ ((vp_in (x4 + 6) (g.2.2.2 5000001)) ∧ (((P_12_span_0 (scX g ((x4 + 1).toNatClampNeg)) (scX g ((x4 + 2).toNatClampNeg)) (scX g ((x4 + 3).toNatClampNeg)) (scX g ((x4 + 4).toNatClampNeg)) (scX g ((x4 + 5).toNatClampNeg)) (scX g ((x4 + 6).toNatClampNeg)) M) ∧ (P__law__2352 g pk23 x4 xs0 ((F_12_span_0 (scX g ((x4 + 1).toNatClampNeg)) (scX g ((x4 + 2).toNatClampNeg)) (scX g ((x4 + 3).toNatClampNeg)) (scX g ((x4 + 4).toNatClampNeg)) (scX g ((x4 + 5).toNatClampNeg)) (scX g ((x4 + 6).toNatClampNeg)) M).1) ((F_12_span_0 (scX g ((x4 + 1).toNatClampNeg)) (scX g ((x4 + 2).toNatClampNeg)) (scX g ((x4 + 3).toNatClampNeg)) (scX g ((x4 + 4).toNatClampNeg)) (scX g ((x4 + 5).toNatClampNeg)) (scX g ((x4 + 6).toNatClampNeg)) M).2)))))))))
theorem T__law__2309 {g : Gl} {cx : Nat} (k23 : Int32 → Mem → Oc) (pk23 : Int32 → Mem → Prop) (ih23 : ∀ (x4 : Int32) (M : Mem), pk23 x4 M → Rc g 68 cx mL_law_ 23 [some (.ref 5000000), some (.ref 1558), some (.ref 0), some (.ref 1557), some (.int x4), none, none, none] [] M ((k23 x4 M))) (x4 : Int32) (xs0 : Int32) (M : Mem) (hp : P__law__2309 g pk23 x4 xs0 M) : Rc g 68 cx mL_law_ 2309 [some (.ref 5000000), some (.ref 1558), some (.ref 0), some (.ref 1557), some (.int x4), none, none, none] [.int xs0] M ((F__law__2309 g k23 x4 xs0 M)) := by
  rw [F__law__2309]
  rw [P__law__2309] at hp
  obtain ⟨p0, hp⟩ := hp
  refine b_law__2309 p0 ?_
  obtain ⟨p1, hp⟩ := hp
  refine b_law__2318 p1 ?_
  obtain ⟨p2, hp⟩ := hp
  refine b_law__2324 p2 ?_
  obtain ⟨p3, hp⟩ := hp
  refine b_law__2330 p3 ?_
  obtain ⟨p4, hp⟩ := hp
  refine b_law__2336 p4 ?_
  obtain ⟨p5, hp⟩ := hp
  refine b_law__2342 p5 ?_
  obtain ⟨hc, hp⟩ := hp
  refine b_law__2349  (C_12_span (scX g ((x4 + 1).toNatClampNeg)) (scX g ((x4 + 2).toNatClampNeg)) (scX g ((x4 + 3).toNatClampNeg)) (scX g ((x4 + 4).toNatClampNeg)) (scX g ((x4 + 5).toNatClampNeg)) (scX g ((x4 + 6).toNatClampNeg)) M hc) (Nat.le_of_ble_eq_true rfl) ?_
  exact R_cw (by omega) (T__law__2352 k23 pk23 ih23 x4 xs0 ((F_12_span_0 (scX g ((x4 + 1).toNatClampNeg)) (scX g ((x4 + 2).toNatClampNeg)) (scX g ((x4 + 3).toNatClampNeg)) (scX g ((x4 + 4).toNatClampNeg)) (scX g ((x4 + 5).toNatClampNeg)) (scX g ((x4 + 6).toNatClampNeg)) M).1) ((F_12_span_0 (scX g ((x4 + 1).toNatClampNeg)) (scX g ((x4 + 2).toNatClampNeg)) (scX g ((x4 + 3).toNatClampNeg)) (scX g ((x4 + 4).toNatClampNeg)) (scX g ((x4 + 5).toNatClampNeg)) (scX g ((x4 + 6).toNatClampNeg)) M).2) hp)
def F__law__2267 (g : Gl) (k23 : Int32 → Mem → Oc) (x4 : Int32) (M : Mem) : Oc := F__law__2309 g k23 x4 ((W_span (scX g ((x4 + 1).toNatClampNeg)) (scX g ((x4 + 2).toNatClampNeg)) (scX g ((x4 + 3).toNatClampNeg)) (scX g ((x4 + 4).toNatClampNeg)) (scX g ((x4 + 5).toNatClampNeg)) (scX g ((x4 + 6).toNatClampNeg)) M).1) ((W_span (scX g ((x4 + 1).toNatClampNeg)) (scX g ((x4 + 2).toNatClampNeg)) (scX g ((x4 + 3).toNatClampNeg)) (scX g ((x4 + 4).toNatClampNeg)) (scX g ((x4 + 5).toNatClampNeg)) (scX g ((x4 + 6).toNatClampNeg)) M).2)
def P__law__2267 (g : Gl) (pk23 : Int32 → Mem → Prop) (x4 : Int32) (M : Mem) : Prop := (vp_in (x4 + 1) (g.2.2.2 5000001)) ∧ ((vp_in (x4 + 2) (g.2.2.2 5000001)) ∧ ((vp_in (x4 + 3) (g.2.2.2 5000001)) ∧ ((vp_in (x4 + 4) (g.2.2.2 5000001)) ∧ ((vp_in (x4 + 5) (g.2.2.2 5000001)) ∧ ((vp_in (x4 + 6) (g.2.2.2 5000001)) ∧ (((Q_span (scX g ((x4 + 1).toNatClampNeg)) (scX g ((x4 + 2).toNatClampNeg)) (scX g ((x4 + 3).toNatClampNeg)) (scX g ((x4 + 4).toNatClampNeg)) (scX g ((x4 + 5).toNatClampNeg)) (scX g ((x4 + 6).toNatClampNeg)) M) ∧ (P__law__2309 g pk23 x4 ((W_span (scX g ((x4 + 1).toNatClampNeg)) (scX g ((x4 + 2).toNatClampNeg)) (scX g ((x4 + 3).toNatClampNeg)) (scX g ((x4 + 4).toNatClampNeg)) (scX g ((x4 + 5).toNatClampNeg)) (scX g ((x4 + 6).toNatClampNeg)) M).1) ((W_span (scX g ((x4 + 1).toNatClampNeg)) (scX g ((x4 + 2).toNatClampNeg)) (scX g ((x4 + 3).toNatClampNeg)) (scX g ((x4 + 4).toNatClampNeg)) (scX g ((x4 + 5).toNatClampNeg)) (scX g ((x4 + 6).toNatClampNeg)) M).2)))))))))
theorem T__law__2267 {g : Gl} {cx : Nat} (k23 : Int32 → Mem → Oc) (pk23 : Int32 → Mem → Prop) (ih23 : ∀ (x4 : Int32) (M : Mem), pk23 x4 M → Rc g 68 cx mL_law_ 23 [some (.ref 5000000), some (.ref 1558), some (.ref 0), some (.ref 1557), some (.int x4), none, none, none] [] M ((k23 x4 M))) (x4 : Int32) (M : Mem) (hp : P__law__2267 g pk23 x4 M) : Rc g 68 (cx + 8) mL_law_ 2267 [some (.ref 5000000), some (.ref 1558), some (.ref 0), some (.ref 1557), some (.int x4), none, none, none] [] M ((F__law__2267 g k23 x4 M)) := by
  rw [F__law__2267]
  rw [P__law__2267] at hp
  obtain ⟨p0, hp⟩ := hp
  refine b_law__2267 p0 ?_
  obtain ⟨p1, hp⟩ := hp
  refine b_law__2274 p1 ?_
  obtain ⟨p2, hp⟩ := hp
  refine b_law__2280 p2 ?_
  obtain ⟨p3, hp⟩ := hp
  refine b_law__2286 p3 ?_
  obtain ⟨p4, hp⟩ := hp
  refine b_law__2292 p4 ?_
  obtain ⟨p5, hp⟩ := hp
  refine b_law__2298 p5 ?_
  obtain ⟨hc, hp⟩ := hp
  refine R_cw (cx := cx + 5) (by omega) (b_law__2305 (cx := cx)  (CW_span (scX g ((x4 + 1).toNatClampNeg)) (scX g ((x4 + 2).toNatClampNeg)) (scX g ((x4 + 3).toNatClampNeg)) (scX g ((x4 + 4).toNatClampNeg)) (scX g ((x4 + 5).toNatClampNeg)) (scX g ((x4 + 6).toNatClampNeg)) M hc) (Nat.le_of_ble_eq_true rfl) ?_)
  exact R_cw (by omega) (T__law__2309 k23 pk23 ih23 x4 ((W_span (scX g ((x4 + 1).toNatClampNeg)) (scX g ((x4 + 2).toNatClampNeg)) (scX g ((x4 + 3).toNatClampNeg)) (scX g ((x4 + 4).toNatClampNeg)) (scX g ((x4 + 5).toNatClampNeg)) (scX g ((x4 + 6).toNatClampNeg)) M).1) ((W_span (scX g ((x4 + 1).toNatClampNeg)) (scX g ((x4 + 2).toNatClampNeg)) (scX g ((x4 + 3).toNatClampNeg)) (scX g ((x4 + 4).toNatClampNeg)) (scX g ((x4 + 5).toNatClampNeg)) (scX g ((x4 + 6).toNatClampNeg)) M).2) hp)
def F__law__2393 (g : Gl) (k23 : Int32 → Mem → Oc) (x4 : Int32) (xs0 : Int32) (xs1 : Int32) (M : Mem) : Oc := if xs1 = xs0 then (F__law__2461 g k23 x4 M) else (.inl (some (.int 0), M))
def P__law__2393 (g : Gl) (pk23 : Int32 → Mem → Prop) (x4 : Int32) (xs0 : Int32) (xs1 : Int32) (M : Mem) : Prop := ((xs1 = xs0 → P__law__2461 g pk23 x4 M) ∧ (¬ xs1 = xs0 → True))
theorem T__law__2393 {g : Gl} {cx : Nat} (k23 : Int32 → Mem → Oc) (pk23 : Int32 → Mem → Prop) (ih23 : ∀ (x4 : Int32) (M : Mem), pk23 x4 M → Rc g 68 cx mL_law_ 23 [some (.ref 5000000), some (.ref 1558), some (.ref 0), some (.ref 1557), some (.int x4), none, none, none] [] M ((k23 x4 M))) (x4 : Int32) (xs0 : Int32) (xs1 : Int32) (M : Mem) (hp : P__law__2393 g pk23 x4 xs0 xs1 M) : Rc g 68 cx mL_law_ 2393 [some (.ref 5000000), some (.ref 1558), some (.ref 0), some (.ref 1557), some (.int x4), none, none, none] [.int xs0, .int xs1] M ((F__law__2393 g k23 x4 xs0 xs1 M)) := by
  rw [F__law__2393]
  rw [P__law__2393] at hp
  refine b_law__2393  (fun h => ?_) (fun h => ?_)
  · rw [if_pos h]
    have hp := hp.1 h
    exact R_cw (by omega) (T__law__2461 k23 pk23 ih23 x4 M hp)
  · rw [if_neg h]
    exact b_law__2396  rfl
def F__law__2389 (g : Gl) (k23 : Int32 → Mem → Oc) (x4 : Int32) (xs0 : Int32) (M : Mem) : Oc := F__law__2393 g k23 x4 ((F_12_image_0 M).1) xs0 ((F_12_image_0 M).2)
def P__law__2389 (g : Gl) (pk23 : Int32 → Mem → Prop) (x4 : Int32) (xs0 : Int32) (M : Mem) : Prop := ((P_12_image_0 M) ∧ (P__law__2393 g pk23 x4 ((F_12_image_0 M).1) xs0 ((F_12_image_0 M).2)))
theorem T__law__2389 {g : Gl} {cx : Nat} (k23 : Int32 → Mem → Oc) (pk23 : Int32 → Mem → Prop) (ih23 : ∀ (x4 : Int32) (M : Mem), pk23 x4 M → Rc g 68 cx mL_law_ 23 [some (.ref 5000000), some (.ref 1558), some (.ref 0), some (.ref 1557), some (.int x4), none, none, none] [] M ((k23 x4 M))) (x4 : Int32) (xs0 : Int32) (M : Mem) (hp : P__law__2389 g pk23 x4 xs0 M) : Rc g 68 cx mL_law_ 2389 [some (.ref 5000000), some (.ref 1558), some (.ref 0), some (.ref 1557), some (.int x4), none, none, none] [.int xs0] M ((F__law__2389 g k23 x4 xs0 M)) := by
  rw [F__law__2389]
  rw [P__law__2389] at hp
  obtain ⟨hc, hp⟩ := hp
  refine b_law__2389  (C_12_image  M hc) (Nat.le_of_ble_eq_true rfl) ?_
  exact R_cw (by omega) (T__law__2393 k23 pk23 ih23 x4 ((F_12_image_0 M).1) xs0 ((F_12_image_0 M).2) hp)
def F__law__2385 (g : Gl) (k23 : Int32 → Mem → Oc) (x4 : Int32) (M : Mem) : Oc := F__law__2389 g k23 x4 ((F_11_image_0 M).1) ((F_11_image_0 M).2)
def P__law__2385 (g : Gl) (pk23 : Int32 → Mem → Prop) (x4 : Int32) (M : Mem) : Prop := ((P_11_image_0 M) ∧ (P__law__2389 g pk23 x4 ((F_11_image_0 M).1) ((F_11_image_0 M).2)))
theorem T__law__2385 {g : Gl} {cx : Nat} (k23 : Int32 → Mem → Oc) (pk23 : Int32 → Mem → Prop) (ih23 : ∀ (x4 : Int32) (M : Mem), pk23 x4 M → Rc g 68 cx mL_law_ 23 [some (.ref 5000000), some (.ref 1558), some (.ref 0), some (.ref 1557), some (.int x4), none, none, none] [] M ((k23 x4 M))) (x4 : Int32) (M : Mem) (hp : P__law__2385 g pk23 x4 M) : Rc g 68 cx mL_law_ 2385 [some (.ref 5000000), some (.ref 1558), some (.ref 0), some (.ref 1557), some (.int x4), none, none, none] [] M ((F__law__2385 g k23 x4 M)) := by
  rw [F__law__2385]
  rw [P__law__2385] at hp
  obtain ⟨hc, hp⟩ := hp
  refine b_law__2385  (C_11_image M hc) (Nat.le_of_ble_eq_true rfl) ?_
  exact R_cw (by omega) (T__law__2389 k23 pk23 ih23 x4 ((F_11_image_0 M).1) ((F_11_image_0 M).2) hp)
def F__law__2406 (g : Gl) (k23 : Int32 → Mem → Oc) (x4 : Int32) (xs0 : Int32) (xs1 : Int32) (M : Mem) : Oc := if xs1 = xs0 then (F__law__2461 g k23 x4 M) else (.inl (some (.int 0), M))
def P__law__2406 (g : Gl) (pk23 : Int32 → Mem → Prop) (x4 : Int32) (xs0 : Int32) (xs1 : Int32) (M : Mem) : Prop := ((xs1 = xs0 → P__law__2461 g pk23 x4 M) ∧ (¬ xs1 = xs0 → True))
theorem T__law__2406 {g : Gl} {cx : Nat} (k23 : Int32 → Mem → Oc) (pk23 : Int32 → Mem → Prop) (ih23 : ∀ (x4 : Int32) (M : Mem), pk23 x4 M → Rc g 68 cx mL_law_ 23 [some (.ref 5000000), some (.ref 1558), some (.ref 0), some (.ref 1557), some (.int x4), none, none, none] [] M ((k23 x4 M))) (x4 : Int32) (xs0 : Int32) (xs1 : Int32) (M : Mem) (hp : P__law__2406 g pk23 x4 xs0 xs1 M) : Rc g 68 cx mL_law_ 2406 [some (.ref 5000000), some (.ref 1558), some (.ref 0), some (.ref 1557), some (.int x4), none, none, none] [.int xs0, .int xs1] M ((F__law__2406 g k23 x4 xs0 xs1 M)) := by
  rw [F__law__2406]
  rw [P__law__2406] at hp
  refine b_law__2406  (fun h => ?_) (fun h => ?_)
  · rw [if_pos h]
    have hp := hp.1 h
    exact R_cw (by omega) (T__law__2461 k23 pk23 ih23 x4 M hp)
  · rw [if_neg h]
    exact b_law__2409  rfl
def F__law__2402 (g : Gl) (k23 : Int32 → Mem → Oc) (x4 : Int32) (xs0 : Int32) (M : Mem) : Oc := F__law__2406 g k23 x4 ((F_12_restore_0 M).1) xs0 ((F_12_restore_0 M).2)
def P__law__2402 (g : Gl) (pk23 : Int32 → Mem → Prop) (x4 : Int32) (xs0 : Int32) (M : Mem) : Prop := ((P_12_restore_0 M) ∧ (P__law__2406 g pk23 x4 ((F_12_restore_0 M).1) xs0 ((F_12_restore_0 M).2)))
theorem T__law__2402 {g : Gl} {cx : Nat} (k23 : Int32 → Mem → Oc) (pk23 : Int32 → Mem → Prop) (ih23 : ∀ (x4 : Int32) (M : Mem), pk23 x4 M → Rc g 68 cx mL_law_ 23 [some (.ref 5000000), some (.ref 1558), some (.ref 0), some (.ref 1557), some (.int x4), none, none, none] [] M ((k23 x4 M))) (x4 : Int32) (xs0 : Int32) (M : Mem) (hp : P__law__2402 g pk23 x4 xs0 M) : Rc g 68 cx mL_law_ 2402 [some (.ref 5000000), some (.ref 1558), some (.ref 0), some (.ref 1557), some (.int x4), none, none, none] [.int xs0] M ((F__law__2402 g k23 x4 xs0 M)) := by
  rw [F__law__2402]
  rw [P__law__2402] at hp
  obtain ⟨hc, hp⟩ := hp
  refine b_law__2402  (C_12_restore  M hc) (Nat.le_of_ble_eq_true rfl) ?_
  exact R_cw (by omega) (T__law__2406 k23 pk23 ih23 x4 ((F_12_restore_0 M).1) xs0 ((F_12_restore_0 M).2) hp)
def F__law__2398 (g : Gl) (k23 : Int32 → Mem → Oc) (x4 : Int32) (M : Mem) : Oc := F__law__2402 g k23 x4 ((F_11_restore_0 M).1) ((F_11_restore_0 M).2)
def P__law__2398 (g : Gl) (pk23 : Int32 → Mem → Prop) (x4 : Int32) (M : Mem) : Prop := ((P_11_restore_0 M) ∧ (P__law__2402 g pk23 x4 ((F_11_restore_0 M).1) ((F_11_restore_0 M).2)))
theorem T__law__2398 {g : Gl} {cx : Nat} (k23 : Int32 → Mem → Oc) (pk23 : Int32 → Mem → Prop) (ih23 : ∀ (x4 : Int32) (M : Mem), pk23 x4 M → Rc g 68 cx mL_law_ 23 [some (.ref 5000000), some (.ref 1558), some (.ref 0), some (.ref 1557), some (.int x4), none, none, none] [] M ((k23 x4 M))) (x4 : Int32) (M : Mem) (hp : P__law__2398 g pk23 x4 M) : Rc g 68 cx mL_law_ 2398 [some (.ref 5000000), some (.ref 1558), some (.ref 0), some (.ref 1557), some (.int x4), none, none, none] [] M ((F__law__2398 g k23 x4 M)) := by
  rw [F__law__2398]
  rw [P__law__2398] at hp
  obtain ⟨hc, hp⟩ := hp
  refine b_law__2398  (C_11_restore M hc) (Nat.le_of_ble_eq_true rfl) ?_
  exact R_cw (by omega) (T__law__2402 k23 pk23 ih23 x4 ((F_11_restore_0 M).1) ((F_11_restore_0 M).2) hp)
def F__law__2431 (g : Gl) (k23 : Int32 → Mem → Oc) (x4 : Int32) (xs0 : Int32) (xs1 : Int32) (M : Mem) : Oc := if xs1 = xs0 then (F__law__2461 g k23 x4 M) else (.inl (some (.int 0), M))
def P__law__2431 (g : Gl) (pk23 : Int32 → Mem → Prop) (x4 : Int32) (xs0 : Int32) (xs1 : Int32) (M : Mem) : Prop := ((xs1 = xs0 → P__law__2461 g pk23 x4 M) ∧ (¬ xs1 = xs0 → True))
theorem T__law__2431 {g : Gl} {cx : Nat} (k23 : Int32 → Mem → Oc) (pk23 : Int32 → Mem → Prop) (ih23 : ∀ (x4 : Int32) (M : Mem), pk23 x4 M → Rc g 68 cx mL_law_ 23 [some (.ref 5000000), some (.ref 1558), some (.ref 0), some (.ref 1557), some (.int x4), none, none, none] [] M ((k23 x4 M))) (x4 : Int32) (xs0 : Int32) (xs1 : Int32) (M : Mem) (hp : P__law__2431 g pk23 x4 xs0 xs1 M) : Rc g 68 cx mL_law_ 2431 [some (.ref 5000000), some (.ref 1558), some (.ref 0), some (.ref 1557), some (.int x4), none, none, none] [.int xs0, .int xs1] M ((F__law__2431 g k23 x4 xs0 xs1 M)) := by
  rw [F__law__2431]
  rw [P__law__2431] at hp
  refine b_law__2431  (fun h => ?_) (fun h => ?_)
  · rw [if_pos h]
    have hp := hp.1 h
    exact R_cw (by omega) (T__law__2461 k23 pk23 ih23 x4 M hp)
  · rw [if_neg h]
    exact b_law__2434  rfl
def F__law__2411 (g : Gl) (k23 : Int32 → Mem → Oc) (x4 : Int32) (M : Mem) : Oc := F__law__2431 g k23 x4 ((F_12_status_0 (scX g ((x4 + 1).toNatClampNeg)) M).1) (F_11_status_0 M (scX g ((x4 + 1).toNatClampNeg))) ((F_12_status_0 (scX g ((x4 + 1).toNatClampNeg)) M).2)
def P__law__2411 (g : Gl) (pk23 : Int32 → Mem → Prop) (x4 : Int32) (M : Mem) : Prop := (vp_in (x4 + 1) (g.2.2.2 5000001)) ∧ ((((vp_in (x4 + 1) (g.2.2.2 5000001)) ∧ (((P_12_status_0 (scX g ((x4 + 1).toNatClampNeg)) M) ∧ (P__law__2431 g pk23 x4 ((F_12_status_0 (scX g ((x4 + 1).toNatClampNeg)) M).1) (F_11_status_0 M (scX g ((x4 + 1).toNatClampNeg))) ((F_12_status_0 (scX g ((x4 + 1).toNatClampNeg)) M).2)))))))
theorem T__law__2411 {g : Gl} {cx : Nat} (k23 : Int32 → Mem → Oc) (pk23 : Int32 → Mem → Prop) (ih23 : ∀ (x4 : Int32) (M : Mem), pk23 x4 M → Rc g 68 cx mL_law_ 23 [some (.ref 5000000), some (.ref 1558), some (.ref 0), some (.ref 1557), some (.int x4), none, none, none] [] M ((k23 x4 M))) (x4 : Int32) (M : Mem) (hp : P__law__2411 g pk23 x4 M) : Rc g 68 cx mL_law_ 2411 [some (.ref 5000000), some (.ref 1558), some (.ref 0), some (.ref 1557), some (.int x4), none, none, none] [] M ((F__law__2411 g k23 x4 M)) := by
  rw [F__law__2411]
  rw [P__law__2411] at hp
  obtain ⟨p0, hp⟩ := hp
  refine b_law__2411 p0 ?_
  refine b_law__2418  (C_11_status (scX g ((x4 + 1).toNatClampNeg)) M) (Nat.le_of_ble_eq_true rfl) ?_
  obtain ⟨p1, hp⟩ := hp
  refine b_law__2421 p1 ?_
  obtain ⟨hc, hp⟩ := hp
  refine b_law__2428  (C_12_status (scX g ((x4 + 1).toNatClampNeg)) M hc) (Nat.le_of_ble_eq_true rfl) ?_
  exact R_cw (by omega) (T__law__2431 k23 pk23 ih23 x4 ((F_12_status_0 (scX g ((x4 + 1).toNatClampNeg)) M).1) (F_11_status_0 M (scX g ((x4 + 1).toNatClampNeg))) ((F_12_status_0 (scX g ((x4 + 1).toNatClampNeg)) M).2) hp)
def F__law__2456 (g : Gl) (k23 : Int32 → Mem → Oc) (x4 : Int32) (xs0 : Int32) (xs1 : Int32) (M : Mem) : Oc := if xs1 = xs0 then (F__law__2461 g k23 x4 M) else (.inl (some (.int 0), M))
def P__law__2456 (g : Gl) (pk23 : Int32 → Mem → Prop) (x4 : Int32) (xs0 : Int32) (xs1 : Int32) (M : Mem) : Prop := ((xs1 = xs0 → P__law__2461 g pk23 x4 M) ∧ (¬ xs1 = xs0 → True))
theorem T__law__2456 {g : Gl} {cx : Nat} (k23 : Int32 → Mem → Oc) (pk23 : Int32 → Mem → Prop) (ih23 : ∀ (x4 : Int32) (M : Mem), pk23 x4 M → Rc g 68 cx mL_law_ 23 [some (.ref 5000000), some (.ref 1558), some (.ref 0), some (.ref 1557), some (.int x4), none, none, none] [] M ((k23 x4 M))) (x4 : Int32) (xs0 : Int32) (xs1 : Int32) (M : Mem) (hp : P__law__2456 g pk23 x4 xs0 xs1 M) : Rc g 68 cx mL_law_ 2456 [some (.ref 5000000), some (.ref 1558), some (.ref 0), some (.ref 1557), some (.int x4), none, none, none] [.int xs0, .int xs1] M ((F__law__2456 g k23 x4 xs0 xs1 M)) := by
  rw [F__law__2456]
  rw [P__law__2456] at hp
  refine b_law__2456  (fun h => ?_) (fun h => ?_)
  · rw [if_pos h]
    have hp := hp.1 h
    exact R_cw (by omega) (T__law__2461 k23 pk23 ih23 x4 M hp)
  · rw [if_neg h]
    exact b_law__2459  rfl
def F__law__2436 (g : Gl) (k23 : Int32 → Mem → Oc) (x4 : Int32) (M : Mem) : Oc := F__law__2456 g k23 x4 ((F_12_count_0 (scX g ((x4 + 1).toNatClampNeg)) M).1) (F_11_count_0 M (scX g ((x4 + 1).toNatClampNeg))) ((F_12_count_0 (scX g ((x4 + 1).toNatClampNeg)) M).2)
def P__law__2436 (g : Gl) (pk23 : Int32 → Mem → Prop) (x4 : Int32) (M : Mem) : Prop := (vp_in (x4 + 1) (g.2.2.2 5000001)) ∧ ((((vp_in (x4 + 1) (g.2.2.2 5000001)) ∧ (((P__law__2456 g pk23 x4 ((F_12_count_0 (scX g ((x4 + 1).toNatClampNeg)) M).1) (F_11_count_0 M (scX g ((x4 + 1).toNatClampNeg))) ((F_12_count_0 (scX g ((x4 + 1).toNatClampNeg)) M).2)))))))
theorem T__law__2436 {g : Gl} {cx : Nat} (k23 : Int32 → Mem → Oc) (pk23 : Int32 → Mem → Prop) (ih23 : ∀ (x4 : Int32) (M : Mem), pk23 x4 M → Rc g 68 cx mL_law_ 23 [some (.ref 5000000), some (.ref 1558), some (.ref 0), some (.ref 1557), some (.int x4), none, none, none] [] M ((k23 x4 M))) (x4 : Int32) (M : Mem) (hp : P__law__2436 g pk23 x4 M) : Rc g 68 cx mL_law_ 2436 [some (.ref 5000000), some (.ref 1558), some (.ref 0), some (.ref 1557), some (.int x4), none, none, none] [] M ((F__law__2436 g k23 x4 M)) := by
  rw [F__law__2436]
  rw [P__law__2436] at hp
  obtain ⟨p0, hp⟩ := hp
  refine b_law__2436 p0 ?_
  refine b_law__2443  (C_11_count (scX g ((x4 + 1).toNatClampNeg)) M) (Nat.le_of_ble_eq_true rfl) ?_
  obtain ⟨p1, hp⟩ := hp
  refine b_law__2446 p1 ?_
  refine b_law__2453  (C_12_count (scX g ((x4 + 1).toNatClampNeg)) M) (Nat.le_of_ble_eq_true rfl) ?_
  exact R_cw (by omega) (T__law__2456 k23 pk23 ih23 x4 ((F_12_count_0 (scX g ((x4 + 1).toNatClampNeg)) M).1) (F_11_count_0 M (scX g ((x4 + 1).toNatClampNeg))) ((F_12_count_0 (scX g ((x4 + 1).toNatClampNeg)) M).2) hp)
def F__law__37 (g : Gl) (k23 : Int32 → Mem → Oc) (x4 : Int32) (xs0 : Int32) (M : Mem) : Oc := (if (xs0 &&& 63) = 0 then (F__law__220 g k23 x4 M) else (if (xs0 &&& 63) = 1 then (F__law__293 g k23 x4 M) else (if (xs0 &&& 63) = 2 then (F__law__349 g k23 x4 M) else (if (xs0 &&& 63) = 3 then (F__law__405 g k23 x4 M) else (if (xs0 &&& 63) = 4 then (F__law__461 g k23 x4 M) else (if (xs0 &&& 63) = 5 then (F__law__517 g k23 x4 M) else (if (xs0 &&& 63) = 6 then (F__law__530 g k23 x4 M) else (if (xs0 &&& 63) = 7 then (F__law__543 g k23 x4 M) else (if (xs0 &&& 63) = 8 then (F__law__599 g k23 x4 M) else (if (xs0 &&& 63) = 9 then (F__law__667 g k23 x4 M) else (if (xs0 &&& 63) = 10 then (F__law__735 g k23 x4 M) else (if (xs0 &&& 63) = 11 then (F__law__791 g k23 x4 M) else (if (xs0 &&& 63) = 12 then (F__law__878 g k23 x4 M) else (if (xs0 &&& 63) = 13 then (F__law__891 g k23 x4 M) else (if (xs0 &&& 63) = 14 then (F__law__904 g k23 x4 M) else (if (xs0 &&& 63) = 15 then (F__law__960 g k23 x4 M) else (if (xs0 &&& 63) = 16 then (F__law__1023 g k23 x4 M) else (if (xs0 &&& 63) = 17 then (F__law__1091 g k23 x4 M) else (if (xs0 &&& 63) = 18 then (F__law__1159 g k23 x4 M) else (if (xs0 &&& 63) = 19 then (F__law__1215 g k23 x4 M) else (if (xs0 &&& 63) = 20 then (F__law__1271 g k23 x4 M) else (if (xs0 &&& 63) = 21 then (F__law__1327 g k23 x4 M) else (if (xs0 &&& 63) = 22 then (F__law__1383 g k23 x4 M) else (if (xs0 &&& 63) = 23 then (F__law__1396 g k23 x4 M) else (if (xs0 &&& 63) = 24 then (F__law__1452 g k23 x4 M) else (if (xs0 &&& 63) = 25 then (F__law__1508 g k23 x4 M) else (if (xs0 &&& 63) = 26 then (F__law__1564 g k23 x4 M) else (if (xs0 &&& 63) = 27 then (F__law__1644 g k23 x4 M) else (if (xs0 &&& 63) = 28 then (F__law__1724 g k23 x4 M) else (if (xs0 &&& 63) = 29 then (F__law__1803 g k23 x4 M) else (if (xs0 &&& 63) = 30 then (F__law__1871 g k23 x4 M) else (if (xs0 &&& 63) = 31 then (F__law__1939 g k23 x4 M) else (if (xs0 &&& 63) = 32 then (F__law__1995 g k23 x4 M) else (if (xs0 &&& 63) = 33 then (F__law__2063 g k23 x4 M) else (if (xs0 &&& 63) = 34 then (F__law__2119 g k23 x4 M) else (if (xs0 &&& 63) = 35 then (F__law__2175 g k23 x4 M) else (if (xs0 &&& 63) = 36 then (F__law__2267 g k23 x4 M) else (if (xs0 &&& 63) = 37 then (F__law__2385 g k23 x4 M) else (if (xs0 &&& 63) = 38 then (F__law__2398 g k23 x4 M) else (if (xs0 &&& 63) = 39 then (F__law__2411 g k23 x4 M) else (if (xs0 &&& 63) = 40 then (F__law__2436 g k23 x4 M) else (F__law__2461 g k23 x4 M))))))))))))))))))))))))))))))))))))))))))
def P__law__37 (g : Gl) (pk23 : Int32 → Mem → Prop) (x4 : Int32) (xs0 : Int32) (M : Mem) : Prop := (((xs0 &&& 63) = 0 → P__law__220 g pk23 x4 M) ∧ ((xs0 &&& 63) = 1 → P__law__293 g pk23 x4 M) ∧ ((xs0 &&& 63) = 2 → P__law__349 g pk23 x4 M) ∧ ((xs0 &&& 63) = 3 → P__law__405 g pk23 x4 M) ∧ ((xs0 &&& 63) = 4 → P__law__461 g pk23 x4 M) ∧ ((xs0 &&& 63) = 5 → P__law__517 g pk23 x4 M) ∧ ((xs0 &&& 63) = 6 → P__law__530 g pk23 x4 M) ∧ ((xs0 &&& 63) = 7 → P__law__543 g pk23 x4 M) ∧ ((xs0 &&& 63) = 8 → P__law__599 g pk23 x4 M) ∧ ((xs0 &&& 63) = 9 → P__law__667 g pk23 x4 M) ∧ ((xs0 &&& 63) = 10 → P__law__735 g pk23 x4 M) ∧ ((xs0 &&& 63) = 11 → P__law__791 g pk23 x4 M) ∧ ((xs0 &&& 63) = 12 → P__law__878 g pk23 x4 M) ∧ ((xs0 &&& 63) = 13 → P__law__891 g pk23 x4 M) ∧ ((xs0 &&& 63) = 14 → P__law__904 g pk23 x4 M) ∧ ((xs0 &&& 63) = 15 → P__law__960 g pk23 x4 M) ∧ ((xs0 &&& 63) = 16 → P__law__1023 g pk23 x4 M) ∧ ((xs0 &&& 63) = 17 → P__law__1091 g pk23 x4 M) ∧ ((xs0 &&& 63) = 18 → P__law__1159 g pk23 x4 M) ∧ ((xs0 &&& 63) = 19 → P__law__1215 g pk23 x4 M) ∧ ((xs0 &&& 63) = 20 → P__law__1271 g pk23 x4 M) ∧ ((xs0 &&& 63) = 21 → P__law__1327 g pk23 x4 M) ∧ ((xs0 &&& 63) = 22 → P__law__1383 g pk23 x4 M) ∧ ((xs0 &&& 63) = 23 → P__law__1396 g pk23 x4 M) ∧ ((xs0 &&& 63) = 24 → P__law__1452 g pk23 x4 M) ∧ ((xs0 &&& 63) = 25 → P__law__1508 g pk23 x4 M) ∧ ((xs0 &&& 63) = 26 → P__law__1564 g pk23 x4 M) ∧ ((xs0 &&& 63) = 27 → P__law__1644 g pk23 x4 M) ∧ ((xs0 &&& 63) = 28 → P__law__1724 g pk23 x4 M) ∧ ((xs0 &&& 63) = 29 → P__law__1803 g pk23 x4 M) ∧ ((xs0 &&& 63) = 30 → P__law__1871 g pk23 x4 M) ∧ ((xs0 &&& 63) = 31 → P__law__1939 g pk23 x4 M) ∧ ((xs0 &&& 63) = 32 → P__law__1995 g pk23 x4 M) ∧ ((xs0 &&& 63) = 33 → P__law__2063 g pk23 x4 M) ∧ ((xs0 &&& 63) = 34 → P__law__2119 g pk23 x4 M) ∧ ((xs0 &&& 63) = 35 → P__law__2175 g pk23 x4 M) ∧ ((xs0 &&& 63) = 36 → P__law__2267 g pk23 x4 M) ∧ ((xs0 &&& 63) = 37 → P__law__2385 g pk23 x4 M) ∧ ((xs0 &&& 63) = 38 → P__law__2398 g pk23 x4 M) ∧ ((xs0 &&& 63) = 39 → P__law__2411 g pk23 x4 M) ∧ ((xs0 &&& 63) = 40 → P__law__2436 g pk23 x4 M) ∧ (¬ (xs0 &&& 63) = 0 ∧ ¬ (xs0 &&& 63) = 1 ∧ ¬ (xs0 &&& 63) = 2 ∧ ¬ (xs0 &&& 63) = 3 ∧ ¬ (xs0 &&& 63) = 4 ∧ ¬ (xs0 &&& 63) = 5 ∧ ¬ (xs0 &&& 63) = 6 ∧ ¬ (xs0 &&& 63) = 7 ∧ ¬ (xs0 &&& 63) = 8 ∧ ¬ (xs0 &&& 63) = 9 ∧ ¬ (xs0 &&& 63) = 10 ∧ ¬ (xs0 &&& 63) = 11 ∧ ¬ (xs0 &&& 63) = 12 ∧ ¬ (xs0 &&& 63) = 13 ∧ ¬ (xs0 &&& 63) = 14 ∧ ¬ (xs0 &&& 63) = 15 ∧ ¬ (xs0 &&& 63) = 16 ∧ ¬ (xs0 &&& 63) = 17 ∧ ¬ (xs0 &&& 63) = 18 ∧ ¬ (xs0 &&& 63) = 19 ∧ ¬ (xs0 &&& 63) = 20 ∧ ¬ (xs0 &&& 63) = 21 ∧ ¬ (xs0 &&& 63) = 22 ∧ ¬ (xs0 &&& 63) = 23 ∧ ¬ (xs0 &&& 63) = 24 ∧ ¬ (xs0 &&& 63) = 25 ∧ ¬ (xs0 &&& 63) = 26 ∧ ¬ (xs0 &&& 63) = 27 ∧ ¬ (xs0 &&& 63) = 28 ∧ ¬ (xs0 &&& 63) = 29 ∧ ¬ (xs0 &&& 63) = 30 ∧ ¬ (xs0 &&& 63) = 31 ∧ ¬ (xs0 &&& 63) = 32 ∧ ¬ (xs0 &&& 63) = 33 ∧ ¬ (xs0 &&& 63) = 34 ∧ ¬ (xs0 &&& 63) = 35 ∧ ¬ (xs0 &&& 63) = 36 ∧ ¬ (xs0 &&& 63) = 37 ∧ ¬ (xs0 &&& 63) = 38 ∧ ¬ (xs0 &&& 63) = 39 ∧ ¬ (xs0 &&& 63) = 40 → P__law__2461 g pk23 x4 M))
theorem T__law__37 {g : Gl} {cx : Nat} (k23 : Int32 → Mem → Oc) (pk23 : Int32 → Mem → Prop) (ih23 : ∀ (x4 : Int32) (M : Mem), pk23 x4 M → Rc g 68 cx mL_law_ 23 [some (.ref 5000000), some (.ref 1558), some (.ref 0), some (.ref 1557), some (.int x4), none, none, none] [] M ((k23 x4 M))) (x4 : Int32) (xs0 : Int32) (M : Mem) (hp : P__law__37 g pk23 x4 xs0 M) : Rc g 68 (cx + 8) mL_law_ 37 [some (.ref 5000000), some (.ref 1558), some (.ref 0), some (.ref 1557), some (.int x4), none, none, none] [.int xs0] M ((F__law__37 g k23 x4 xs0 M)) := by
  rw [F__law__37]
  rw [P__law__37] at hp
  by_cases h0 : (xs0 &&& 63) = 0
  · rw [if_pos h0]
    have hp := hp.1 h0
    refine b_law__37_c0  h0 ?_
    exact R_cw (by omega) (T__law__220 k23 pk23 ih23 x4 M hp)
  rw [if_neg h0]
  by_cases h1 : (xs0 &&& 63) = 1
  · rw [if_pos h1]
    have hp := hp.2.1 h1
    refine b_law__37_c1  h1 ?_
    exact R_cw (by omega) (T__law__293 k23 pk23 ih23 x4 M hp)
  rw [if_neg h1]
  by_cases h2 : (xs0 &&& 63) = 2
  · rw [if_pos h2]
    have hp := hp.2.2.1 h2
    refine b_law__37_c2  h2 ?_
    exact R_cw (by omega) (T__law__349 k23 pk23 ih23 x4 M hp)
  rw [if_neg h2]
  by_cases h3 : (xs0 &&& 63) = 3
  · rw [if_pos h3]
    have hp := hp.2.2.2.1 h3
    refine b_law__37_c3  h3 ?_
    exact R_cw (by omega) (T__law__405 k23 pk23 ih23 x4 M hp)
  rw [if_neg h3]
  by_cases h4 : (xs0 &&& 63) = 4
  · rw [if_pos h4]
    have hp := hp.2.2.2.2.1 h4
    refine b_law__37_c4  h4 ?_
    exact R_cw (by omega) (T__law__461 k23 pk23 ih23 x4 M hp)
  rw [if_neg h4]
  by_cases h5 : (xs0 &&& 63) = 5
  · rw [if_pos h5]
    have hp := hp.2.2.2.2.2.1 h5
    refine b_law__37_c5  h5 ?_
    exact R_cw (by omega) (T__law__517 k23 pk23 ih23 x4 M hp)
  rw [if_neg h5]
  by_cases h6 : (xs0 &&& 63) = 6
  · rw [if_pos h6]
    have hp := hp.2.2.2.2.2.2.1 h6
    refine b_law__37_c6  h6 ?_
    exact R_cw (by omega) (T__law__530 k23 pk23 ih23 x4 M hp)
  rw [if_neg h6]
  by_cases h7 : (xs0 &&& 63) = 7
  · rw [if_pos h7]
    have hp := hp.2.2.2.2.2.2.2.1 h7
    refine b_law__37_c7  h7 ?_
    exact R_cw (by omega) (T__law__543 k23 pk23 ih23 x4 M hp)
  rw [if_neg h7]
  by_cases h8 : (xs0 &&& 63) = 8
  · rw [if_pos h8]
    have hp := hp.2.2.2.2.2.2.2.2.1 h8
    refine b_law__37_c8  h8 ?_
    exact R_cw (by omega) (T__law__599 k23 pk23 ih23 x4 M hp)
  rw [if_neg h8]
  by_cases h9 : (xs0 &&& 63) = 9
  · rw [if_pos h9]
    have hp := hp.2.2.2.2.2.2.2.2.2.1 h9
    refine b_law__37_c9  h9 ?_
    exact R_cw (by omega) (T__law__667 k23 pk23 ih23 x4 M hp)
  rw [if_neg h9]
  by_cases h10 : (xs0 &&& 63) = 10
  · rw [if_pos h10]
    have hp := hp.2.2.2.2.2.2.2.2.2.2.1 h10
    refine b_law__37_c10  h10 ?_
    exact R_cw (by omega) (T__law__735 k23 pk23 ih23 x4 M hp)
  rw [if_neg h10]
  by_cases h11 : (xs0 &&& 63) = 11
  · rw [if_pos h11]
    have hp := hp.2.2.2.2.2.2.2.2.2.2.2.1 h11
    refine b_law__37_c11  h11 ?_
    exact R_cw (by omega) (T__law__791 k23 pk23 ih23 x4 M hp)
  rw [if_neg h11]
  by_cases h12 : (xs0 &&& 63) = 12
  · rw [if_pos h12]
    have hp := hp.2.2.2.2.2.2.2.2.2.2.2.2.1 h12
    refine b_law__37_c12  h12 ?_
    exact R_cw (by omega) (T__law__878 k23 pk23 ih23 x4 M hp)
  rw [if_neg h12]
  by_cases h13 : (xs0 &&& 63) = 13
  · rw [if_pos h13]
    have hp := hp.2.2.2.2.2.2.2.2.2.2.2.2.2.1 h13
    refine b_law__37_c13  h13 ?_
    exact R_cw (by omega) (T__law__891 k23 pk23 ih23 x4 M hp)
  rw [if_neg h13]
  by_cases h14 : (xs0 &&& 63) = 14
  · rw [if_pos h14]
    have hp := hp.2.2.2.2.2.2.2.2.2.2.2.2.2.2.1 h14
    refine b_law__37_c14  h14 ?_
    exact R_cw (by omega) (T__law__904 k23 pk23 ih23 x4 M hp)
  rw [if_neg h14]
  by_cases h15 : (xs0 &&& 63) = 15
  · rw [if_pos h15]
    have hp := hp.2.2.2.2.2.2.2.2.2.2.2.2.2.2.2.1 h15
    refine b_law__37_c15  h15 ?_
    exact R_cw (by omega) (T__law__960 k23 pk23 ih23 x4 M hp)
  rw [if_neg h15]
  by_cases h16 : (xs0 &&& 63) = 16
  · rw [if_pos h16]
    have hp := hp.2.2.2.2.2.2.2.2.2.2.2.2.2.2.2.2.1 h16
    refine b_law__37_c16  h16 ?_
    exact R_cw (by omega) (T__law__1023 k23 pk23 ih23 x4 M hp)
  rw [if_neg h16]
  by_cases h17 : (xs0 &&& 63) = 17
  · rw [if_pos h17]
    have hp := hp.2.2.2.2.2.2.2.2.2.2.2.2.2.2.2.2.2.1 h17
    refine b_law__37_c17  h17 ?_
    exact R_cw (by omega) (T__law__1091 k23 pk23 ih23 x4 M hp)
  rw [if_neg h17]
  by_cases h18 : (xs0 &&& 63) = 18
  · rw [if_pos h18]
    have hp := hp.2.2.2.2.2.2.2.2.2.2.2.2.2.2.2.2.2.2.1 h18
    refine b_law__37_c18  h18 ?_
    exact R_cw (by omega) (T__law__1159 k23 pk23 ih23 x4 M hp)
  rw [if_neg h18]
  by_cases h19 : (xs0 &&& 63) = 19
  · rw [if_pos h19]
    have hp := hp.2.2.2.2.2.2.2.2.2.2.2.2.2.2.2.2.2.2.2.1 h19
    refine b_law__37_c19  h19 ?_
    exact R_cw (by omega) (T__law__1215 k23 pk23 ih23 x4 M hp)
  rw [if_neg h19]
  by_cases h20 : (xs0 &&& 63) = 20
  · rw [if_pos h20]
    have hp := hp.2.2.2.2.2.2.2.2.2.2.2.2.2.2.2.2.2.2.2.2.1 h20
    refine b_law__37_c20  h20 ?_
    exact R_cw (by omega) (T__law__1271 k23 pk23 ih23 x4 M hp)
  rw [if_neg h20]
  by_cases h21 : (xs0 &&& 63) = 21
  · rw [if_pos h21]
    have hp := hp.2.2.2.2.2.2.2.2.2.2.2.2.2.2.2.2.2.2.2.2.2.1 h21
    refine b_law__37_c21  h21 ?_
    exact R_cw (by omega) (T__law__1327 k23 pk23 ih23 x4 M hp)
  rw [if_neg h21]
  by_cases h22 : (xs0 &&& 63) = 22
  · rw [if_pos h22]
    have hp := hp.2.2.2.2.2.2.2.2.2.2.2.2.2.2.2.2.2.2.2.2.2.2.1 h22
    refine b_law__37_c22  h22 ?_
    exact R_cw (by omega) (T__law__1383 k23 pk23 ih23 x4 M hp)
  rw [if_neg h22]
  by_cases h23 : (xs0 &&& 63) = 23
  · rw [if_pos h23]
    have hp := hp.2.2.2.2.2.2.2.2.2.2.2.2.2.2.2.2.2.2.2.2.2.2.2.1 h23
    refine b_law__37_c23  h23 ?_
    exact R_cw (by omega) (T__law__1396 k23 pk23 ih23 x4 M hp)
  rw [if_neg h23]
  by_cases h24 : (xs0 &&& 63) = 24
  · rw [if_pos h24]
    have hp := hp.2.2.2.2.2.2.2.2.2.2.2.2.2.2.2.2.2.2.2.2.2.2.2.2.1 h24
    refine b_law__37_c24  h24 ?_
    exact R_cw (by omega) (T__law__1452 k23 pk23 ih23 x4 M hp)
  rw [if_neg h24]
  by_cases h25 : (xs0 &&& 63) = 25
  · rw [if_pos h25]
    have hp := hp.2.2.2.2.2.2.2.2.2.2.2.2.2.2.2.2.2.2.2.2.2.2.2.2.2.1 h25
    refine b_law__37_c25  h25 ?_
    exact R_cw (by omega) (T__law__1508 k23 pk23 ih23 x4 M hp)
  rw [if_neg h25]
  by_cases h26 : (xs0 &&& 63) = 26
  · rw [if_pos h26]
    have hp := hp.2.2.2.2.2.2.2.2.2.2.2.2.2.2.2.2.2.2.2.2.2.2.2.2.2.2.1 h26
    refine b_law__37_c26  h26 ?_
    exact R_cw (by omega) (T__law__1564 k23 pk23 ih23 x4 M hp)
  rw [if_neg h26]
  by_cases h27 : (xs0 &&& 63) = 27
  · rw [if_pos h27]
    have hp := hp.2.2.2.2.2.2.2.2.2.2.2.2.2.2.2.2.2.2.2.2.2.2.2.2.2.2.2.1 h27
    refine b_law__37_c27  h27 ?_
    exact R_cw (by omega) (T__law__1644 k23 pk23 ih23 x4 M hp)
  rw [if_neg h27]
  by_cases h28 : (xs0 &&& 63) = 28
  · rw [if_pos h28]
    have hp := hp.2.2.2.2.2.2.2.2.2.2.2.2.2.2.2.2.2.2.2.2.2.2.2.2.2.2.2.2.1 h28
    refine b_law__37_c28  h28 ?_
    exact R_cw (by omega) (T__law__1724 k23 pk23 ih23 x4 M hp)
  rw [if_neg h28]
  by_cases h29 : (xs0 &&& 63) = 29
  · rw [if_pos h29]
    have hp := hp.2.2.2.2.2.2.2.2.2.2.2.2.2.2.2.2.2.2.2.2.2.2.2.2.2.2.2.2.2.1 h29
    refine b_law__37_c29  h29 ?_
    exact R_cw (by omega) (T__law__1803 k23 pk23 ih23 x4 M hp)
  rw [if_neg h29]
  by_cases h30 : (xs0 &&& 63) = 30
  · rw [if_pos h30]
    have hp := hp.2.2.2.2.2.2.2.2.2.2.2.2.2.2.2.2.2.2.2.2.2.2.2.2.2.2.2.2.2.2.1 h30
    refine b_law__37_c30  h30 ?_
    exact R_cw (by omega) (T__law__1871 k23 pk23 ih23 x4 M hp)
  rw [if_neg h30]
  by_cases h31 : (xs0 &&& 63) = 31
  · rw [if_pos h31]
    have hp := hp.2.2.2.2.2.2.2.2.2.2.2.2.2.2.2.2.2.2.2.2.2.2.2.2.2.2.2.2.2.2.2.1 h31
    refine b_law__37_c31  h31 ?_
    exact R_cw (by omega) (T__law__1939 k23 pk23 ih23 x4 M hp)
  rw [if_neg h31]
  by_cases h32 : (xs0 &&& 63) = 32
  · rw [if_pos h32]
    have hp := hp.2.2.2.2.2.2.2.2.2.2.2.2.2.2.2.2.2.2.2.2.2.2.2.2.2.2.2.2.2.2.2.2.1 h32
    refine b_law__37_c32  h32 ?_
    exact R_cw (by omega) (T__law__1995 k23 pk23 ih23 x4 M hp)
  rw [if_neg h32]
  by_cases h33 : (xs0 &&& 63) = 33
  · rw [if_pos h33]
    have hp := hp.2.2.2.2.2.2.2.2.2.2.2.2.2.2.2.2.2.2.2.2.2.2.2.2.2.2.2.2.2.2.2.2.2.1 h33
    refine b_law__37_c33  h33 ?_
    exact R_cw (by omega) (T__law__2063 k23 pk23 ih23 x4 M hp)
  rw [if_neg h33]
  by_cases h34 : (xs0 &&& 63) = 34
  · rw [if_pos h34]
    have hp := hp.2.2.2.2.2.2.2.2.2.2.2.2.2.2.2.2.2.2.2.2.2.2.2.2.2.2.2.2.2.2.2.2.2.2.1 h34
    refine b_law__37_c34  h34 ?_
    exact R_cw (by omega) (T__law__2119 k23 pk23 ih23 x4 M hp)
  rw [if_neg h34]
  by_cases h35 : (xs0 &&& 63) = 35
  · rw [if_pos h35]
    have hp := hp.2.2.2.2.2.2.2.2.2.2.2.2.2.2.2.2.2.2.2.2.2.2.2.2.2.2.2.2.2.2.2.2.2.2.2.1 h35
    refine b_law__37_c35  h35 ?_
    exact R_cw (by omega) (T__law__2175 k23 pk23 ih23 x4 M hp)
  rw [if_neg h35]
  by_cases h36 : (xs0 &&& 63) = 36
  · rw [if_pos h36]
    have hp := hp.2.2.2.2.2.2.2.2.2.2.2.2.2.2.2.2.2.2.2.2.2.2.2.2.2.2.2.2.2.2.2.2.2.2.2.2.1 h36
    refine b_law__37_c36  h36 ?_
    exact R_cw (by omega) (T__law__2267 k23 pk23 ih23 x4 M hp)
  rw [if_neg h36]
  by_cases h37 : (xs0 &&& 63) = 37
  · rw [if_pos h37]
    have hp := hp.2.2.2.2.2.2.2.2.2.2.2.2.2.2.2.2.2.2.2.2.2.2.2.2.2.2.2.2.2.2.2.2.2.2.2.2.2.1 h37
    refine b_law__37_c37  h37 ?_
    exact R_cw (by omega) (T__law__2385 k23 pk23 ih23 x4 M hp)
  rw [if_neg h37]
  by_cases h38 : (xs0 &&& 63) = 38
  · rw [if_pos h38]
    have hp := hp.2.2.2.2.2.2.2.2.2.2.2.2.2.2.2.2.2.2.2.2.2.2.2.2.2.2.2.2.2.2.2.2.2.2.2.2.2.2.1 h38
    refine b_law__37_c38  h38 ?_
    exact R_cw (by omega) (T__law__2398 k23 pk23 ih23 x4 M hp)
  rw [if_neg h38]
  by_cases h39 : (xs0 &&& 63) = 39
  · rw [if_pos h39]
    have hp := hp.2.2.2.2.2.2.2.2.2.2.2.2.2.2.2.2.2.2.2.2.2.2.2.2.2.2.2.2.2.2.2.2.2.2.2.2.2.2.2.1 h39
    refine b_law__37_c39  h39 ?_
    exact R_cw (by omega) (T__law__2411 k23 pk23 ih23 x4 M hp)
  rw [if_neg h39]
  by_cases h40 : (xs0 &&& 63) = 40
  · rw [if_pos h40]
    have hp := hp.2.2.2.2.2.2.2.2.2.2.2.2.2.2.2.2.2.2.2.2.2.2.2.2.2.2.2.2.2.2.2.2.2.2.2.2.2.2.2.2.1 h40
    refine b_law__37_c40  h40 ?_
    exact R_cw (by omega) (T__law__2436 k23 pk23 ih23 x4 M hp)
  rw [if_neg h40]
  have hp := hp.2.2.2.2.2.2.2.2.2.2.2.2.2.2.2.2.2.2.2.2.2.2.2.2.2.2.2.2.2.2.2.2.2.2.2.2.2.2.2.2.2 ⟨h0, h1, h2, h3, h4, h5, h6, h7, h8, h9, h10, h11, h12, h13, h14, h15, h16, h17, h18, h19, h20, h21, h22, h23, h24, h25, h26, h27, h28, h29, h30, h31, h32, h33, h34, h35, h36, h37, h38, h39, h40⟩
  refine b_law__37_d  (sw_out (x := (xs0 &&& 63)) (lo := 0) (hi := 40) (by intro z ha hb e; rcases (show z = 0 ∨ z = 1 ∨ z = 2 ∨ z = 3 ∨ z = 4 ∨ z = 5 ∨ z = 6 ∨ z = 7 ∨ z = 8 ∨ z = 9 ∨ z = 10 ∨ z = 11 ∨ z = 12 ∨ z = 13 ∨ z = 14 ∨ z = 15 ∨ z = 16 ∨ z = 17 ∨ z = 18 ∨ z = 19 ∨ z = 20 ∨ z = 21 ∨ z = 22 ∨ z = 23 ∨ z = 24 ∨ z = 25 ∨ z = 26 ∨ z = 27 ∨ z = 28 ∨ z = 29 ∨ z = 30 ∨ z = 31 ∨ z = 32 ∨ z = 33 ∨ z = 34 ∨ z = 35 ∨ z = 36 ∨ z = 37 ∨ z = 38 ∨ z = 39 ∨ z = 40 by omega) with r | r | r | r | r | r | r | r | r | r | r | r | r | r | r | r | r | r | r | r | r | r | r | r | r | r | r | r | r | r | r | r | r | r | r | r | r | r | r | r | r <;> subst r <;> first | exact h0 (Int32.toInt_inj.mp (e.trans (by decide))) | exact h1 (Int32.toInt_inj.mp (e.trans (by decide))) | exact h2 (Int32.toInt_inj.mp (e.trans (by decide))) | exact h3 (Int32.toInt_inj.mp (e.trans (by decide))) | exact h4 (Int32.toInt_inj.mp (e.trans (by decide))) | exact h5 (Int32.toInt_inj.mp (e.trans (by decide))) | exact h6 (Int32.toInt_inj.mp (e.trans (by decide))) | exact h7 (Int32.toInt_inj.mp (e.trans (by decide))) | exact h8 (Int32.toInt_inj.mp (e.trans (by decide))) | exact h9 (Int32.toInt_inj.mp (e.trans (by decide))) | exact h10 (Int32.toInt_inj.mp (e.trans (by decide))) | exact h11 (Int32.toInt_inj.mp (e.trans (by decide))) | exact h12 (Int32.toInt_inj.mp (e.trans (by decide))) | exact h13 (Int32.toInt_inj.mp (e.trans (by decide))) | exact h14 (Int32.toInt_inj.mp (e.trans (by decide))) | exact h15 (Int32.toInt_inj.mp (e.trans (by decide))) | exact h16 (Int32.toInt_inj.mp (e.trans (by decide))) | exact h17 (Int32.toInt_inj.mp (e.trans (by decide))) | exact h18 (Int32.toInt_inj.mp (e.trans (by decide))) | exact h19 (Int32.toInt_inj.mp (e.trans (by decide))) | exact h20 (Int32.toInt_inj.mp (e.trans (by decide))) | exact h21 (Int32.toInt_inj.mp (e.trans (by decide))) | exact h22 (Int32.toInt_inj.mp (e.trans (by decide))) | exact h23 (Int32.toInt_inj.mp (e.trans (by decide))) | exact h24 (Int32.toInt_inj.mp (e.trans (by decide))) | exact h25 (Int32.toInt_inj.mp (e.trans (by decide))) | exact h26 (Int32.toInt_inj.mp (e.trans (by decide))) | exact h27 (Int32.toInt_inj.mp (e.trans (by decide))) | exact h28 (Int32.toInt_inj.mp (e.trans (by decide))) | exact h29 (Int32.toInt_inj.mp (e.trans (by decide))) | exact h30 (Int32.toInt_inj.mp (e.trans (by decide))) | exact h31 (Int32.toInt_inj.mp (e.trans (by decide))) | exact h32 (Int32.toInt_inj.mp (e.trans (by decide))) | exact h33 (Int32.toInt_inj.mp (e.trans (by decide))) | exact h34 (Int32.toInt_inj.mp (e.trans (by decide))) | exact h35 (Int32.toInt_inj.mp (e.trans (by decide))) | exact h36 (Int32.toInt_inj.mp (e.trans (by decide))) | exact h37 (Int32.toInt_inj.mp (e.trans (by decide))) | exact h38 (Int32.toInt_inj.mp (e.trans (by decide))) | exact h39 (Int32.toInt_inj.mp (e.trans (by decide))) | exact h40 (Int32.toInt_inj.mp (e.trans (by decide))))) ?_
  exact R_cw (by omega) (T__law__2461 k23 pk23 ih23 x4 M hp)
def F__law__33 (g : Gl) (k23 : Int32 → Mem → Oc) (x4 : Int32) (M : Mem) : Oc := F__law__37 g k23 x4 (scX g x4.toNatClampNeg) M
def P__law__33 (g : Gl) (pk23 : Int32 → Mem → Prop) (x4 : Int32) (M : Mem) : Prop := (vp_in x4 (g.2.2.2 5000001)) ∧ (P__law__37 g pk23 x4 (scX g x4.toNatClampNeg) M)
theorem T__law__33 {g : Gl} {cx : Nat} (k23 : Int32 → Mem → Oc) (pk23 : Int32 → Mem → Prop) (ih23 : ∀ (x4 : Int32) (M : Mem), pk23 x4 M → Rc g 68 cx mL_law_ 23 [some (.ref 5000000), some (.ref 1558), some (.ref 0), some (.ref 1557), some (.int x4), none, none, none] [] M ((k23 x4 M))) (x4 : Int32) (M : Mem) (hp : P__law__33 g pk23 x4 M) : Rc g 68 (cx + 8) mL_law_ 33 [some (.ref 5000000), some (.ref 1558), some (.ref 0), some (.ref 1557), some (.int x4), none, none, none] [] M ((F__law__33 g k23 x4 M)) := by
  rw [F__law__33]
  rw [P__law__33] at hp
  obtain ⟨p0, hp⟩ := hp
  refine b_law__33 p0 ?_
  exact R_cw (by omega) (T__law__37 k23 pk23 ih23 x4 (scX g x4.toNatClampNeg) M hp)
def F__law__23 (g : Gl)  : Nat → Int32 → Mem → Oc
  | 0, _, M => .inl (none, M)
  | n + 1, x4, M => if ((Int32.ofNat (g.2.2.2 5000001)) - 7) < x4 then (.inl (some (.int 1), M)) else (F__law__33 g (F__law__23 g n) x4 M)
def P__law__23 (g : Gl)  : Nat → Int32 → Mem → Prop
  | 0, _, _ => False
  | n + 1, x4, M => (((((Int32.ofNat (g.2.2.2 5000001)) - 7) < x4 → True) ∧ (¬ ((Int32.ofNat (g.2.2.2 5000001)) - 7) < x4 → P__law__33 g (P__law__23 g n) x4 M)))
theorem T__law__23 {g : Gl} : ∀ (n : Nat) (x4 : Int32) (M : Mem) (hp : P__law__23 g n x4 M), Rc g 68 (8 * n) mL_law_ 23 [some (.ref 5000000), some (.ref 1558), some (.ref 0), some (.ref 1557), some (.int x4), none, none, none] [] M ((F__law__23 g n x4 M)) := by
  intro n
  induction n with
  | zero => intro x4 M hp; exact hp.elim
  | succ n ih =>
    intro x4 M hp
    rw [F__law__23]
    rw [P__law__23] at hp
    refine b_law__23  ?_
    refine b_law__27  (fun h => ?_) (fun h => ?_)
    · rw [if_pos h]
      exact b_law__2467  rfl
    · rw [if_neg h]
      have hp := hp.2 h
      exact R_cw (by omega) (T__law__33 (F__law__23 g n) (P__law__23 g n) ih x4 M hp)
