/-! MATHEMATICS 85: the law (printed by gen/q10.py) -/
theorem l_call {g : Gl} {k23 : Int32 → Mem → Oc} {pk23 : Int32 → Mem → Prop} {Q : Oc → Prop} {d : ID} {M : Mem} {x4 : Int32} (hr : RI d M) (hc : CI d M) (hv : ∀ k, 1 ≤ k → k ≤ 6 → vp_in (x4 + nI k) (g.2.2.2 5000001)) (st : ∀ d M, RI d M → CI d M → pk23 (x4 + 7) M ∧ Q (k23 (x4 + 7) M)) (xs0 : Int32) : P__law__37 g pk23 x4 xs0 M ∧ Q (F__law__37 g k23 x4 xs0 M) := by
  rw [P__law__37, F__law__37]
  refine ⟨⟨fun _ => (l_feed (Q := Q) (k23 := k23) hr hc hv st).1, fun _ => (l_museum (Q := Q) (k23 := k23) hr hc hv st).1, fun _ => (l_law (Q := Q) (k23 := k23) hr hc hv st).1, fun _ => (l_work (Q := Q) (k23 := k23) hr hc hv st).1, fun _ => (l_walk (Q := Q) (k23 := k23) hr hc hv st).1, fun _ => (l_fault (Q := Q) (k23 := k23) hr hc hv st).1, fun _ => (l_undo (Q := Q) (k23 := k23) hr hc hv st).1, fun _ => (l_told (Q := Q) (k23 := k23) hr hc hv st).1, fun _ => (l_room (Q := Q) (k23 := k23) hr hc hv st).1, fun _ => (l_door (Q := Q) (k23 := k23) hr hc hv st).1, fun _ => (l_tour (Q := Q) (k23 := k23) hr hc hv st).1, fun _ => (l_open (Q := Q) (k23 := k23) hr hc hv st).1, fun _ => (l_fits (Q := Q) (k23 := k23) hr hc hv st).1, fun _ => (l_knows (Q := Q) (k23 := k23) hr hc hv st).1, fun _ => (l_slips (Q := Q) (k23 := k23) hr hc hv st).1, fun _ => (l_ends (Q := Q) (k23 := k23) hr hc hv st).1, fun _ => (l_soon (Q := Q) (k23 := k23) hr hc hv st).1, fun _ => (l_within (Q := Q) (k23 := k23) hr hc hv st).1, fun _ => (l_out (Q := Q) (k23 := k23) hr hc hv st).1, fun _ => (l_string (Q := Q) (k23 := k23) hr hc hv st).1, fun _ => (l_longest (Q := Q) (k23 := k23) hr hc hv st).1, fun _ => (l_lost (Q := Q) (k23 := k23) hr hc hv st).1, fun _ => (l_cuts (Q := Q) (k23 := k23) hr hc hv st).1, fun _ => (l_wing (Q := Q) (k23 := k23) hr hc hv st).1, fun _ => (l_round (Q := Q) (k23 := k23) hr hc hv st).1, fun _ => (l_last (Q := Q) (k23 := k23) hr hc hv st).1, fun _ => (l_meet (Q := Q) (k23 := k23) hr hc hv st).1, fun _ => (l_parted (Q := Q) (k23 := k23) hr hc hv st).1, fun _ => (l_quiet (Q := Q) (k23 := k23) hr hc hv st).1, fun _ => (l_way (Q := Q) (k23 := k23) hr hc hv st).1, fun _ => (l_next (Q := Q) (k23 := k23) hr hc hv st).1, fun _ => (l_loop (Q := Q) (k23 := k23) hr hc hv st).1, fun _ => (l_closed (Q := Q) (k23 := k23) hr hc hv st).1, fun _ => (l_crowded (Q := Q) (k23 := k23) hr hc hv st).1, fun _ => (l_worn (Q := Q) (k23 := k23) hr hc hv st).1, fun _ => (l_sleepwalk (Q := Q) (k23 := k23) hr hc hv st).1, fun _ => (l_span (Q := Q) (k23 := k23) hr hc hv st).1, fun _ => (l_image (Q := Q) (k23 := k23) hr hc hv st).1, fun _ => (l_restore (Q := Q) (k23 := k23) hr hc hv st).1, fun _ => (l_status (Q := Q) (k23 := k23) hr hc hv st).1, fun _ => (l_count (Q := Q) (k23 := k23) hr hc hv st).1, fun _ => (st d M hr hc).1⟩, ?_⟩
  by_cases c0 : xs0 &&& 63 = 0
  · rw [if_pos c0]; exact (l_feed (pk23 := pk23) hr hc hv st).2
  rw [if_neg c0]
  by_cases c1 : xs0 &&& 63 = 1
  · rw [if_pos c1]; exact (l_museum (pk23 := pk23) hr hc hv st).2
  rw [if_neg c1]
  by_cases c2 : xs0 &&& 63 = 2
  · rw [if_pos c2]; exact (l_law (pk23 := pk23) hr hc hv st).2
  rw [if_neg c2]
  by_cases c3 : xs0 &&& 63 = 3
  · rw [if_pos c3]; exact (l_work (pk23 := pk23) hr hc hv st).2
  rw [if_neg c3]
  by_cases c4 : xs0 &&& 63 = 4
  · rw [if_pos c4]; exact (l_walk (pk23 := pk23) hr hc hv st).2
  rw [if_neg c4]
  by_cases c5 : xs0 &&& 63 = 5
  · rw [if_pos c5]; exact (l_fault (pk23 := pk23) hr hc hv st).2
  rw [if_neg c5]
  by_cases c6 : xs0 &&& 63 = 6
  · rw [if_pos c6]; exact (l_undo (pk23 := pk23) hr hc hv st).2
  rw [if_neg c6]
  by_cases c7 : xs0 &&& 63 = 7
  · rw [if_pos c7]; exact (l_told (pk23 := pk23) hr hc hv st).2
  rw [if_neg c7]
  by_cases c8 : xs0 &&& 63 = 8
  · rw [if_pos c8]; exact (l_room (pk23 := pk23) hr hc hv st).2
  rw [if_neg c8]
  by_cases c9 : xs0 &&& 63 = 9
  · rw [if_pos c9]; exact (l_door (pk23 := pk23) hr hc hv st).2
  rw [if_neg c9]
  by_cases c10 : xs0 &&& 63 = 10
  · rw [if_pos c10]; exact (l_tour (pk23 := pk23) hr hc hv st).2
  rw [if_neg c10]
  by_cases c11 : xs0 &&& 63 = 11
  · rw [if_pos c11]; exact (l_open (pk23 := pk23) hr hc hv st).2
  rw [if_neg c11]
  by_cases c12 : xs0 &&& 63 = 12
  · rw [if_pos c12]; exact (l_fits (pk23 := pk23) hr hc hv st).2
  rw [if_neg c12]
  by_cases c13 : xs0 &&& 63 = 13
  · rw [if_pos c13]; exact (l_knows (pk23 := pk23) hr hc hv st).2
  rw [if_neg c13]
  by_cases c14 : xs0 &&& 63 = 14
  · rw [if_pos c14]; exact (l_slips (pk23 := pk23) hr hc hv st).2
  rw [if_neg c14]
  by_cases c15 : xs0 &&& 63 = 15
  · rw [if_pos c15]; exact (l_ends (pk23 := pk23) hr hc hv st).2
  rw [if_neg c15]
  by_cases c16 : xs0 &&& 63 = 16
  · rw [if_pos c16]; exact (l_soon (pk23 := pk23) hr hc hv st).2
  rw [if_neg c16]
  by_cases c17 : xs0 &&& 63 = 17
  · rw [if_pos c17]; exact (l_within (pk23 := pk23) hr hc hv st).2
  rw [if_neg c17]
  by_cases c18 : xs0 &&& 63 = 18
  · rw [if_pos c18]; exact (l_out (pk23 := pk23) hr hc hv st).2
  rw [if_neg c18]
  by_cases c19 : xs0 &&& 63 = 19
  · rw [if_pos c19]; exact (l_string (pk23 := pk23) hr hc hv st).2
  rw [if_neg c19]
  by_cases c20 : xs0 &&& 63 = 20
  · rw [if_pos c20]; exact (l_longest (pk23 := pk23) hr hc hv st).2
  rw [if_neg c20]
  by_cases c21 : xs0 &&& 63 = 21
  · rw [if_pos c21]; exact (l_lost (pk23 := pk23) hr hc hv st).2
  rw [if_neg c21]
  by_cases c22 : xs0 &&& 63 = 22
  · rw [if_pos c22]; exact (l_cuts (pk23 := pk23) hr hc hv st).2
  rw [if_neg c22]
  by_cases c23 : xs0 &&& 63 = 23
  · rw [if_pos c23]; exact (l_wing (pk23 := pk23) hr hc hv st).2
  rw [if_neg c23]
  by_cases c24 : xs0 &&& 63 = 24
  · rw [if_pos c24]; exact (l_round (pk23 := pk23) hr hc hv st).2
  rw [if_neg c24]
  by_cases c25 : xs0 &&& 63 = 25
  · rw [if_pos c25]; exact (l_last (pk23 := pk23) hr hc hv st).2
  rw [if_neg c25]
  by_cases c26 : xs0 &&& 63 = 26
  · rw [if_pos c26]; exact (l_meet (pk23 := pk23) hr hc hv st).2
  rw [if_neg c26]
  by_cases c27 : xs0 &&& 63 = 27
  · rw [if_pos c27]; exact (l_parted (pk23 := pk23) hr hc hv st).2
  rw [if_neg c27]
  by_cases c28 : xs0 &&& 63 = 28
  · rw [if_pos c28]; exact (l_quiet (pk23 := pk23) hr hc hv st).2
  rw [if_neg c28]
  by_cases c29 : xs0 &&& 63 = 29
  · rw [if_pos c29]; exact (l_way (pk23 := pk23) hr hc hv st).2
  rw [if_neg c29]
  by_cases c30 : xs0 &&& 63 = 30
  · rw [if_pos c30]; exact (l_next (pk23 := pk23) hr hc hv st).2
  rw [if_neg c30]
  by_cases c31 : xs0 &&& 63 = 31
  · rw [if_pos c31]; exact (l_loop (pk23 := pk23) hr hc hv st).2
  rw [if_neg c31]
  by_cases c32 : xs0 &&& 63 = 32
  · rw [if_pos c32]; exact (l_closed (pk23 := pk23) hr hc hv st).2
  rw [if_neg c32]
  by_cases c33 : xs0 &&& 63 = 33
  · rw [if_pos c33]; exact (l_crowded (pk23 := pk23) hr hc hv st).2
  rw [if_neg c33]
  by_cases c34 : xs0 &&& 63 = 34
  · rw [if_pos c34]; exact (l_worn (pk23 := pk23) hr hc hv st).2
  rw [if_neg c34]
  by_cases c35 : xs0 &&& 63 = 35
  · rw [if_pos c35]; exact (l_sleepwalk (pk23 := pk23) hr hc hv st).2
  rw [if_neg c35]
  by_cases c36 : xs0 &&& 63 = 36
  · rw [if_pos c36]; exact (l_span (pk23 := pk23) hr hc hv st).2
  rw [if_neg c36]
  by_cases c37 : xs0 &&& 63 = 37
  · rw [if_pos c37]; exact (l_image (pk23 := pk23) hr hc hv st).2
  rw [if_neg c37]
  by_cases c38 : xs0 &&& 63 = 38
  · rw [if_pos c38]; exact (l_restore (pk23 := pk23) hr hc hv st).2
  rw [if_neg c38]
  by_cases c39 : xs0 &&& 63 = 39
  · rw [if_pos c39]; exact (l_status (pk23 := pk23) hr hc hv st).2
  rw [if_neg c39]
  by_cases c40 : xs0 &&& 63 = 40
  · rw [if_pos c40]; exact (l_count (pk23 := pk23) hr hc hv st).2
  rw [if_neg c40]
  exact (st d M hr hc).2
theorem l_run {g : Gl} (hN : g.2.2.2 5000001 ≤ 3584) : ∀ (n p : Nat) (d : ID) (M : Mem), RI d M → CI d M → p ≤ 3600 → 3600 ≤ p + 7 * n → P__law__23 g (n + 1) (nI p) M ∧ ∃ M', F__law__23 g (n + 1) (nI p) M = .inl (some (.int 1), M') := by
  have eN : (Int32.ofNat (g.2.2.2 5000001)) = nI (g.2.2.2 5000001) := rfl
  generalize hNN : g.2.2.2 5000001 = N at *
  have cmp : ∀ p, p ≤ 3600 → ((nI N - 7 < nI p) ↔ N < p + 7) := by
    intro p hp
    by_cases c : 7 ≤ N
    · rw [show (7 : Int32) = nI 7 from rfl, pk_sub c, nI_ltI (by omega) (by omega)]
      omega
    · have e : ∀ k, k < 7 → nI k - 7 < 0 := by decide
      constructor
      · intro _; omega
      · intro _
        exact Int32.lt_of_lt_of_le (e N (by omega)) ((nI_leI (a := 0) (by omega) (by omega)).mpr (Nat.zero_le p))
  intro n
  induction n with
  | zero =>
    intro p d M hr hc hp hn
    have c := (cmp p hp).mpr (by omega)
    rw [P__law__23, F__law__23, hNN, eN, if_pos c]
    exact ⟨⟨fun _ => trivial, fun y => absurd c y⟩, M, rfl⟩
  | succ n ih =>
    intro p d M hr hc hp hn
    rw [P__law__23, F__law__23, hNN, eN]
    by_cases c : N < p + 7
    · have c1 := (cmp p hp).mpr c
      rw [if_pos c1]
      exact ⟨⟨fun _ => trivial, fun y => absurd c1 y⟩, M, rfl⟩
    · have c1 : ¬ nI N - 7 < nI p := fun y => c ((cmp p hp).mp y)
      have hv : ∀ k, 1 ≤ k → k ≤ 6 → vp_in (nI p + nI k) (g.2.2.2 5000001) := fun k h1 h2 => by
        rw [hNN, nI_add]; exact (vp_iff (by omega)).mpr (by omega)
      have v0 : vp_in (nI p) (g.2.2.2 5000001) := by rw [hNN]; exact (vp_iff (by omega)).mpr (by omega)
      have e7 : nI p + 7 = nI (p + 7) := l_adr 7 p
      have key := l_call (g := g) (k23 := F__law__23 g (n + 1)) (pk23 := P__law__23 g (n + 1)) (Q := fun o => ∃ M', o = .inl (some (.int 1), M')) hr hc hv (fun d M h1 h2 => by rw [e7]; exact ih (p + 7) d M h1 h2 (by omega) (by omega)) (scX g (nI p).toNatClampNeg)
      rw [if_neg c1, P__law__33, F__law__33]
      exact ⟨⟨fun y => absurd y c1, fun _ => ⟨v0, key.1⟩⟩, key.2⟩
