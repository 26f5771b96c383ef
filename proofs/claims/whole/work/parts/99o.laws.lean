/-! MATHEMATICS 84: the law, a call at a time (printed by gen/q9.py) -/
def xOut (c _j : Nat) : Prop := 1557 ≤ c
theorem RI.x {d : ID} {M M' : Mem} (h : RI d M) (hk : Kp xOut M M') : RI d M' := by
  obtain ⟨h1, h2, h3, h4, h5, h6, h7, h8, h9⟩ := h
  refine ⟨h1.k hk (fun c j z => ?_), h2.k hk (fun c j z => ?_), h3.k hk (fun c j z => ?_), h4.k hk (fun c j z => ?_), h5.k hk (fun c j z => ?_), ?_, ?_, ?_, ?_⟩
  · unfold xOut at z; omega
  · unfold xOut at z; omega
  · unfold xOut at z; omega
  · unfold xOut at z; omega
  · unfold xOut at z; omega
  · rw [hk.g (by unfold xOut; omega)]; exact h6
  · rw [hk.g (by unfold xOut; omega)]; exact h7
  · rw [hk.g (by unfold xOut; omega)]; exact h8
  · rw [hk.g (by unfold xOut; omega)]; exact h9
def yOut (c _j : Nat) : Prop := c ≤ 1557
theorem CI.x {d : ID} {M M' : Mem} (h : CI d M) (hk : Kp yOut M M') : CI d M' := by
  obtain ⟨h1, h2, h3, h4, h5, h6, h7, h8, h9⟩ := h
  refine ⟨h1.k hk (fun c j z => ?_), h2.k hk (fun c j z => ?_), h3.k hk (fun c j z => ?_), h4.k hk (fun c j z => ?_), h5.k hk (fun c j z => ?_), ?_, ?_, ?_, ?_⟩
  · unfold yOut at z; omega
  · unfold yOut at z; omega
  · unfold yOut at z; omega
  · unfold yOut at z; omega
  · unfold yOut at z; omega
  · rw [hk.g (by unfold yOut; omega)]; exact h6
  · rw [hk.g (by unfold yOut; omega)]; exact h7
  · rw [hk.g (by unfold yOut; omega)]; exact h8
  · rw [hk.g (by unfold yOut; omega)]; exact h9
theorem cmp0 (v : Int64) : lg_cmp v v = 0 := by
  unfold lg_cmp
  simp
theorem QC.use {a b : Int32} {n e : Bool} {F : Mem → Int32 × Mem} {P : Mem → Prop} {G : Mem → Oc} {PG : Mem → Prop} {d : ID} {M : Mem} (hn : ¬ a = 0 → n = true) (he : ¬ b = 0 → e = true) (h : ∀ Mr Mc, RI d Mr → CI d Mc → P Mr ∧ PG Mc ∧ QC a b Mr Mc (F Mr) (G Mc)) (hr : RI d M) (hc : CI d M) : PG M ∧ okI n e (G M) ∧ P (wOutI a b (G M)).2 ∧ rd (F (wOutI a b (G M)).2).2 0 0 = (wOutI a b (G M)).1 ∧ ((wOutI a b (G M)).1 = 0 → rl (F (wOutI a b (G M)).2).2 1557 0 = (F (wOutI a b (G M)).2).1.toInt64) ∧ ∃ d', RI d' (F (wOutI a b (G M)).2).2 ∧ CI d' (F (wOutI a b (G M)).2).2 := by
  obtain ⟨_, p2, d1, M1, q1, q2, q3, q4, q5⟩ := h M M hr hc
  have K1 : Kp xOut M M1 := q4.mono (fun c j z => by unfold cAll at z; unfold xOut; omega)
  have nE : ¬ ("java/lang/IllegalArgumentException" : String) = "java/util/NoSuchElementException" := by decide
  have fin : ∀ (x5 : Int32) (M2 : Mem), wOutI a b (G M) = (x5, M2) → okI n e (G M) → Kp (fun c _ => c = 1557) M1 M2 → (∀ Mr' v, OcI a b (rd Mr' 0 0) v (G M) M1 → rd Mr' 0 0 = x5 ∧ (x5 = 0 → rl M2 1557 0 = v.toInt64)) → (∀ c v M3, OcI a b c v (G M) M3 → M3 = M1) → PG M ∧ okI n e (G M) ∧ P (wOutI a b (G M)).2 ∧ rd (F (wOutI a b (G M)).2).2 0 0 = (wOutI a b (G M)).1 ∧ ((wOutI a b (G M)).1 = 0 → rl (F (wOutI a b (G M)).2).2 1557 0 = (F (wOutI a b (G M)).2).1.toInt64) ∧ ∃ d', RI d' (F (wOutI a b (G M)).2).2 ∧ CI d' (F (wOutI a b (G M)).2).2 := by
    intro x5 M2 hW hok K2 hv hi
    rw [hW]
    have R2 : RI d M2 := (hr.x K1).x (K2.mono (fun c j z => by unfold xOut; omega))
    obtain ⟨s1, _, d2, M3, t1, t2, t3, t4, t5⟩ := h M2 M R2 hc
    have e3 := hi _ _ _ t5
    subst e3
    obtain ⟨u1, u2⟩ := hv _ _ t5
    refine ⟨p2, hok, s1, u1, fun z => ?_, d2, t1, ?_⟩
    · rw [(t2 1557 0 (by unfold rAll; omega)).2]; exact u2 z
    · exact t3.x ((K2.mono (fun c j z => by unfold yOut; omega)).tr (t2.mono (fun c j z => by unfold rAll at z; unfold yOut; omega)))
  rcases q5 with ⟨z1, z2⟩ | ⟨z1, z2, z3⟩ | ⟨z1, z2, z3⟩
  · refine fin 0 (wl M1 1557 0 (F M).1.toInt64) (by rw [z2]; rfl) (by rw [z2]; exact Or.inl ⟨_, _, rfl⟩) (Kp.rf.wl rfl) (fun Mr' v w => ?_) (fun c v M3 w => ?_)
    · rw [z2] at w
      rcases w with ⟨w1, w2⟩ | ⟨_, _, w2⟩ | ⟨_, _, w2⟩
      · cases w2
        exact ⟨w1, fun _ => by rw [rl_wl, if_pos ⟨rfl, rfl⟩]⟩
      · cases w2
      · cases w2
    · rw [z2] at w
      rcases w with ⟨_, w2⟩ | ⟨_, _, w2⟩ | ⟨_, _, w2⟩
      · cases w2; rfl
      · cases w2
      · cases w2
  · refine fin a M1 (by rw [z3]; show (if _ then _ else _, M1) = _; rw [if_pos rfl]) (by rw [z3]; exact Or.inr (Or.inl ⟨hn z2, _, rfl⟩)) Kp.rf (fun Mr' v w => ?_) (fun c v M3 w => ?_)
    · rw [z3] at w
      rcases w with ⟨_, w2⟩ | ⟨w1, _, w2⟩ | ⟨_, _, w2⟩
      · cases w2
      · exact ⟨w1, fun y => absurd y z2⟩
      · exact absurd (Prod.mk.inj (Sum.inr.inj w2)).1 (by decide)
    · rw [z3] at w
      rcases w with ⟨_, w2⟩ | ⟨_, _, w2⟩ | ⟨_, _, w2⟩
      · cases w2
      · cases w2; rfl
      · exact absurd (Prod.mk.inj (Sum.inr.inj w2)).1 (by decide)
  · refine fin b M1 (by rw [z3]; show (if _ then _ else _, M1) = _; rw [if_neg nE]) (by rw [z3]; exact Or.inr (Or.inr ⟨he z2, _, rfl⟩)) Kp.rf (fun Mr' v w => ?_) (fun c v M3 w => ?_)
    · rw [z3] at w
      rcases w with ⟨_, w2⟩ | ⟨_, _, w2⟩ | ⟨w1, _, w2⟩
      · cases w2
      · exact absurd (Prod.mk.inj (Sum.inr.inj w2)).1 (by decide)
      · exact ⟨w1, fun y => absurd y z2⟩
    · rw [z3] at w
      rcases w with ⟨_, w2⟩ | ⟨_, _, w2⟩ | ⟨_, _, w2⟩
      · cases w2
      · exact absurd (Prod.mk.inj (Sum.inr.inj w2)).1 (by decide)
      · cases w2; rfl
theorem QC.useZ {a b : Int32} {n e : Bool} {F : Mem → Int32 × Mem} {P : Mem → Prop} {G : Mem → Oc} {PG : Mem → Prop} {d : ID} {M : Mem} (hn : ¬ a = 0 → n = true) (he : ¬ b = 0 → e = true) (h : ∀ Mr Mc, RI d Mr → CI d Mc → P Mr ∧ PG Mc ∧ QC a b Mr Mc (F Mr) (G Mc)) (hr : RI d M) (hc : CI d M) : PG M ∧ okI n e (G M) ∧ P (wOutZ a b (G M)).2 ∧ rd (F (wOutZ a b (G M)).2).2 0 0 = (wOutZ a b (G M)).1 ∧ ((wOutZ a b (G M)).1 = 0 → rl (F (wOutZ a b (G M)).2).2 1557 0 = (if (F (wOutZ a b (G M)).2).1 = 0 then 0 else 1)) ∧ ∃ d', RI d' (F (wOutZ a b (G M)).2).2 ∧ CI d' (F (wOutZ a b (G M)).2).2 := by
  obtain ⟨_, p2, d1, M1, q1, q2, q3, q4, q5⟩ := h M M hr hc
  have K1 : Kp xOut M M1 := q4.mono (fun c j z => by unfold cAll at z; unfold xOut; omega)
  have nE : ¬ ("java/lang/IllegalArgumentException" : String) = "java/util/NoSuchElementException" := by decide
  have fin : ∀ (x5 : Int32) (M2 : Mem), wOutZ a b (G M) = (x5, M2) → okI n e (G M) → Kp (fun c _ => c = 1557) M1 M2 → (∀ Mr' v, OcI a b (rd Mr' 0 0) v (G M) M1 → rd Mr' 0 0 = x5 ∧ (x5 = 0 → rl M2 1557 0 = (if v = 0 then 0 else 1))) → (∀ c v M3, OcI a b c v (G M) M3 → M3 = M1) → PG M ∧ okI n e (G M) ∧ P (wOutZ a b (G M)).2 ∧ rd (F (wOutZ a b (G M)).2).2 0 0 = (wOutZ a b (G M)).1 ∧ ((wOutZ a b (G M)).1 = 0 → rl (F (wOutZ a b (G M)).2).2 1557 0 = (if (F (wOutZ a b (G M)).2).1 = 0 then 0 else 1)) ∧ ∃ d', RI d' (F (wOutZ a b (G M)).2).2 ∧ CI d' (F (wOutZ a b (G M)).2).2 := by
    intro x5 M2 hW hok K2 hv hi
    rw [hW]
    have R2 : RI d M2 := (hr.x K1).x (K2.mono (fun c j z => by unfold xOut; omega))
    obtain ⟨s1, _, d2, M3, t1, t2, t3, t4, t5⟩ := h M2 M R2 hc
    have e3 := hi _ _ _ t5
    subst e3
    obtain ⟨u1, u2⟩ := hv _ _ t5
    refine ⟨p2, hok, s1, u1, fun z => ?_, d2, t1, ?_⟩
    · rw [(t2 1557 0 (by unfold rAll; omega)).2]; exact u2 z
    · exact t3.x ((K2.mono (fun c j z => by unfold yOut; omega)).tr (t2.mono (fun c j z => by unfold rAll at z; unfold yOut; omega)))
  rcases q5 with ⟨z1, z2⟩ | ⟨z1, z2, z3⟩ | ⟨z1, z2, z3⟩
  · refine fin 0 (wl M1 1557 0 (if (F M).1 = 0 then 0 else 1)) (by rw [z2]; rfl) (by rw [z2]; exact Or.inl ⟨_, _, rfl⟩) (Kp.rf.wl rfl) (fun Mr' v w => ?_) (fun c v M3 w => ?_)
    · rw [z2] at w
      rcases w with ⟨w1, w2⟩ | ⟨_, _, w2⟩ | ⟨_, _, w2⟩
      · cases w2
        exact ⟨w1, fun _ => by rw [rl_wl, if_pos ⟨rfl, rfl⟩]⟩
      · cases w2
      · cases w2
    · rw [z2] at w
      rcases w with ⟨_, w2⟩ | ⟨_, _, w2⟩ | ⟨_, _, w2⟩
      · cases w2; rfl
      · cases w2
      · cases w2
  · refine fin a M1 (by rw [z3]; show (if _ then _ else _, M1) = _; rw [if_pos rfl]) (by rw [z3]; exact Or.inr (Or.inl ⟨hn z2, _, rfl⟩)) Kp.rf (fun Mr' v w => ?_) (fun c v M3 w => ?_)
    · rw [z3] at w
      rcases w with ⟨_, w2⟩ | ⟨w1, _, w2⟩ | ⟨_, _, w2⟩
      · cases w2
      · exact ⟨w1, fun y => absurd y z2⟩
      · exact absurd (Prod.mk.inj (Sum.inr.inj w2)).1 (by decide)
    · rw [z3] at w
      rcases w with ⟨_, w2⟩ | ⟨_, _, w2⟩ | ⟨_, _, w2⟩
      · cases w2
      · cases w2; rfl
      · exact absurd (Prod.mk.inj (Sum.inr.inj w2)).1 (by decide)
  · refine fin b M1 (by rw [z3]; show (if _ then _ else _, M1) = _; rw [if_neg nE]) (by rw [z3]; exact Or.inr (Or.inr ⟨he z2, _, rfl⟩)) Kp.rf (fun Mr' v w => ?_) (fun c v M3 w => ?_)
    · rw [z3] at w
      rcases w with ⟨_, w2⟩ | ⟨_, _, w2⟩ | ⟨w1, _, w2⟩
      · cases w2
      · exact absurd (Prod.mk.inj (Sum.inr.inj w2)).1 (by decide)
      · exact ⟨w1, fun y => absurd y z2⟩
    · rw [z3] at w
      rcases w with ⟨_, w2⟩ | ⟨_, _, w2⟩ | ⟨_, _, w2⟩
      · cases w2
      · exact absurd (Prod.mk.inj (Sum.inr.inj w2)).1 (by decide)
      · cases w2; rfl
theorem QL.use {a b : Int32} {n e : Bool} {F : Mem → Int64 × Mem} {P : Mem → Prop} {G : Mem → Oc} {PG : Mem → Prop} {d : ID} {M : Mem} (hn : ¬ a = 0 → n = true) (he : ¬ b = 0 → e = true) (h : ∀ Mr Mc, RI d Mr → CI d Mc → P Mr ∧ PG Mc ∧ QL a b Mr Mc (F Mr) (G Mc)) (hr : RI d M) (hc : CI d M) : PG M ∧ okL n e (G M) ∧ P (wOutL a b (G M)).2 ∧ rd (F (wOutL a b (G M)).2).2 0 0 = (wOutL a b (G M)).1 ∧ ((wOutL a b (G M)).1 = 0 → rl (F (wOutL a b (G M)).2).2 1557 0 = (F (wOutL a b (G M)).2).1) ∧ ∃ d', RI d' (F (wOutL a b (G M)).2).2 ∧ CI d' (F (wOutL a b (G M)).2).2 := by
  obtain ⟨_, p2, d1, M1, q1, q2, q3, q4, q5⟩ := h M M hr hc
  have K1 : Kp xOut M M1 := q4.mono (fun c j z => by unfold cAll at z; unfold xOut; omega)
  have nE : ¬ ("java/lang/IllegalArgumentException" : String) = "java/util/NoSuchElementException" := by decide
  have fin : ∀ (x5 : Int32) (M2 : Mem), wOutL a b (G M) = (x5, M2) → okL n e (G M) → Kp (fun c _ => c = 1557) M1 M2 → (∀ Mr' v, OcL a b (rd Mr' 0 0) v (G M) M1 → rd Mr' 0 0 = x5 ∧ (x5 = 0 → rl M2 1557 0 = v)) → (∀ c v M3, OcL a b c v (G M) M3 → M3 = M1) → PG M ∧ okL n e (G M) ∧ P (wOutL a b (G M)).2 ∧ rd (F (wOutL a b (G M)).2).2 0 0 = (wOutL a b (G M)).1 ∧ ((wOutL a b (G M)).1 = 0 → rl (F (wOutL a b (G M)).2).2 1557 0 = (F (wOutL a b (G M)).2).1) ∧ ∃ d', RI d' (F (wOutL a b (G M)).2).2 ∧ CI d' (F (wOutL a b (G M)).2).2 := by
    intro x5 M2 hW hok K2 hv hi
    rw [hW]
    have R2 : RI d M2 := (hr.x K1).x (K2.mono (fun c j z => by unfold xOut; omega))
    obtain ⟨s1, _, d2, M3, t1, t2, t3, t4, t5⟩ := h M2 M R2 hc
    have e3 := hi _ _ _ t5
    subst e3
    obtain ⟨u1, u2⟩ := hv _ _ t5
    refine ⟨p2, hok, s1, u1, fun z => ?_, d2, t1, ?_⟩
    · rw [(t2 1557 0 (by unfold rAll; omega)).2]; exact u2 z
    · exact t3.x ((K2.mono (fun c j z => by unfold yOut; omega)).tr (t2.mono (fun c j z => by unfold rAll at z; unfold yOut; omega)))
  rcases q5 with ⟨z1, z2⟩ | ⟨z1, z2, z3⟩ | ⟨z1, z2, z3⟩
  · refine fin 0 (wl M1 1557 0 (F M).1) (by rw [z2]; rfl) (by rw [z2]; exact Or.inl ⟨_, _, rfl⟩) (Kp.rf.wl rfl) (fun Mr' v w => ?_) (fun c v M3 w => ?_)
    · rw [z2] at w
      rcases w with ⟨w1, w2⟩ | ⟨_, _, w2⟩ | ⟨_, _, w2⟩
      · cases w2
        exact ⟨w1, fun _ => by rw [rl_wl, if_pos ⟨rfl, rfl⟩]⟩
      · cases w2
      · cases w2
    · rw [z2] at w
      rcases w with ⟨_, w2⟩ | ⟨_, _, w2⟩ | ⟨_, _, w2⟩
      · cases w2; rfl
      · cases w2
      · cases w2
  · refine fin a M1 (by rw [z3]; show (if _ then _ else _, M1) = _; rw [if_pos rfl]) (by rw [z3]; exact Or.inr (Or.inl ⟨hn z2, _, rfl⟩)) Kp.rf (fun Mr' v w => ?_) (fun c v M3 w => ?_)
    · rw [z3] at w
      rcases w with ⟨_, w2⟩ | ⟨w1, _, w2⟩ | ⟨_, _, w2⟩
      · cases w2
      · exact ⟨w1, fun y => absurd y z2⟩
      · exact absurd (Prod.mk.inj (Sum.inr.inj w2)).1 (by decide)
    · rw [z3] at w
      rcases w with ⟨_, w2⟩ | ⟨_, _, w2⟩ | ⟨_, _, w2⟩
      · cases w2
      · cases w2; rfl
      · exact absurd (Prod.mk.inj (Sum.inr.inj w2)).1 (by decide)
  · refine fin b M1 (by rw [z3]; show (if _ then _ else _, M1) = _; rw [if_neg nE]) (by rw [z3]; exact Or.inr (Or.inr ⟨he z2, _, rfl⟩)) Kp.rf (fun Mr' v w => ?_) (fun c v M3 w => ?_)
    · rw [z3] at w
      rcases w with ⟨_, w2⟩ | ⟨_, _, w2⟩ | ⟨w1, _, w2⟩
      · cases w2
      · exact absurd (Prod.mk.inj (Sum.inr.inj w2)).1 (by decide)
      · exact ⟨w1, fun y => absurd y z2⟩
    · rw [z3] at w
      rcases w with ⟨_, w2⟩ | ⟨_, _, w2⟩ | ⟨_, _, w2⟩
      · cases w2
      · exact absurd (Prod.mk.inj (Sum.inr.inj w2)).1 (by decide)
      · cases w2; rfl
theorem QD.use {F G : Mem → Int32 × Mem} {P PG : Mem → Prop} {d : ID} {M : Mem} (h : ∀ Mr Mc, RI d Mr → CI d Mc → P Mr ∧ PG Mc ∧ QD Mr Mc (F Mr) (G Mc)) (hr : RI d M) (hc : CI d M) : PG M ∧ P (G M).2 ∧ (F (G M).2).1 = (G M).1 ∧ ∃ d', RI d' (F (G M).2).2 ∧ CI d' (F (G M).2).2 := by
  obtain ⟨_, p2, d1, q1, q2, q3, q4, q5⟩ := h M M hr hc
  have R2 : RI d (G M).2 := hr.x (q4.mono (fun c j z => by unfold cAll at z; unfold xOut; omega))
  obtain ⟨s1, _, d2, t1, t2, t3, t4, t5⟩ := h (G M).2 M R2 hc
  exact ⟨p2, s1, t5, d2, t1, t3.x (t2.mono (fun c j z => by unfold rAll at z; unfold yOut; omega))⟩
theorem l_feed {g : Gl} {k23 : Int32 → Mem → Oc} {pk23 : Int32 → Mem → Prop} {Q : Oc → Prop} {d : ID} {M : Mem} {x4 : Int32} (hr : RI d M) (hc : CI d M) (hv : ∀ k, 1 ≤ k → k ≤ 6 → vp_in (x4 + nI k) (g.2.2.2 5000001)) (st : ∀ d M, RI d M → CI d M → pk23 (x4 + 7) M ∧ Q (k23 (x4 + 7) M)) : P__law__220 g pk23 x4 M ∧ Q (F__law__220 g k23 x4 M) := by
  have v1 : vp_in (x4 + 1) (g.2.2.2 5000001) := hv 1 (by omega) (by omega)
  have v2 : vp_in (x4 + 2) (g.2.2.2 5000001) := hv 2 (by omega) (by omega)
  have v3 : vp_in (x4 + 3) (g.2.2.2 5000001) := hv 3 (by omega) (by omega)
  have v4 : vp_in (x4 + 4) (g.2.2.2 5000001) := hv 4 (by omega) (by omega)
  have v5 : vp_in (x4 + 5) (g.2.2.2 5000001) := hv 5 (by omega) (by omega)
  obtain ⟨a1, a2, a3, d', a4, a5⟩ := QD.use (F := (F_12_feed_0 (scX g ((x4 + 1).toNatClampNeg)) (scX g ((x4 + 2).toNatClampNeg)) (scX g ((x4 + 3).toNatClampNeg)) (scX g ((x4 + 4).toNatClampNeg)) (scX g ((x4 + 5).toNatClampNeg)))) (G := (F_11_feed_0 (scX g ((x4 + 1).toNatClampNeg)) (scX g ((x4 + 2).toNatClampNeg)) (scX g ((x4 + 3).toNatClampNeg)) (scX g ((x4 + 4).toNatClampNeg)) (scX g ((x4 + 5).toNatClampNeg)))) (P := (P_12_feed_0 (scX g ((x4 + 1).toNatClampNeg)) (scX g ((x4 + 2).toNatClampNeg)) (scX g ((x4 + 3).toNatClampNeg)) (scX g ((x4 + 4).toNatClampNeg)) (scX g ((x4 + 5).toNatClampNeg)))) (PG := (P_11_feed_0 (scX g ((x4 + 1).toNatClampNeg)) (scX g ((x4 + 2).toNatClampNeg)) (scX g ((x4 + 3).toNatClampNeg)) (scX g ((x4 + 4).toNatClampNeg)) (scX g ((x4 + 5).toNatClampNeg)))) (d := d) (M := M) (fun Mr Mc h1 h2 => q_feed (scX g ((x4 + 1).toNatClampNeg)) (scX g ((x4 + 2).toNatClampNeg)) (scX g ((x4 + 3).toNatClampNeg)) (scX g ((x4 + 4).toNatClampNeg)) (scX g ((x4 + 5).toNatClampNeg)) h1 h2) hr hc
  obtain ⟨s1, s2⟩ := st d' _ a4 a5
  rw [P__law__220, F__law__220]
  rw [P__law__254, F__law__254]
  have e := a3.symm
  try dsimp only at a2 e s1 s2 ⊢
  refine ⟨⟨v1, v2, v3, v4, v5, a1, v1, v2, v3, v4, v5, a2, ?_⟩, ?_⟩
  · exact ⟨fun _ => s1, fun y => absurd e y⟩
  · rw [F__law__288, if_pos e]; exact s2
theorem l_museum {g : Gl} {k23 : Int32 → Mem → Oc} {pk23 : Int32 → Mem → Prop} {Q : Oc → Prop} {d : ID} {M : Mem} {x4 : Int32} (hr : RI d M) (hc : CI d M) (hv : ∀ k, 1 ≤ k → k ≤ 6 → vp_in (x4 + nI k) (g.2.2.2 5000001)) (st : ∀ d M, RI d M → CI d M → pk23 (x4 + 7) M ∧ Q (k23 (x4 + 7) M)) : P__law__293 g pk23 x4 M ∧ Q (F__law__293 g k23 x4 M) := by
  have v1 : vp_in (x4 + 1) (g.2.2.2 5000001) := hv 1 (by omega) (by omega)
  obtain ⟨a1, a2, a3, a4, a5, d', a6, a7⟩ := QC.use (a := 0) (b := 1) (n := false) (e := true) (F := F_12_museum_0 (scX g ((x4 + 1).toNatClampNeg))) (P := P_12_museum_0 (scX g ((x4 + 1).toNatClampNeg))) (G := F_11_museum_0 (scX g ((x4 + 1).toNatClampNeg))) (PG := P_11_museum_0 (scX g ((x4 + 1).toNatClampNeg))) (d := d) (M := M) (by decide) (by decide) (fun Mr Mc h1 h2 => q_museum (scX g ((x4 + 1).toNatClampNeg)) h1 h2) hr hc
  rw [P__law__293, F__law__293, show W_museum (scX g ((x4 + 1).toNatClampNeg)) M = wOutI 0 1 (F_11_museum_0 (scX g ((x4 + 1).toNatClampNeg)) M) from rfl]
  have a0 : Q_museum (scX g ((x4 + 1).toNatClampNeg)) M := ⟨a1, a2⟩
  generalize wOutI 0 1 (F_11_museum_0 (scX g ((x4 + 1).toNatClampNeg)) M) = z at *
  obtain ⟨x5, M2⟩ := z
  rw [P__law__304, F__law__304]
  have a3' : P_12_museum_0 (scX g ((x4 + 1).toNatClampNeg)) M2 := a3
  try dsimp only at a4 a5 a6 a7 ⊢
  generalize F_12_museum_0 (scX g ((x4 + 1).toNatClampNeg)) M2 = y at *
  obtain ⟨v, M3⟩ := y
  have t : F_12_thrown_0 M3 = x5 := a4
  obtain ⟨s1, s2⟩ := st d' M3 a6 a7
  have c0 : x5 = 0 → lg_cmp (rl M3 1557 0) v.toInt64 = 0 := fun c => by
    have a5' : rl M3 1557 0 = v.toInt64 := a5 c
    rw [a5']; exact cmp0 _
  refine ⟨⟨v1, a0, v1, a3', ?_⟩, ?_⟩
  · rw [P__law__316, cl0]
    exact ⟨fun _ => ⟨fun _ => s1, fun c => ⟨fun _ => s1, fun y => absurd (c0 c) y⟩⟩, fun y => absurd t y⟩
  · rw [F__law__316, cl0, if_pos t]
    by_cases c : x5 = 0
    · rw [if_pos c, if_pos (c0 c)]; exact s2
    · rw [if_neg c]; exact s2
theorem l_law {g : Gl} {k23 : Int32 → Mem → Oc} {pk23 : Int32 → Mem → Prop} {Q : Oc → Prop} {d : ID} {M : Mem} {x4 : Int32} (hr : RI d M) (hc : CI d M) (hv : ∀ k, 1 ≤ k → k ≤ 6 → vp_in (x4 + nI k) (g.2.2.2 5000001)) (st : ∀ d M, RI d M → CI d M → pk23 (x4 + 7) M ∧ Q (k23 (x4 + 7) M)) : P__law__349 g pk23 x4 M ∧ Q (F__law__349 g k23 x4 M) := by
  have v1 : vp_in (x4 + 1) (g.2.2.2 5000001) := hv 1 (by omega) (by omega)
  obtain ⟨a1, a2, a3, a4, a5, d', a6, a7⟩ := QC.use (a := 0) (b := 1) (n := false) (e := true) (F := F_12_law_0 (scX g ((x4 + 1).toNatClampNeg))) (P := P_12_law_0 (scX g ((x4 + 1).toNatClampNeg))) (G := F_11_law_0 (scX g ((x4 + 1).toNatClampNeg))) (PG := P_11_law_0 (scX g ((x4 + 1).toNatClampNeg))) (d := d) (M := M) (by decide) (by decide) (fun Mr Mc h1 h2 => q_law (scX g ((x4 + 1).toNatClampNeg)) h1 h2) hr hc
  rw [P__law__349, F__law__349, show W_law (scX g ((x4 + 1).toNatClampNeg)) M = wOutI 0 1 (F_11_law_0 (scX g ((x4 + 1).toNatClampNeg)) M) from rfl]
  have a0 : Q_law (scX g ((x4 + 1).toNatClampNeg)) M := ⟨a1, a2⟩
  generalize wOutI 0 1 (F_11_law_0 (scX g ((x4 + 1).toNatClampNeg)) M) = z at *
  obtain ⟨x5, M2⟩ := z
  rw [P__law__360, F__law__360]
  have a3' : P_12_law_0 (scX g ((x4 + 1).toNatClampNeg)) M2 := a3
  try dsimp only at a4 a5 a6 a7 ⊢
  generalize F_12_law_0 (scX g ((x4 + 1).toNatClampNeg)) M2 = y at *
  obtain ⟨v, M3⟩ := y
  have t : F_12_thrown_0 M3 = x5 := a4
  obtain ⟨s1, s2⟩ := st d' M3 a6 a7
  have c0 : x5 = 0 → lg_cmp (rl M3 1557 0) v.toInt64 = 0 := fun c => by
    have a5' : rl M3 1557 0 = v.toInt64 := a5 c
    rw [a5']; exact cmp0 _
  refine ⟨⟨v1, a0, v1, a3', ?_⟩, ?_⟩
  · rw [P__law__372, cl0]
    exact ⟨fun _ => ⟨fun _ => s1, fun c => ⟨fun _ => s1, fun y => absurd (c0 c) y⟩⟩, fun y => absurd t y⟩
  · rw [F__law__372, cl0, if_pos t]
    by_cases c : x5 = 0
    · rw [if_pos c, if_pos (c0 c)]; exact s2
    · rw [if_neg c]; exact s2
theorem l_work {g : Gl} {k23 : Int32 → Mem → Oc} {pk23 : Int32 → Mem → Prop} {Q : Oc → Prop} {d : ID} {M : Mem} {x4 : Int32} (hr : RI d M) (hc : CI d M) (hv : ∀ k, 1 ≤ k → k ≤ 6 → vp_in (x4 + nI k) (g.2.2.2 5000001)) (st : ∀ d M, RI d M → CI d M → pk23 (x4 + 7) M ∧ Q (k23 (x4 + 7) M)) : P__law__405 g pk23 x4 M ∧ Q (F__law__405 g k23 x4 M) := by
  have v1 : vp_in (x4 + 1) (g.2.2.2 5000001) := hv 1 (by omega) (by omega)
  obtain ⟨a1, a2, a3, a4, a5, d', a6, a7⟩ := QC.use (a := 0) (b := 1) (n := false) (e := true) (F := F_12_work_0 (scX g ((x4 + 1).toNatClampNeg))) (P := P_12_work_0 (scX g ((x4 + 1).toNatClampNeg))) (G := F_11_work_0 (scX g ((x4 + 1).toNatClampNeg))) (PG := P_11_work_0 (scX g ((x4 + 1).toNatClampNeg))) (d := d) (M := M) (by decide) (by decide) (fun Mr Mc h1 h2 => q_work (scX g ((x4 + 1).toNatClampNeg)) h1 h2) hr hc
  rw [P__law__405, F__law__405, show W_work (scX g ((x4 + 1).toNatClampNeg)) M = wOutI 0 1 (F_11_work_0 (scX g ((x4 + 1).toNatClampNeg)) M) from rfl]
  have a0 : Q_work (scX g ((x4 + 1).toNatClampNeg)) M := ⟨a1, a2⟩
  generalize wOutI 0 1 (F_11_work_0 (scX g ((x4 + 1).toNatClampNeg)) M) = z at *
  obtain ⟨x5, M2⟩ := z
  rw [P__law__416, F__law__416]
  have a3' : P_12_work_0 (scX g ((x4 + 1).toNatClampNeg)) M2 := a3
  try dsimp only at a4 a5 a6 a7 ⊢
  generalize F_12_work_0 (scX g ((x4 + 1).toNatClampNeg)) M2 = y at *
  obtain ⟨v, M3⟩ := y
  have t : F_12_thrown_0 M3 = x5 := a4
  obtain ⟨s1, s2⟩ := st d' M3 a6 a7
  have c0 : x5 = 0 → lg_cmp (rl M3 1557 0) v.toInt64 = 0 := fun c => by
    have a5' : rl M3 1557 0 = v.toInt64 := a5 c
    rw [a5']; exact cmp0 _
  refine ⟨⟨v1, a0, v1, a3', ?_⟩, ?_⟩
  · rw [P__law__428, cl0]
    exact ⟨fun _ => ⟨fun _ => s1, fun c => ⟨fun _ => s1, fun y => absurd (c0 c) y⟩⟩, fun y => absurd t y⟩
  · rw [F__law__428, cl0, if_pos t]
    by_cases c : x5 = 0
    · rw [if_pos c, if_pos (c0 c)]; exact s2
    · rw [if_neg c]; exact s2
theorem l_walk {g : Gl} {k23 : Int32 → Mem → Oc} {pk23 : Int32 → Mem → Prop} {Q : Oc → Prop} {d : ID} {M : Mem} {x4 : Int32} (hr : RI d M) (hc : CI d M) (hv : ∀ k, 1 ≤ k → k ≤ 6 → vp_in (x4 + nI k) (g.2.2.2 5000001)) (st : ∀ d M, RI d M → CI d M → pk23 (x4 + 7) M ∧ Q (k23 (x4 + 7) M)) : P__law__461 g pk23 x4 M ∧ Q (F__law__461 g k23 x4 M) := by
  have v1 : vp_in (x4 + 1) (g.2.2.2 5000001) := hv 1 (by omega) (by omega)
  obtain ⟨a1, a2, a3, a4, a5, d', a6, a7⟩ := QC.use (a := 0) (b := 1) (n := false) (e := true) (F := F_12_walk_0 (scX g ((x4 + 1).toNatClampNeg))) (P := P_12_walk_0 (scX g ((x4 + 1).toNatClampNeg))) (G := F_11_walk_0 (scX g ((x4 + 1).toNatClampNeg))) (PG := P_11_walk_0 (scX g ((x4 + 1).toNatClampNeg))) (d := d) (M := M) (by decide) (by decide) (fun Mr Mc h1 h2 => q_walk (scX g ((x4 + 1).toNatClampNeg)) h1 h2) hr hc
  rw [P__law__461, F__law__461, show W_walk (scX g ((x4 + 1).toNatClampNeg)) M = wOutI 0 1 (F_11_walk_0 (scX g ((x4 + 1).toNatClampNeg)) M) from rfl]
  have a0 : Q_walk (scX g ((x4 + 1).toNatClampNeg)) M := ⟨a1, a2⟩
  generalize wOutI 0 1 (F_11_walk_0 (scX g ((x4 + 1).toNatClampNeg)) M) = z at *
  obtain ⟨x5, M2⟩ := z
  rw [P__law__472, F__law__472]
  have a3' : P_12_walk_0 (scX g ((x4 + 1).toNatClampNeg)) M2 := a3
  try dsimp only at a4 a5 a6 a7 ⊢
  generalize F_12_walk_0 (scX g ((x4 + 1).toNatClampNeg)) M2 = y at *
  obtain ⟨v, M3⟩ := y
  have t : F_12_thrown_0 M3 = x5 := a4
  obtain ⟨s1, s2⟩ := st d' M3 a6 a7
  have c0 : x5 = 0 → lg_cmp (rl M3 1557 0) v.toInt64 = 0 := fun c => by
    have a5' : rl M3 1557 0 = v.toInt64 := a5 c
    rw [a5']; exact cmp0 _
  refine ⟨⟨v1, a0, v1, a3', ?_⟩, ?_⟩
  · rw [P__law__484, cl0]
    exact ⟨fun _ => ⟨fun _ => s1, fun c => ⟨fun _ => s1, fun y => absurd (c0 c) y⟩⟩, fun y => absurd t y⟩
  · rw [F__law__484, cl0, if_pos t]
    by_cases c : x5 = 0
    · rw [if_pos c, if_pos (c0 c)]; exact s2
    · rw [if_neg c]; exact s2
theorem l_fault {g : Gl} {k23 : Int32 → Mem → Oc} {pk23 : Int32 → Mem → Prop} {Q : Oc → Prop} {d : ID} {M : Mem} {x4 : Int32} (hr : RI d M) (hc : CI d M) (hv : ∀ k, 1 ≤ k → k ≤ 6 → vp_in (x4 + nI k) (g.2.2.2 5000001)) (st : ∀ d M, RI d M → CI d M → pk23 (x4 + 7) M ∧ Q (k23 (x4 + 7) M)) : P__law__517 g pk23 x4 M ∧ Q (F__law__517 g k23 x4 M) := by
  obtain ⟨a1, a2, a3, d', a4, a5⟩ := QD.use (F := (F_12_fault_0)) (G := (fun M => (F_11_fault_0 M, M))) (P := (fun _ => True)) (PG := (fun _ => True)) (d := d) (M := M) (fun Mr Mc h1 h2 => ⟨trivial, trivial, q_fault h1 h2⟩) hr hc
  obtain ⟨s1, s2⟩ := st d' _ a4 a5
  rw [P__law__517, F__law__517]
  have e := a3.symm
  try dsimp only at a2 e s1 s2 ⊢
  refine ⟨?_, ?_⟩
  · exact ⟨fun _ => s1, fun y => absurd e y⟩
  · rw [F__law__525, if_pos e]; exact s2
theorem l_undo {g : Gl} {k23 : Int32 → Mem → Oc} {pk23 : Int32 → Mem → Prop} {Q : Oc → Prop} {d : ID} {M : Mem} {x4 : Int32} (hr : RI d M) (hc : CI d M) (hv : ∀ k, 1 ≤ k → k ≤ 6 → vp_in (x4 + nI k) (g.2.2.2 5000001)) (st : ∀ d M, RI d M → CI d M → pk23 (x4 + 7) M ∧ Q (k23 (x4 + 7) M)) : P__law__530 g pk23 x4 M ∧ Q (F__law__530 g k23 x4 M) := by
  obtain ⟨a1, a2, a3, d', a4, a5⟩ := QD.use (F := (F_12_undo_0)) (G := (F_11_undo_0)) (P := (P_12_undo_0)) (PG := (P_11_undo_0)) (d := d) (M := M) (fun Mr Mc h1 h2 => q_undo h1 h2) hr hc
  obtain ⟨s1, s2⟩ := st d' _ a4 a5
  rw [P__law__530, F__law__530]
  rw [P__law__534, F__law__534]
  have e := a3.symm
  try dsimp only at a2 e s1 s2 ⊢
  refine ⟨⟨a1, a2, ?_⟩, ?_⟩
  · exact ⟨fun _ => s1, fun y => absurd e y⟩
  · rw [F__law__538, if_pos e]; exact s2
theorem l_told {g : Gl} {k23 : Int32 → Mem → Oc} {pk23 : Int32 → Mem → Prop} {Q : Oc → Prop} {d : ID} {M : Mem} {x4 : Int32} (hr : RI d M) (hc : CI d M) (hv : ∀ k, 1 ≤ k → k ≤ 6 → vp_in (x4 + nI k) (g.2.2.2 5000001)) (st : ∀ d M, RI d M → CI d M → pk23 (x4 + 7) M ∧ Q (k23 (x4 + 7) M)) : P__law__543 g pk23 x4 M ∧ Q (F__law__543 g k23 x4 M) := by
  have v1 : vp_in (x4 + 1) (g.2.2.2 5000001) := hv 1 (by omega) (by omega)
  obtain ⟨a1, a2, a3, a4, a5, d', a6, a7⟩ := QC.use (a := 0) (b := 1) (n := false) (e := true) (F := F_12_told_0 (scX g ((x4 + 1).toNatClampNeg))) (P := P_12_told_0 (scX g ((x4 + 1).toNatClampNeg))) (G := F_11_told_0 (scX g ((x4 + 1).toNatClampNeg))) (PG := P_11_told_0 (scX g ((x4 + 1).toNatClampNeg))) (d := d) (M := M) (by decide) (by decide) (fun Mr Mc h1 h2 => q_told (scX g ((x4 + 1).toNatClampNeg)) h1 h2) hr hc
  rw [P__law__543, F__law__543, show W_told (scX g ((x4 + 1).toNatClampNeg)) M = wOutI 0 1 (F_11_told_0 (scX g ((x4 + 1).toNatClampNeg)) M) from rfl]
  have a0 : Q_told (scX g ((x4 + 1).toNatClampNeg)) M := ⟨a1, a2⟩
  generalize wOutI 0 1 (F_11_told_0 (scX g ((x4 + 1).toNatClampNeg)) M) = z at *
  obtain ⟨x5, M2⟩ := z
  rw [P__law__554, F__law__554]
  have a3' : P_12_told_0 (scX g ((x4 + 1).toNatClampNeg)) M2 := a3
  try dsimp only at a4 a5 a6 a7 ⊢
  generalize F_12_told_0 (scX g ((x4 + 1).toNatClampNeg)) M2 = y at *
  obtain ⟨v, M3⟩ := y
  have t : F_12_thrown_0 M3 = x5 := a4
  obtain ⟨s1, s2⟩ := st d' M3 a6 a7
  have c0 : x5 = 0 → lg_cmp (rl M3 1557 0) v.toInt64 = 0 := fun c => by
    have a5' : rl M3 1557 0 = v.toInt64 := a5 c
    rw [a5']; exact cmp0 _
  refine ⟨⟨v1, a0, v1, a3', ?_⟩, ?_⟩
  · rw [P__law__566, cl0]
    exact ⟨fun _ => ⟨fun _ => s1, fun c => ⟨fun _ => s1, fun y => absurd (c0 c) y⟩⟩, fun y => absurd t y⟩
  · rw [F__law__566, cl0, if_pos t]
    by_cases c : x5 = 0
    · rw [if_pos c, if_pos (c0 c)]; exact s2
    · rw [if_neg c]; exact s2
theorem l_room {g : Gl} {k23 : Int32 → Mem → Oc} {pk23 : Int32 → Mem → Prop} {Q : Oc → Prop} {d : ID} {M : Mem} {x4 : Int32} (hr : RI d M) (hc : CI d M) (hv : ∀ k, 1 ≤ k → k ≤ 6 → vp_in (x4 + nI k) (g.2.2.2 5000001)) (st : ∀ d M, RI d M → CI d M → pk23 (x4 + 7) M ∧ Q (k23 (x4 + 7) M)) : P__law__599 g pk23 x4 M ∧ Q (F__law__599 g k23 x4 M) := by
  have v1 : vp_in (x4 + 1) (g.2.2.2 5000001) := hv 1 (by omega) (by omega)
  have v2 : vp_in (x4 + 2) (g.2.2.2 5000001) := hv 2 (by omega) (by omega)
  obtain ⟨a1, a2, a3, a4, a5, d', a6, a7⟩ := QC.use (a := 1) (b := 2) (n := true) (e := true) (F := F_12_room_0 (scX g ((x4 + 1).toNatClampNeg)) (scX g ((x4 + 2).toNatClampNeg))) (P := P_12_room_0 (scX g ((x4 + 1).toNatClampNeg)) (scX g ((x4 + 2).toNatClampNeg))) (G := F_11_room_0 (scX g ((x4 + 1).toNatClampNeg)) (scX g ((x4 + 2).toNatClampNeg))) (PG := P_11_room_0 (scX g ((x4 + 1).toNatClampNeg)) (scX g ((x4 + 2).toNatClampNeg))) (d := d) (M := M) (by decide) (by decide) (fun Mr Mc h1 h2 => q_room (scX g ((x4 + 1).toNatClampNeg)) (scX g ((x4 + 2).toNatClampNeg)) h1 h2) hr hc
  rw [P__law__599, F__law__599, show W_room (scX g ((x4 + 1).toNatClampNeg)) (scX g ((x4 + 2).toNatClampNeg)) M = wOutI 1 2 (F_11_room_0 (scX g ((x4 + 1).toNatClampNeg)) (scX g ((x4 + 2).toNatClampNeg)) M) from rfl]
  have a0 : Q_room (scX g ((x4 + 1).toNatClampNeg)) (scX g ((x4 + 2).toNatClampNeg)) M := ⟨a1, a2⟩
  generalize wOutI 1 2 (F_11_room_0 (scX g ((x4 + 1).toNatClampNeg)) (scX g ((x4 + 2).toNatClampNeg)) M) = z at *
  obtain ⟨x5, M2⟩ := z
  rw [P__law__616, F__law__616]
  have a3' : P_12_room_0 (scX g ((x4 + 1).toNatClampNeg)) (scX g ((x4 + 2).toNatClampNeg)) M2 := a3
  try dsimp only at a4 a5 a6 a7 ⊢
  generalize F_12_room_0 (scX g ((x4 + 1).toNatClampNeg)) (scX g ((x4 + 2).toNatClampNeg)) M2 = y at *
  obtain ⟨v, M3⟩ := y
  have t : F_12_thrown_0 M3 = x5 := a4
  obtain ⟨s1, s2⟩ := st d' M3 a6 a7
  have c0 : x5 = 0 → lg_cmp (rl M3 1557 0) v.toInt64 = 0 := fun c => by
    have a5' : rl M3 1557 0 = v.toInt64 := a5 c
    rw [a5']; exact cmp0 _
  refine ⟨⟨v1, v2, a0, v1, v2, a3', ?_⟩, ?_⟩
  · rw [P__law__634, cl0]
    exact ⟨fun _ => ⟨fun _ => s1, fun c => ⟨fun _ => s1, fun y => absurd (c0 c) y⟩⟩, fun y => absurd t y⟩
  · rw [F__law__634, cl0, if_pos t]
    by_cases c : x5 = 0
    · rw [if_pos c, if_pos (c0 c)]; exact s2
    · rw [if_neg c]; exact s2
theorem l_door {g : Gl} {k23 : Int32 → Mem → Oc} {pk23 : Int32 → Mem → Prop} {Q : Oc → Prop} {d : ID} {M : Mem} {x4 : Int32} (hr : RI d M) (hc : CI d M) (hv : ∀ k, 1 ≤ k → k ≤ 6 → vp_in (x4 + nI k) (g.2.2.2 5000001)) (st : ∀ d M, RI d M → CI d M → pk23 (x4 + 7) M ∧ Q (k23 (x4 + 7) M)) : P__law__667 g pk23 x4 M ∧ Q (F__law__667 g k23 x4 M) := by
  have v1 : vp_in (x4 + 1) (g.2.2.2 5000001) := hv 1 (by omega) (by omega)
  have v2 : vp_in (x4 + 2) (g.2.2.2 5000001) := hv 2 (by omega) (by omega)
  obtain ⟨a1, a2, a3, a4, a5, d', a6, a7⟩ := QC.use (a := 1) (b := 2) (n := true) (e := true) (F := F_12_door_0 (scX g ((x4 + 1).toNatClampNeg)) (scX g ((x4 + 2).toNatClampNeg))) (P := P_12_door_0 (scX g ((x4 + 1).toNatClampNeg)) (scX g ((x4 + 2).toNatClampNeg))) (G := F_11_door_0 (scX g ((x4 + 1).toNatClampNeg)) (scX g ((x4 + 2).toNatClampNeg))) (PG := P_11_door_0 (scX g ((x4 + 1).toNatClampNeg)) (scX g ((x4 + 2).toNatClampNeg))) (d := d) (M := M) (by decide) (by decide) (fun Mr Mc h1 h2 => q_door (scX g ((x4 + 1).toNatClampNeg)) (scX g ((x4 + 2).toNatClampNeg)) h1 h2) hr hc
  rw [P__law__667, F__law__667, show W_door (scX g ((x4 + 1).toNatClampNeg)) (scX g ((x4 + 2).toNatClampNeg)) M = wOutI 1 2 (F_11_door_0 (scX g ((x4 + 1).toNatClampNeg)) (scX g ((x4 + 2).toNatClampNeg)) M) from rfl]
  have a0 : Q_door (scX g ((x4 + 1).toNatClampNeg)) (scX g ((x4 + 2).toNatClampNeg)) M := ⟨a1, a2⟩
  generalize wOutI 1 2 (F_11_door_0 (scX g ((x4 + 1).toNatClampNeg)) (scX g ((x4 + 2).toNatClampNeg)) M) = z at *
  obtain ⟨x5, M2⟩ := z
  rw [P__law__684, F__law__684]
  have a3' : P_12_door_0 (scX g ((x4 + 1).toNatClampNeg)) (scX g ((x4 + 2).toNatClampNeg)) M2 := a3
  try dsimp only at a4 a5 a6 a7 ⊢
  generalize F_12_door_0 (scX g ((x4 + 1).toNatClampNeg)) (scX g ((x4 + 2).toNatClampNeg)) M2 = y at *
  obtain ⟨v, M3⟩ := y
  have t : F_12_thrown_0 M3 = x5 := a4
  obtain ⟨s1, s2⟩ := st d' M3 a6 a7
  have c0 : x5 = 0 → lg_cmp (rl M3 1557 0) v.toInt64 = 0 := fun c => by
    have a5' : rl M3 1557 0 = v.toInt64 := a5 c
    rw [a5']; exact cmp0 _
  refine ⟨⟨v1, v2, a0, v1, v2, a3', ?_⟩, ?_⟩
  · rw [P__law__702, cl0]
    exact ⟨fun _ => ⟨fun _ => s1, fun c => ⟨fun _ => s1, fun y => absurd (c0 c) y⟩⟩, fun y => absurd t y⟩
  · rw [F__law__702, cl0, if_pos t]
    by_cases c : x5 = 0
    · rw [if_pos c, if_pos (c0 c)]; exact s2
    · rw [if_neg c]; exact s2
theorem l_tour {g : Gl} {k23 : Int32 → Mem → Oc} {pk23 : Int32 → Mem → Prop} {Q : Oc → Prop} {d : ID} {M : Mem} {x4 : Int32} (hr : RI d M) (hc : CI d M) (hv : ∀ k, 1 ≤ k → k ≤ 6 → vp_in (x4 + nI k) (g.2.2.2 5000001)) (st : ∀ d M, RI d M → CI d M → pk23 (x4 + 7) M ∧ Q (k23 (x4 + 7) M)) : P__law__735 g pk23 x4 M ∧ Q (F__law__735 g k23 x4 M) := by
  have v1 : vp_in (x4 + 1) (g.2.2.2 5000001) := hv 1 (by omega) (by omega)
  obtain ⟨a1, a2, a3, a4, a5, d', a6, a7⟩ := QC.use (a := 1) (b := 0) (n := true) (e := false) (F := F_12_tour_0 (scX g ((x4 + 1).toNatClampNeg))) (P := P_12_tour_0 (scX g ((x4 + 1).toNatClampNeg))) (G := F_11_tour_0 (scX g ((x4 + 1).toNatClampNeg))) (PG := P_11_tour_0 (scX g ((x4 + 1).toNatClampNeg))) (d := d) (M := M) (by decide) (by decide) (fun Mr Mc h1 h2 => q_tour (scX g ((x4 + 1).toNatClampNeg)) h1 h2) hr hc
  rw [P__law__735, F__law__735, show W_tour (scX g ((x4 + 1).toNatClampNeg)) M = wOutI 1 0 (F_11_tour_0 (scX g ((x4 + 1).toNatClampNeg)) M) from rfl]
  have a0 : Q_tour (scX g ((x4 + 1).toNatClampNeg)) M := ⟨a1, a2⟩
  generalize wOutI 1 0 (F_11_tour_0 (scX g ((x4 + 1).toNatClampNeg)) M) = z at *
  obtain ⟨x5, M2⟩ := z
  rw [P__law__746, F__law__746]
  have a3' : P_12_tour_0 (scX g ((x4 + 1).toNatClampNeg)) M2 := a3
  try dsimp only at a4 a5 a6 a7 ⊢
  generalize F_12_tour_0 (scX g ((x4 + 1).toNatClampNeg)) M2 = y at *
  obtain ⟨v, M3⟩ := y
  have t : F_12_thrown_0 M3 = x5 := a4
  obtain ⟨s1, s2⟩ := st d' M3 a6 a7
  have c0 : x5 = 0 → lg_cmp (rl M3 1557 0) v.toInt64 = 0 := fun c => by
    have a5' : rl M3 1557 0 = v.toInt64 := a5 c
    rw [a5']; exact cmp0 _
  refine ⟨⟨v1, a0, v1, a3', ?_⟩, ?_⟩
  · rw [P__law__758, cl0]
    exact ⟨fun _ => ⟨fun _ => s1, fun c => ⟨fun _ => s1, fun y => absurd (c0 c) y⟩⟩, fun y => absurd t y⟩
  · rw [F__law__758, cl0, if_pos t]
    by_cases c : x5 = 0
    · rw [if_pos c, if_pos (c0 c)]; exact s2
    · rw [if_neg c]; exact s2
theorem l_open {g : Gl} {k23 : Int32 → Mem → Oc} {pk23 : Int32 → Mem → Prop} {Q : Oc → Prop} {d : ID} {M : Mem} {x4 : Int32} (hr : RI d M) (hc : CI d M) (hv : ∀ k, 1 ≤ k → k ≤ 6 → vp_in (x4 + nI k) (g.2.2.2 5000001)) (st : ∀ d M, RI d M → CI d M → pk23 (x4 + 7) M ∧ Q (k23 (x4 + 7) M)) : P__law__791 g pk23 x4 M ∧ Q (F__law__791 g k23 x4 M) := by
  have v1 : vp_in (x4 + 1) (g.2.2.2 5000001) := hv 1 (by omega) (by omega)
  have v2 : vp_in (x4 + 2) (g.2.2.2 5000001) := hv 2 (by omega) (by omega)
  have v3 : vp_in (x4 + 3) (g.2.2.2 5000001) := hv 3 (by omega) (by omega)
  obtain ⟨a1, a2, a3, a4, a5, d', a6, a7⟩ := QC.useZ (a := 1) (b := 2) (n := true) (e := true) (F := F_12_open_0 (scX g ((x4 + 1).toNatClampNeg)) (scX g ((x4 + 2).toNatClampNeg)) (scX g ((x4 + 3).toNatClampNeg))) (P := P_12_open_0 (scX g ((x4 + 1).toNatClampNeg)) (scX g ((x4 + 2).toNatClampNeg)) (scX g ((x4 + 3).toNatClampNeg))) (G := F_11_open_0 (scX g ((x4 + 1).toNatClampNeg)) (scX g ((x4 + 2).toNatClampNeg)) (scX g ((x4 + 3).toNatClampNeg))) (PG := P_11_open_0 (scX g ((x4 + 1).toNatClampNeg)) (scX g ((x4 + 2).toNatClampNeg)) (scX g ((x4 + 3).toNatClampNeg))) (d := d) (M := M) (by decide) (by decide) (fun Mr Mc h1 h2 => q_open (scX g ((x4 + 1).toNatClampNeg)) (scX g ((x4 + 2).toNatClampNeg)) (scX g ((x4 + 3).toNatClampNeg)) h1 h2) hr hc
  rw [P__law__791, F__law__791, show W_open (scX g ((x4 + 1).toNatClampNeg)) (scX g ((x4 + 2).toNatClampNeg)) (scX g ((x4 + 3).toNatClampNeg)) M = wOutZ 1 2 (F_11_open_0 (scX g ((x4 + 1).toNatClampNeg)) (scX g ((x4 + 2).toNatClampNeg)) (scX g ((x4 + 3).toNatClampNeg)) M) from rfl]
  have a0 : Q_open (scX g ((x4 + 1).toNatClampNeg)) (scX g ((x4 + 2).toNatClampNeg)) (scX g ((x4 + 3).toNatClampNeg)) M := ⟨a1, a2⟩
  generalize wOutZ 1 2 (F_11_open_0 (scX g ((x4 + 1).toNatClampNeg)) (scX g ((x4 + 2).toNatClampNeg)) (scX g ((x4 + 3).toNatClampNeg)) M) = z at *
  obtain ⟨x5, M2⟩ := z
  rw [P__law__814, F__law__814]
  have a3' : P_12_open_0 (scX g ((x4 + 1).toNatClampNeg)) (scX g ((x4 + 2).toNatClampNeg)) (scX g ((x4 + 3).toNatClampNeg)) M2 := a3
  try dsimp only at a4 a5 a6 a7 ⊢
  generalize F_12_open_0 (scX g ((x4 + 1).toNatClampNeg)) (scX g ((x4 + 2).toNatClampNeg)) (scX g ((x4 + 3).toNatClampNeg)) M2 = y at *
  obtain ⟨v, M3⟩ := y
  have t : F_12_thrown_0 M3 = x5 := a4
  obtain ⟨s1, s2⟩ := st d' M3 a6 a7
  have c0 : x5 = 0 → (P__law__869 g pk23 x4 (if v = 0 then 0 else 1) (rl M3 1557 0) M3 ∧ Q (F__law__869 g k23 x4 (if v = 0 then 0 else 1) (rl M3 1557 0) M3)) := fun c => by
    have a5' : rl M3 1557 0 = (if v = 0 then 0 else 1) := a5 c
    rw [a5', P__law__869, F__law__869, if_pos (cmp0 _)]
    exact ⟨⟨fun _ => s1, fun y => absurd (cmp0 _) y⟩, s2⟩
  refine ⟨⟨v1, v2, v3, a0, v1, v2, v3, a3', ?_⟩, ?_⟩
  · rw [P__law__838, cl0]
    refine ⟨fun _ => ⟨fun _ => s1, fun c => ⟨fun y => ?_, fun y => ?_⟩⟩, fun y => absurd t y⟩
    · have := (c0 c).1; rw [if_pos y] at this; exact this
    · have := (c0 c).1; rw [if_neg y] at this; exact this
  · rw [F__law__838, cl0, if_pos t]
    by_cases c : x5 = 0
    · rw [if_pos c]
      by_cases y : v = 0
      · have := (c0 c).2; rw [if_pos y] at this; rw [if_pos y]; exact this
      · have := (c0 c).2; rw [if_neg y] at this; rw [if_neg y]; exact this
    · rw [if_neg c]; exact s2
theorem l_fits {g : Gl} {k23 : Int32 → Mem → Oc} {pk23 : Int32 → Mem → Prop} {Q : Oc → Prop} {d : ID} {M : Mem} {x4 : Int32} (hr : RI d M) (hc : CI d M) (hv : ∀ k, 1 ≤ k → k ≤ 6 → vp_in (x4 + nI k) (g.2.2.2 5000001)) (st : ∀ d M, RI d M → CI d M → pk23 (x4 + 7) M ∧ Q (k23 (x4 + 7) M)) : P__law__878 g pk23 x4 M ∧ Q (F__law__878 g k23 x4 M) := by
  obtain ⟨a1, a2, a3, d', a4, a5⟩ := QD.use (F := (F_12_fits_0)) (G := (F_11_fits_0)) (P := (P_12_fits_0)) (PG := (P_11_fits_0)) (d := d) (M := M) (fun Mr Mc h1 h2 => q_fits h1 h2) hr hc
  obtain ⟨s1, s2⟩ := st d' _ a4 a5
  rw [P__law__878, F__law__878]
  rw [P__law__882, F__law__882]
  have e := a3.symm
  try dsimp only at a2 e s1 s2 ⊢
  refine ⟨⟨a1, a2, ?_⟩, ?_⟩
  · exact ⟨fun _ => s1, fun y => absurd e y⟩
  · rw [F__law__886, if_pos e]; exact s2
theorem l_knows {g : Gl} {k23 : Int32 → Mem → Oc} {pk23 : Int32 → Mem → Prop} {Q : Oc → Prop} {d : ID} {M : Mem} {x4 : Int32} (hr : RI d M) (hc : CI d M) (hv : ∀ k, 1 ≤ k → k ≤ 6 → vp_in (x4 + nI k) (g.2.2.2 5000001)) (st : ∀ d M, RI d M → CI d M → pk23 (x4 + 7) M ∧ Q (k23 (x4 + 7) M)) : P__law__891 g pk23 x4 M ∧ Q (F__law__891 g k23 x4 M) := by
  obtain ⟨a1, a2, a3, d', a4, a5⟩ := QD.use (F := (F_12_knows_0)) (G := (F_11_knows_0)) (P := (P_12_knows_0)) (PG := (P_11_knows_0)) (d := d) (M := M) (fun Mr Mc h1 h2 => q_knows h1 h2) hr hc
  obtain ⟨s1, s2⟩ := st d' _ a4 a5
  rw [P__law__891, F__law__891]
  rw [P__law__895, F__law__895]
  have e := a3.symm
  try dsimp only at a2 e s1 s2 ⊢
  refine ⟨⟨a1, a2, ?_⟩, ?_⟩
  · exact ⟨fun _ => s1, fun y => absurd e y⟩
  · rw [F__law__899, if_pos e]; exact s2
theorem l_slips {g : Gl} {k23 : Int32 → Mem → Oc} {pk23 : Int32 → Mem → Prop} {Q : Oc → Prop} {d : ID} {M : Mem} {x4 : Int32} (hr : RI d M) (hc : CI d M) (hv : ∀ k, 1 ≤ k → k ≤ 6 → vp_in (x4 + nI k) (g.2.2.2 5000001)) (st : ∀ d M, RI d M → CI d M → pk23 (x4 + 7) M ∧ Q (k23 (x4 + 7) M)) : P__law__904 g pk23 x4 M ∧ Q (F__law__904 g k23 x4 M) := by
  have v1 : vp_in (x4 + 1) (g.2.2.2 5000001) := hv 1 (by omega) (by omega)
  obtain ⟨a1, a2, a3, a4, a5, d', a6, a7⟩ := QC.use (a := 0) (b := 1) (n := false) (e := true) (F := F_12_slips_0 (scX g ((x4 + 1).toNatClampNeg))) (P := P_12_slips_0 (scX g ((x4 + 1).toNatClampNeg))) (G := F_11_slips_0 (scX g ((x4 + 1).toNatClampNeg))) (PG := P_11_slips_0 (scX g ((x4 + 1).toNatClampNeg))) (d := d) (M := M) (by decide) (by decide) (fun Mr Mc h1 h2 => q_slips (scX g ((x4 + 1).toNatClampNeg)) h1 h2) hr hc
  rw [P__law__904, F__law__904, show W_slips (scX g ((x4 + 1).toNatClampNeg)) M = wOutI 0 1 (F_11_slips_0 (scX g ((x4 + 1).toNatClampNeg)) M) from rfl]
  have a0 : Q_slips (scX g ((x4 + 1).toNatClampNeg)) M := ⟨a1, a2⟩
  generalize wOutI 0 1 (F_11_slips_0 (scX g ((x4 + 1).toNatClampNeg)) M) = z at *
  obtain ⟨x5, M2⟩ := z
  rw [P__law__915, F__law__915]
  have a3' : P_12_slips_0 (scX g ((x4 + 1).toNatClampNeg)) M2 := a3
  try dsimp only at a4 a5 a6 a7 ⊢
  generalize F_12_slips_0 (scX g ((x4 + 1).toNatClampNeg)) M2 = y at *
  obtain ⟨v, M3⟩ := y
  have t : F_12_thrown_0 M3 = x5 := a4
  obtain ⟨s1, s2⟩ := st d' M3 a6 a7
  have c0 : x5 = 0 → lg_cmp (rl M3 1557 0) v.toInt64 = 0 := fun c => by
    have a5' : rl M3 1557 0 = v.toInt64 := a5 c
    rw [a5']; exact cmp0 _
  refine ⟨⟨v1, a0, v1, a3', ?_⟩, ?_⟩
  · rw [P__law__927, cl0]
    exact ⟨fun _ => ⟨fun _ => s1, fun c => ⟨fun _ => s1, fun y => absurd (c0 c) y⟩⟩, fun y => absurd t y⟩
  · rw [F__law__927, cl0, if_pos t]
    by_cases c : x5 = 0
    · rw [if_pos c, if_pos (c0 c)]; exact s2
    · rw [if_neg c]; exact s2
theorem l_ends {g : Gl} {k23 : Int32 → Mem → Oc} {pk23 : Int32 → Mem → Prop} {Q : Oc → Prop} {d : ID} {M : Mem} {x4 : Int32} (hr : RI d M) (hc : CI d M) (hv : ∀ k, 1 ≤ k → k ≤ 6 → vp_in (x4 + nI k) (g.2.2.2 5000001)) (st : ∀ d M, RI d M → CI d M → pk23 (x4 + 7) M ∧ Q (k23 (x4 + 7) M)) : P__law__960 g pk23 x4 M ∧ Q (F__law__960 g k23 x4 M) := by
  have v1 : vp_in (x4 + 1) (g.2.2.2 5000001) := hv 1 (by omega) (by omega)
  obtain ⟨a1, a2, a3, a4, a5, d', a6, a7⟩ := QC.useZ (a := 1) (b := 0) (n := true) (e := false) (F := F_12_ends_0 (scX g ((x4 + 1).toNatClampNeg))) (P := P_12_ends_0 (scX g ((x4 + 1).toNatClampNeg))) (G := F_11_ends_0 (scX g ((x4 + 1).toNatClampNeg))) (PG := P_11_ends_0 (scX g ((x4 + 1).toNatClampNeg))) (d := d) (M := M) (by decide) (by decide) (fun Mr Mc h1 h2 => q_ends (scX g ((x4 + 1).toNatClampNeg)) h1 h2) hr hc
  rw [P__law__960, F__law__960, show W_ends (scX g ((x4 + 1).toNatClampNeg)) M = wOutZ 1 0 (F_11_ends_0 (scX g ((x4 + 1).toNatClampNeg)) M) from rfl]
  have a0 : Q_ends (scX g ((x4 + 1).toNatClampNeg)) M := ⟨a1, a2⟩
  generalize wOutZ 1 0 (F_11_ends_0 (scX g ((x4 + 1).toNatClampNeg)) M) = z at *
  obtain ⟨x5, M2⟩ := z
  rw [P__law__971, F__law__971]
  have a3' : P_12_ends_0 (scX g ((x4 + 1).toNatClampNeg)) M2 := a3
  try dsimp only at a4 a5 a6 a7 ⊢
  generalize F_12_ends_0 (scX g ((x4 + 1).toNatClampNeg)) M2 = y at *
  obtain ⟨v, M3⟩ := y
  have t : F_12_thrown_0 M3 = x5 := a4
  obtain ⟨s1, s2⟩ := st d' M3 a6 a7
  have c0 : x5 = 0 → (P__law__1014 g pk23 x4 (if v = 0 then 0 else 1) (rl M3 1557 0) M3 ∧ Q (F__law__1014 g k23 x4 (if v = 0 then 0 else 1) (rl M3 1557 0) M3)) := fun c => by
    have a5' : rl M3 1557 0 = (if v = 0 then 0 else 1) := a5 c
    rw [a5', P__law__1014, F__law__1014, if_pos (cmp0 _)]
    exact ⟨⟨fun _ => s1, fun y => absurd (cmp0 _) y⟩, s2⟩
  refine ⟨⟨v1, a0, v1, a3', ?_⟩, ?_⟩
  · rw [P__law__983, cl0]
    refine ⟨fun _ => ⟨fun _ => s1, fun c => ⟨fun y => ?_, fun y => ?_⟩⟩, fun y => absurd t y⟩
    · have := (c0 c).1; rw [if_pos y] at this; exact this
    · have := (c0 c).1; rw [if_neg y] at this; exact this
  · rw [F__law__983, cl0, if_pos t]
    by_cases c : x5 = 0
    · rw [if_pos c]
      by_cases y : v = 0
      · have := (c0 c).2; rw [if_pos y] at this; rw [if_pos y]; exact this
      · have := (c0 c).2; rw [if_neg y] at this; rw [if_neg y]; exact this
    · rw [if_neg c]; exact s2
theorem l_soon {g : Gl} {k23 : Int32 → Mem → Oc} {pk23 : Int32 → Mem → Prop} {Q : Oc → Prop} {d : ID} {M : Mem} {x4 : Int32} (hr : RI d M) (hc : CI d M) (hv : ∀ k, 1 ≤ k → k ≤ 6 → vp_in (x4 + nI k) (g.2.2.2 5000001)) (st : ∀ d M, RI d M → CI d M → pk23 (x4 + 7) M ∧ Q (k23 (x4 + 7) M)) : P__law__1023 g pk23 x4 M ∧ Q (F__law__1023 g k23 x4 M) := by
  have v1 : vp_in (x4 + 1) (g.2.2.2 5000001) := hv 1 (by omega) (by omega)
  have v2 : vp_in (x4 + 2) (g.2.2.2 5000001) := hv 2 (by omega) (by omega)
  obtain ⟨a1, a2, a3, a4, a5, d', a6, a7⟩ := QC.use (a := 1) (b := 0) (n := true) (e := false) (F := F_12_soon_0 (scX g ((x4 + 1).toNatClampNeg)) (scX g ((x4 + 2).toNatClampNeg))) (P := P_12_soon_0 (scX g ((x4 + 1).toNatClampNeg)) (scX g ((x4 + 2).toNatClampNeg))) (G := F_11_soon_0 (scX g ((x4 + 1).toNatClampNeg)) (scX g ((x4 + 2).toNatClampNeg))) (PG := P_11_soon_0 (scX g ((x4 + 1).toNatClampNeg)) (scX g ((x4 + 2).toNatClampNeg))) (d := d) (M := M) (by decide) (by decide) (fun Mr Mc h1 h2 => q_soon (scX g ((x4 + 1).toNatClampNeg)) (scX g ((x4 + 2).toNatClampNeg)) h1 h2) hr hc
  rw [P__law__1023, F__law__1023, show W_soon (scX g ((x4 + 1).toNatClampNeg)) (scX g ((x4 + 2).toNatClampNeg)) M = wOutI 1 0 (F_11_soon_0 (scX g ((x4 + 1).toNatClampNeg)) (scX g ((x4 + 2).toNatClampNeg)) M) from rfl]
  have a0 : Q_soon (scX g ((x4 + 1).toNatClampNeg)) (scX g ((x4 + 2).toNatClampNeg)) M := ⟨a1, a2⟩
  generalize wOutI 1 0 (F_11_soon_0 (scX g ((x4 + 1).toNatClampNeg)) (scX g ((x4 + 2).toNatClampNeg)) M) = z at *
  obtain ⟨x5, M2⟩ := z
  rw [P__law__1040, F__law__1040]
  have a3' : P_12_soon_0 (scX g ((x4 + 1).toNatClampNeg)) (scX g ((x4 + 2).toNatClampNeg)) M2 := a3
  try dsimp only at a4 a5 a6 a7 ⊢
  generalize F_12_soon_0 (scX g ((x4 + 1).toNatClampNeg)) (scX g ((x4 + 2).toNatClampNeg)) M2 = y at *
  obtain ⟨v, M3⟩ := y
  have t : F_12_thrown_0 M3 = x5 := a4
  obtain ⟨s1, s2⟩ := st d' M3 a6 a7
  have c0 : x5 = 0 → lg_cmp (rl M3 1557 0) v.toInt64 = 0 := fun c => by
    have a5' : rl M3 1557 0 = v.toInt64 := a5 c
    rw [a5']; exact cmp0 _
  refine ⟨⟨v1, v2, a0, v1, v2, a3', ?_⟩, ?_⟩
  · rw [P__law__1058, cl0]
    exact ⟨fun _ => ⟨fun _ => s1, fun c => ⟨fun _ => s1, fun y => absurd (c0 c) y⟩⟩, fun y => absurd t y⟩
  · rw [F__law__1058, cl0, if_pos t]
    by_cases c : x5 = 0
    · rw [if_pos c, if_pos (c0 c)]; exact s2
    · rw [if_neg c]; exact s2
theorem l_within {g : Gl} {k23 : Int32 → Mem → Oc} {pk23 : Int32 → Mem → Prop} {Q : Oc → Prop} {d : ID} {M : Mem} {x4 : Int32} (hr : RI d M) (hc : CI d M) (hv : ∀ k, 1 ≤ k → k ≤ 6 → vp_in (x4 + nI k) (g.2.2.2 5000001)) (st : ∀ d M, RI d M → CI d M → pk23 (x4 + 7) M ∧ Q (k23 (x4 + 7) M)) : P__law__1091 g pk23 x4 M ∧ Q (F__law__1091 g k23 x4 M) := by
  have v1 : vp_in (x4 + 1) (g.2.2.2 5000001) := hv 1 (by omega) (by omega)
  have v2 : vp_in (x4 + 2) (g.2.2.2 5000001) := hv 2 (by omega) (by omega)
  obtain ⟨a1, a2, a3, a4, a5, d', a6, a7⟩ := QC.use (a := 1) (b := 2) (n := true) (e := true) (F := F_12_within_0 (scX g ((x4 + 1).toNatClampNeg)) (scX g ((x4 + 2).toNatClampNeg))) (P := P_12_within_0 (scX g ((x4 + 1).toNatClampNeg)) (scX g ((x4 + 2).toNatClampNeg))) (G := F_11_within_0 (scX g ((x4 + 1).toNatClampNeg)) (scX g ((x4 + 2).toNatClampNeg))) (PG := P_11_within_0 (scX g ((x4 + 1).toNatClampNeg)) (scX g ((x4 + 2).toNatClampNeg))) (d := d) (M := M) (by decide) (by decide) (fun Mr Mc h1 h2 => q_within (scX g ((x4 + 1).toNatClampNeg)) (scX g ((x4 + 2).toNatClampNeg)) h1 h2) hr hc
  rw [P__law__1091, F__law__1091, show W_within (scX g ((x4 + 1).toNatClampNeg)) (scX g ((x4 + 2).toNatClampNeg)) M = wOutI 1 2 (F_11_within_0 (scX g ((x4 + 1).toNatClampNeg)) (scX g ((x4 + 2).toNatClampNeg)) M) from rfl]
  have a0 : Q_within (scX g ((x4 + 1).toNatClampNeg)) (scX g ((x4 + 2).toNatClampNeg)) M := ⟨a1, a2⟩
  generalize wOutI 1 2 (F_11_within_0 (scX g ((x4 + 1).toNatClampNeg)) (scX g ((x4 + 2).toNatClampNeg)) M) = z at *
  obtain ⟨x5, M2⟩ := z
  rw [P__law__1108, F__law__1108]
  have a3' : P_12_within_0 (scX g ((x4 + 1).toNatClampNeg)) (scX g ((x4 + 2).toNatClampNeg)) M2 := a3
  try dsimp only at a4 a5 a6 a7 ⊢
  generalize F_12_within_0 (scX g ((x4 + 1).toNatClampNeg)) (scX g ((x4 + 2).toNatClampNeg)) M2 = y at *
  obtain ⟨v, M3⟩ := y
  have t : F_12_thrown_0 M3 = x5 := a4
  obtain ⟨s1, s2⟩ := st d' M3 a6 a7
  have c0 : x5 = 0 → lg_cmp (rl M3 1557 0) v.toInt64 = 0 := fun c => by
    have a5' : rl M3 1557 0 = v.toInt64 := a5 c
    rw [a5']; exact cmp0 _
  refine ⟨⟨v1, v2, a0, v1, v2, a3', ?_⟩, ?_⟩
  · rw [P__law__1126, cl0]
    exact ⟨fun _ => ⟨fun _ => s1, fun c => ⟨fun _ => s1, fun y => absurd (c0 c) y⟩⟩, fun y => absurd t y⟩
  · rw [F__law__1126, cl0, if_pos t]
    by_cases c : x5 = 0
    · rw [if_pos c, if_pos (c0 c)]; exact s2
    · rw [if_neg c]; exact s2
theorem l_out {g : Gl} {k23 : Int32 → Mem → Oc} {pk23 : Int32 → Mem → Prop} {Q : Oc → Prop} {d : ID} {M : Mem} {x4 : Int32} (hr : RI d M) (hc : CI d M) (hv : ∀ k, 1 ≤ k → k ≤ 6 → vp_in (x4 + nI k) (g.2.2.2 5000001)) (st : ∀ d M, RI d M → CI d M → pk23 (x4 + 7) M ∧ Q (k23 (x4 + 7) M)) : P__law__1159 g pk23 x4 M ∧ Q (F__law__1159 g k23 x4 M) := by
  have v1 : vp_in (x4 + 1) (g.2.2.2 5000001) := hv 1 (by omega) (by omega)
  obtain ⟨a1, a2, a3, a4, a5, d', a6, a7⟩ := QC.use (a := 1) (b := 0) (n := true) (e := false) (F := F_12_out_0 (scX g ((x4 + 1).toNatClampNeg))) (P := P_12_out_0 (scX g ((x4 + 1).toNatClampNeg))) (G := F_11_out_0 (scX g ((x4 + 1).toNatClampNeg))) (PG := P_11_out_0 (scX g ((x4 + 1).toNatClampNeg))) (d := d) (M := M) (by decide) (by decide) (fun Mr Mc h1 h2 => q_out (scX g ((x4 + 1).toNatClampNeg)) h1 h2) hr hc
  rw [P__law__1159, F__law__1159, show W_out (scX g ((x4 + 1).toNatClampNeg)) M = wOutI 1 0 (F_11_out_0 (scX g ((x4 + 1).toNatClampNeg)) M) from rfl]
  have a0 : Q_out (scX g ((x4 + 1).toNatClampNeg)) M := ⟨a1, a2⟩
  generalize wOutI 1 0 (F_11_out_0 (scX g ((x4 + 1).toNatClampNeg)) M) = z at *
  obtain ⟨x5, M2⟩ := z
  rw [P__law__1170, F__law__1170]
  have a3' : P_12_out_0 (scX g ((x4 + 1).toNatClampNeg)) M2 := a3
  try dsimp only at a4 a5 a6 a7 ⊢
  generalize F_12_out_0 (scX g ((x4 + 1).toNatClampNeg)) M2 = y at *
  obtain ⟨v, M3⟩ := y
  have t : F_12_thrown_0 M3 = x5 := a4
  obtain ⟨s1, s2⟩ := st d' M3 a6 a7
  have c0 : x5 = 0 → lg_cmp (rl M3 1557 0) v.toInt64 = 0 := fun c => by
    have a5' : rl M3 1557 0 = v.toInt64 := a5 c
    rw [a5']; exact cmp0 _
  refine ⟨⟨v1, a0, v1, a3', ?_⟩, ?_⟩
  · rw [P__law__1182, cl0]
    exact ⟨fun _ => ⟨fun _ => s1, fun c => ⟨fun _ => s1, fun y => absurd (c0 c) y⟩⟩, fun y => absurd t y⟩
  · rw [F__law__1182, cl0, if_pos t]
    by_cases c : x5 = 0
    · rw [if_pos c, if_pos (c0 c)]; exact s2
    · rw [if_neg c]; exact s2
theorem l_string {g : Gl} {k23 : Int32 → Mem → Oc} {pk23 : Int32 → Mem → Prop} {Q : Oc → Prop} {d : ID} {M : Mem} {x4 : Int32} (hr : RI d M) (hc : CI d M) (hv : ∀ k, 1 ≤ k → k ≤ 6 → vp_in (x4 + nI k) (g.2.2.2 5000001)) (st : ∀ d M, RI d M → CI d M → pk23 (x4 + 7) M ∧ Q (k23 (x4 + 7) M)) : P__law__1215 g pk23 x4 M ∧ Q (F__law__1215 g k23 x4 M) := by
  have v1 : vp_in (x4 + 1) (g.2.2.2 5000001) := hv 1 (by omega) (by omega)
  obtain ⟨a1, a2, a3, a4, a5, d', a6, a7⟩ := QC.use (a := 1) (b := 0) (n := true) (e := false) (F := F_12_string_0 (scX g ((x4 + 1).toNatClampNeg))) (P := P_12_string_0 (scX g ((x4 + 1).toNatClampNeg))) (G := F_11_string_0 (scX g ((x4 + 1).toNatClampNeg))) (PG := P_11_string_0 (scX g ((x4 + 1).toNatClampNeg))) (d := d) (M := M) (by decide) (by decide) (fun Mr Mc h1 h2 => q_string (scX g ((x4 + 1).toNatClampNeg)) h1 h2) hr hc
  rw [P__law__1215, F__law__1215, show W_string (scX g ((x4 + 1).toNatClampNeg)) M = wOutI 1 0 (F_11_string_0 (scX g ((x4 + 1).toNatClampNeg)) M) from rfl]
  have a0 : Q_string (scX g ((x4 + 1).toNatClampNeg)) M := ⟨a1, a2⟩
  generalize wOutI 1 0 (F_11_string_0 (scX g ((x4 + 1).toNatClampNeg)) M) = z at *
  obtain ⟨x5, M2⟩ := z
  rw [P__law__1226, F__law__1226]
  have a3' : P_12_string_0 (scX g ((x4 + 1).toNatClampNeg)) M2 := a3
  try dsimp only at a4 a5 a6 a7 ⊢
  generalize F_12_string_0 (scX g ((x4 + 1).toNatClampNeg)) M2 = y at *
  obtain ⟨v, M3⟩ := y
  have t : F_12_thrown_0 M3 = x5 := a4
  obtain ⟨s1, s2⟩ := st d' M3 a6 a7
  have c0 : x5 = 0 → lg_cmp (rl M3 1557 0) v.toInt64 = 0 := fun c => by
    have a5' : rl M3 1557 0 = v.toInt64 := a5 c
    rw [a5']; exact cmp0 _
  refine ⟨⟨v1, a0, v1, a3', ?_⟩, ?_⟩
  · rw [P__law__1238, cl0]
    exact ⟨fun _ => ⟨fun _ => s1, fun c => ⟨fun _ => s1, fun y => absurd (c0 c) y⟩⟩, fun y => absurd t y⟩
  · rw [F__law__1238, cl0, if_pos t]
    by_cases c : x5 = 0
    · rw [if_pos c, if_pos (c0 c)]; exact s2
    · rw [if_neg c]; exact s2
theorem l_longest {g : Gl} {k23 : Int32 → Mem → Oc} {pk23 : Int32 → Mem → Prop} {Q : Oc → Prop} {d : ID} {M : Mem} {x4 : Int32} (hr : RI d M) (hc : CI d M) (hv : ∀ k, 1 ≤ k → k ≤ 6 → vp_in (x4 + nI k) (g.2.2.2 5000001)) (st : ∀ d M, RI d M → CI d M → pk23 (x4 + 7) M ∧ Q (k23 (x4 + 7) M)) : P__law__1271 g pk23 x4 M ∧ Q (F__law__1271 g k23 x4 M) := by
  have v1 : vp_in (x4 + 1) (g.2.2.2 5000001) := hv 1 (by omega) (by omega)
  obtain ⟨a1, a2, a3, a4, a5, d', a6, a7⟩ := QC.use (a := 0) (b := 1) (n := false) (e := true) (F := F_12_longest_0 (scX g ((x4 + 1).toNatClampNeg))) (P := P_12_longest_0 (scX g ((x4 + 1).toNatClampNeg))) (G := F_11_longest_0 (scX g ((x4 + 1).toNatClampNeg))) (PG := P_11_longest_0 (scX g ((x4 + 1).toNatClampNeg))) (d := d) (M := M) (by decide) (by decide) (fun Mr Mc h1 h2 => q_longest (scX g ((x4 + 1).toNatClampNeg)) h1 h2) hr hc
  rw [P__law__1271, F__law__1271, show W_longest (scX g ((x4 + 1).toNatClampNeg)) M = wOutI 0 1 (F_11_longest_0 (scX g ((x4 + 1).toNatClampNeg)) M) from rfl]
  have a0 : Q_longest (scX g ((x4 + 1).toNatClampNeg)) M := ⟨a1, a2⟩
  generalize wOutI 0 1 (F_11_longest_0 (scX g ((x4 + 1).toNatClampNeg)) M) = z at *
  obtain ⟨x5, M2⟩ := z
  rw [P__law__1282, F__law__1282]
  have a3' : P_12_longest_0 (scX g ((x4 + 1).toNatClampNeg)) M2 := a3
  try dsimp only at a4 a5 a6 a7 ⊢
  generalize F_12_longest_0 (scX g ((x4 + 1).toNatClampNeg)) M2 = y at *
  obtain ⟨v, M3⟩ := y
  have t : F_12_thrown_0 M3 = x5 := a4
  obtain ⟨s1, s2⟩ := st d' M3 a6 a7
  have c0 : x5 = 0 → lg_cmp (rl M3 1557 0) v.toInt64 = 0 := fun c => by
    have a5' : rl M3 1557 0 = v.toInt64 := a5 c
    rw [a5']; exact cmp0 _
  refine ⟨⟨v1, a0, v1, a3', ?_⟩, ?_⟩
  · rw [P__law__1294, cl0]
    exact ⟨fun _ => ⟨fun _ => s1, fun c => ⟨fun _ => s1, fun y => absurd (c0 c) y⟩⟩, fun y => absurd t y⟩
  · rw [F__law__1294, cl0, if_pos t]
    by_cases c : x5 = 0
    · rw [if_pos c, if_pos (c0 c)]; exact s2
    · rw [if_neg c]; exact s2
theorem l_lost {g : Gl} {k23 : Int32 → Mem → Oc} {pk23 : Int32 → Mem → Prop} {Q : Oc → Prop} {d : ID} {M : Mem} {x4 : Int32} (hr : RI d M) (hc : CI d M) (hv : ∀ k, 1 ≤ k → k ≤ 6 → vp_in (x4 + nI k) (g.2.2.2 5000001)) (st : ∀ d M, RI d M → CI d M → pk23 (x4 + 7) M ∧ Q (k23 (x4 + 7) M)) : P__law__1327 g pk23 x4 M ∧ Q (F__law__1327 g k23 x4 M) := by
  have v1 : vp_in (x4 + 1) (g.2.2.2 5000001) := hv 1 (by omega) (by omega)
  obtain ⟨a1, a2, a3, a4, a5, d', a6, a7⟩ := QC.use (a := 0) (b := 1) (n := false) (e := true) (F := F_12_lost_0 (scX g ((x4 + 1).toNatClampNeg))) (P := P_12_lost_0 (scX g ((x4 + 1).toNatClampNeg))) (G := F_11_lost_0 (scX g ((x4 + 1).toNatClampNeg))) (PG := P_11_lost_0 (scX g ((x4 + 1).toNatClampNeg))) (d := d) (M := M) (by decide) (by decide) (fun Mr Mc h1 h2 => q_lost (scX g ((x4 + 1).toNatClampNeg)) h1 h2) hr hc
  rw [P__law__1327, F__law__1327, show W_lost (scX g ((x4 + 1).toNatClampNeg)) M = wOutI 0 1 (F_11_lost_0 (scX g ((x4 + 1).toNatClampNeg)) M) from rfl]
  have a0 : Q_lost (scX g ((x4 + 1).toNatClampNeg)) M := ⟨a1, a2⟩
  generalize wOutI 0 1 (F_11_lost_0 (scX g ((x4 + 1).toNatClampNeg)) M) = z at *
  obtain ⟨x5, M2⟩ := z
  rw [P__law__1338, F__law__1338]
  have a3' : P_12_lost_0 (scX g ((x4 + 1).toNatClampNeg)) M2 := a3
  try dsimp only at a4 a5 a6 a7 ⊢
  generalize F_12_lost_0 (scX g ((x4 + 1).toNatClampNeg)) M2 = y at *
  obtain ⟨v, M3⟩ := y
  have t : F_12_thrown_0 M3 = x5 := a4
  obtain ⟨s1, s2⟩ := st d' M3 a6 a7
  have c0 : x5 = 0 → lg_cmp (rl M3 1557 0) v.toInt64 = 0 := fun c => by
    have a5' : rl M3 1557 0 = v.toInt64 := a5 c
    rw [a5']; exact cmp0 _
  refine ⟨⟨v1, a0, v1, a3', ?_⟩, ?_⟩
  · rw [P__law__1350, cl0]
    exact ⟨fun _ => ⟨fun _ => s1, fun c => ⟨fun _ => s1, fun y => absurd (c0 c) y⟩⟩, fun y => absurd t y⟩
  · rw [F__law__1350, cl0, if_pos t]
    by_cases c : x5 = 0
    · rw [if_pos c, if_pos (c0 c)]; exact s2
    · rw [if_neg c]; exact s2
theorem l_cuts {g : Gl} {k23 : Int32 → Mem → Oc} {pk23 : Int32 → Mem → Prop} {Q : Oc → Prop} {d : ID} {M : Mem} {x4 : Int32} (hr : RI d M) (hc : CI d M) (hv : ∀ k, 1 ≤ k → k ≤ 6 → vp_in (x4 + nI k) (g.2.2.2 5000001)) (st : ∀ d M, RI d M → CI d M → pk23 (x4 + 7) M ∧ Q (k23 (x4 + 7) M)) : P__law__1383 g pk23 x4 M ∧ Q (F__law__1383 g k23 x4 M) := by
  obtain ⟨a1, a2, a3, d', a4, a5⟩ := QD.use (F := (F_12_cuts_0)) (G := (F_11_cuts_0)) (P := (P_12_cuts_0)) (PG := (P_11_cuts_0)) (d := d) (M := M) (fun Mr Mc h1 h2 => q_cuts h1 h2) hr hc
  obtain ⟨s1, s2⟩ := st d' _ a4 a5
  rw [P__law__1383, F__law__1383]
  rw [P__law__1387, F__law__1387]
  have e := a3.symm
  try dsimp only at a2 e s1 s2 ⊢
  refine ⟨⟨a1, a2, ?_⟩, ?_⟩
  · exact ⟨fun _ => s1, fun y => absurd e y⟩
  · rw [F__law__1391, if_pos e]; exact s2
theorem l_wing {g : Gl} {k23 : Int32 → Mem → Oc} {pk23 : Int32 → Mem → Prop} {Q : Oc → Prop} {d : ID} {M : Mem} {x4 : Int32} (hr : RI d M) (hc : CI d M) (hv : ∀ k, 1 ≤ k → k ≤ 6 → vp_in (x4 + nI k) (g.2.2.2 5000001)) (st : ∀ d M, RI d M → CI d M → pk23 (x4 + 7) M ∧ Q (k23 (x4 + 7) M)) : P__law__1396 g pk23 x4 M ∧ Q (F__law__1396 g k23 x4 M) := by
  have v1 : vp_in (x4 + 1) (g.2.2.2 5000001) := hv 1 (by omega) (by omega)
  obtain ⟨a1, a2, a3, a4, a5, d', a6, a7⟩ := QC.use (a := 1) (b := 0) (n := true) (e := false) (F := F_12_wing_0 (scX g ((x4 + 1).toNatClampNeg))) (P := P_12_wing_0 (scX g ((x4 + 1).toNatClampNeg))) (G := F_11_wing_0 (scX g ((x4 + 1).toNatClampNeg))) (PG := P_11_wing_0 (scX g ((x4 + 1).toNatClampNeg))) (d := d) (M := M) (by decide) (by decide) (fun Mr Mc h1 h2 => q_wing (scX g ((x4 + 1).toNatClampNeg)) h1 h2) hr hc
  rw [P__law__1396, F__law__1396, show W_wing (scX g ((x4 + 1).toNatClampNeg)) M = wOutI 1 0 (F_11_wing_0 (scX g ((x4 + 1).toNatClampNeg)) M) from rfl]
  have a0 : Q_wing (scX g ((x4 + 1).toNatClampNeg)) M := ⟨a1, a2⟩
  generalize wOutI 1 0 (F_11_wing_0 (scX g ((x4 + 1).toNatClampNeg)) M) = z at *
  obtain ⟨x5, M2⟩ := z
  rw [P__law__1407, F__law__1407]
  have a3' : P_12_wing_0 (scX g ((x4 + 1).toNatClampNeg)) M2 := a3
  try dsimp only at a4 a5 a6 a7 ⊢
  generalize F_12_wing_0 (scX g ((x4 + 1).toNatClampNeg)) M2 = y at *
  obtain ⟨v, M3⟩ := y
  have t : F_12_thrown_0 M3 = x5 := a4
  obtain ⟨s1, s2⟩ := st d' M3 a6 a7
  have c0 : x5 = 0 → lg_cmp (rl M3 1557 0) v.toInt64 = 0 := fun c => by
    have a5' : rl M3 1557 0 = v.toInt64 := a5 c
    rw [a5']; exact cmp0 _
  refine ⟨⟨v1, a0, v1, a3', ?_⟩, ?_⟩
  · rw [P__law__1419, cl0]
    exact ⟨fun _ => ⟨fun _ => s1, fun c => ⟨fun _ => s1, fun y => absurd (c0 c) y⟩⟩, fun y => absurd t y⟩
  · rw [F__law__1419, cl0, if_pos t]
    by_cases c : x5 = 0
    · rw [if_pos c, if_pos (c0 c)]; exact s2
    · rw [if_neg c]; exact s2
theorem l_round {g : Gl} {k23 : Int32 → Mem → Oc} {pk23 : Int32 → Mem → Prop} {Q : Oc → Prop} {d : ID} {M : Mem} {x4 : Int32} (hr : RI d M) (hc : CI d M) (hv : ∀ k, 1 ≤ k → k ≤ 6 → vp_in (x4 + nI k) (g.2.2.2 5000001)) (st : ∀ d M, RI d M → CI d M → pk23 (x4 + 7) M ∧ Q (k23 (x4 + 7) M)) : P__law__1452 g pk23 x4 M ∧ Q (F__law__1452 g k23 x4 M) := by
  have v1 : vp_in (x4 + 1) (g.2.2.2 5000001) := hv 1 (by omega) (by omega)
  obtain ⟨a1, a2, a3, a4, a5, d', a6, a7⟩ := QC.use (a := 1) (b := 0) (n := true) (e := false) (F := F_12_round_0 (scX g ((x4 + 1).toNatClampNeg))) (P := P_12_round_0 (scX g ((x4 + 1).toNatClampNeg))) (G := F_11_round_0 (scX g ((x4 + 1).toNatClampNeg))) (PG := P_11_round_0 (scX g ((x4 + 1).toNatClampNeg))) (d := d) (M := M) (by decide) (by decide) (fun Mr Mc h1 h2 => q_round (scX g ((x4 + 1).toNatClampNeg)) h1 h2) hr hc
  rw [P__law__1452, F__law__1452, show W_round (scX g ((x4 + 1).toNatClampNeg)) M = wOutI 1 0 (F_11_round_0 (scX g ((x4 + 1).toNatClampNeg)) M) from rfl]
  have a0 : Q_round (scX g ((x4 + 1).toNatClampNeg)) M := ⟨a1, a2⟩
  generalize wOutI 1 0 (F_11_round_0 (scX g ((x4 + 1).toNatClampNeg)) M) = z at *
  obtain ⟨x5, M2⟩ := z
  rw [P__law__1463, F__law__1463]
  have a3' : P_12_round_0 (scX g ((x4 + 1).toNatClampNeg)) M2 := a3
  try dsimp only at a4 a5 a6 a7 ⊢
  generalize F_12_round_0 (scX g ((x4 + 1).toNatClampNeg)) M2 = y at *
  obtain ⟨v, M3⟩ := y
  have t : F_12_thrown_0 M3 = x5 := a4
  obtain ⟨s1, s2⟩ := st d' M3 a6 a7
  have c0 : x5 = 0 → lg_cmp (rl M3 1557 0) v.toInt64 = 0 := fun c => by
    have a5' : rl M3 1557 0 = v.toInt64 := a5 c
    rw [a5']; exact cmp0 _
  refine ⟨⟨v1, a0, v1, a3', ?_⟩, ?_⟩
  · rw [P__law__1475, cl0]
    exact ⟨fun _ => ⟨fun _ => s1, fun c => ⟨fun _ => s1, fun y => absurd (c0 c) y⟩⟩, fun y => absurd t y⟩
  · rw [F__law__1475, cl0, if_pos t]
    by_cases c : x5 = 0
    · rw [if_pos c, if_pos (c0 c)]; exact s2
    · rw [if_neg c]; exact s2
theorem l_last {g : Gl} {k23 : Int32 → Mem → Oc} {pk23 : Int32 → Mem → Prop} {Q : Oc → Prop} {d : ID} {M : Mem} {x4 : Int32} (hr : RI d M) (hc : CI d M) (hv : ∀ k, 1 ≤ k → k ≤ 6 → vp_in (x4 + nI k) (g.2.2.2 5000001)) (st : ∀ d M, RI d M → CI d M → pk23 (x4 + 7) M ∧ Q (k23 (x4 + 7) M)) : P__law__1508 g pk23 x4 M ∧ Q (F__law__1508 g k23 x4 M) := by
  have v1 : vp_in (x4 + 1) (g.2.2.2 5000001) := hv 1 (by omega) (by omega)
  obtain ⟨a1, a2, a3, a4, a5, d', a6, a7⟩ := QC.use (a := 1) (b := 0) (n := true) (e := false) (F := F_12_last_0 (scX g ((x4 + 1).toNatClampNeg))) (P := P_12_last_0 (scX g ((x4 + 1).toNatClampNeg))) (G := F_11_last_0 (scX g ((x4 + 1).toNatClampNeg))) (PG := P_11_last_0 (scX g ((x4 + 1).toNatClampNeg))) (d := d) (M := M) (by decide) (by decide) (fun Mr Mc h1 h2 => q_last (scX g ((x4 + 1).toNatClampNeg)) h1 h2) hr hc
  rw [P__law__1508, F__law__1508, show W_last (scX g ((x4 + 1).toNatClampNeg)) M = wOutI 1 0 (F_11_last_0 (scX g ((x4 + 1).toNatClampNeg)) M) from rfl]
  have a0 : Q_last (scX g ((x4 + 1).toNatClampNeg)) M := ⟨a1, a2⟩
  generalize wOutI 1 0 (F_11_last_0 (scX g ((x4 + 1).toNatClampNeg)) M) = z at *
  obtain ⟨x5, M2⟩ := z
  rw [P__law__1519, F__law__1519]
  have a3' : P_12_last_0 (scX g ((x4 + 1).toNatClampNeg)) M2 := a3
  try dsimp only at a4 a5 a6 a7 ⊢
  generalize F_12_last_0 (scX g ((x4 + 1).toNatClampNeg)) M2 = y at *
  obtain ⟨v, M3⟩ := y
  have t : F_12_thrown_0 M3 = x5 := a4
  obtain ⟨s1, s2⟩ := st d' M3 a6 a7
  have c0 : x5 = 0 → lg_cmp (rl M3 1557 0) v.toInt64 = 0 := fun c => by
    have a5' : rl M3 1557 0 = v.toInt64 := a5 c
    rw [a5']; exact cmp0 _
  refine ⟨⟨v1, a0, v1, a3', ?_⟩, ?_⟩
  · rw [P__law__1531, cl0]
    exact ⟨fun _ => ⟨fun _ => s1, fun c => ⟨fun _ => s1, fun y => absurd (c0 c) y⟩⟩, fun y => absurd t y⟩
  · rw [F__law__1531, cl0, if_pos t]
    by_cases c : x5 = 0
    · rw [if_pos c, if_pos (c0 c)]; exact s2
    · rw [if_neg c]; exact s2
theorem l_meet {g : Gl} {k23 : Int32 → Mem → Oc} {pk23 : Int32 → Mem → Prop} {Q : Oc → Prop} {d : ID} {M : Mem} {x4 : Int32} (hr : RI d M) (hc : CI d M) (hv : ∀ k, 1 ≤ k → k ≤ 6 → vp_in (x4 + nI k) (g.2.2.2 5000001)) (st : ∀ d M, RI d M → CI d M → pk23 (x4 + 7) M ∧ Q (k23 (x4 + 7) M)) : P__law__1564 g pk23 x4 M ∧ Q (F__law__1564 g k23 x4 M) := by
  have v1 : vp_in (x4 + 1) (g.2.2.2 5000001) := hv 1 (by omega) (by omega)
  have v2 : vp_in (x4 + 2) (g.2.2.2 5000001) := hv 2 (by omega) (by omega)
  have v3 : vp_in (x4 + 3) (g.2.2.2 5000001) := hv 3 (by omega) (by omega)
  obtain ⟨a1, a2, a3, a4, a5, d', a6, a7⟩ := QC.use (a := 1) (b := 2) (n := true) (e := true) (F := F_12_meet_0 (scX g ((x4 + 1).toNatClampNeg)) (scX g ((x4 + 2).toNatClampNeg)) (scX g ((x4 + 3).toNatClampNeg))) (P := P_12_meet_0 (scX g ((x4 + 1).toNatClampNeg)) (scX g ((x4 + 2).toNatClampNeg)) (scX g ((x4 + 3).toNatClampNeg))) (G := F_11_meet_0 (scX g ((x4 + 1).toNatClampNeg)) (scX g ((x4 + 2).toNatClampNeg)) (scX g ((x4 + 3).toNatClampNeg))) (PG := P_11_meet_0 (scX g ((x4 + 1).toNatClampNeg)) (scX g ((x4 + 2).toNatClampNeg)) (scX g ((x4 + 3).toNatClampNeg))) (d := d) (M := M) (by decide) (by decide) (fun Mr Mc h1 h2 => q_meet (scX g ((x4 + 1).toNatClampNeg)) (scX g ((x4 + 2).toNatClampNeg)) (scX g ((x4 + 3).toNatClampNeg)) h1 h2) hr hc
  rw [P__law__1564, F__law__1564, show W_meet (scX g ((x4 + 1).toNatClampNeg)) (scX g ((x4 + 2).toNatClampNeg)) (scX g ((x4 + 3).toNatClampNeg)) M = wOutI 1 2 (F_11_meet_0 (scX g ((x4 + 1).toNatClampNeg)) (scX g ((x4 + 2).toNatClampNeg)) (scX g ((x4 + 3).toNatClampNeg)) M) from rfl]
  have a0 : Q_meet (scX g ((x4 + 1).toNatClampNeg)) (scX g ((x4 + 2).toNatClampNeg)) (scX g ((x4 + 3).toNatClampNeg)) M := ⟨a1, a2⟩
  generalize wOutI 1 2 (F_11_meet_0 (scX g ((x4 + 1).toNatClampNeg)) (scX g ((x4 + 2).toNatClampNeg)) (scX g ((x4 + 3).toNatClampNeg)) M) = z at *
  obtain ⟨x5, M2⟩ := z
  rw [P__law__1587, F__law__1587]
  have a3' : P_12_meet_0 (scX g ((x4 + 1).toNatClampNeg)) (scX g ((x4 + 2).toNatClampNeg)) (scX g ((x4 + 3).toNatClampNeg)) M2 := a3
  try dsimp only at a4 a5 a6 a7 ⊢
  generalize F_12_meet_0 (scX g ((x4 + 1).toNatClampNeg)) (scX g ((x4 + 2).toNatClampNeg)) (scX g ((x4 + 3).toNatClampNeg)) M2 = y at *
  obtain ⟨v, M3⟩ := y
  have t : F_12_thrown_0 M3 = x5 := a4
  obtain ⟨s1, s2⟩ := st d' M3 a6 a7
  have c0 : x5 = 0 → lg_cmp (rl M3 1557 0) v.toInt64 = 0 := fun c => by
    have a5' : rl M3 1557 0 = v.toInt64 := a5 c
    rw [a5']; exact cmp0 _
  refine ⟨⟨v1, v2, v3, a0, v1, v2, v3, a3', ?_⟩, ?_⟩
  · rw [P__law__1611, cl0]
    exact ⟨fun _ => ⟨fun _ => s1, fun c => ⟨fun _ => s1, fun y => absurd (c0 c) y⟩⟩, fun y => absurd t y⟩
  · rw [F__law__1611, cl0, if_pos t]
    by_cases c : x5 = 0
    · rw [if_pos c, if_pos (c0 c)]; exact s2
    · rw [if_neg c]; exact s2
theorem l_parted {g : Gl} {k23 : Int32 → Mem → Oc} {pk23 : Int32 → Mem → Prop} {Q : Oc → Prop} {d : ID} {M : Mem} {x4 : Int32} (hr : RI d M) (hc : CI d M) (hv : ∀ k, 1 ≤ k → k ≤ 6 → vp_in (x4 + nI k) (g.2.2.2 5000001)) (st : ∀ d M, RI d M → CI d M → pk23 (x4 + 7) M ∧ Q (k23 (x4 + 7) M)) : P__law__1644 g pk23 x4 M ∧ Q (F__law__1644 g k23 x4 M) := by
  have v1 : vp_in (x4 + 1) (g.2.2.2 5000001) := hv 1 (by omega) (by omega)
  have v2 : vp_in (x4 + 2) (g.2.2.2 5000001) := hv 2 (by omega) (by omega)
  have v3 : vp_in (x4 + 3) (g.2.2.2 5000001) := hv 3 (by omega) (by omega)
  obtain ⟨a1, a2, a3, a4, a5, d', a6, a7⟩ := QC.use (a := 1) (b := 2) (n := true) (e := true) (F := F_12_parted_0 (scX g ((x4 + 1).toNatClampNeg)) (scX g ((x4 + 2).toNatClampNeg)) (scX g ((x4 + 3).toNatClampNeg))) (P := P_12_parted_0 (scX g ((x4 + 1).toNatClampNeg)) (scX g ((x4 + 2).toNatClampNeg)) (scX g ((x4 + 3).toNatClampNeg))) (G := F_11_parted_0 (scX g ((x4 + 1).toNatClampNeg)) (scX g ((x4 + 2).toNatClampNeg)) (scX g ((x4 + 3).toNatClampNeg))) (PG := P_11_parted_0 (scX g ((x4 + 1).toNatClampNeg)) (scX g ((x4 + 2).toNatClampNeg)) (scX g ((x4 + 3).toNatClampNeg))) (d := d) (M := M) (by decide) (by decide) (fun Mr Mc h1 h2 => q_parted (scX g ((x4 + 1).toNatClampNeg)) (scX g ((x4 + 2).toNatClampNeg)) (scX g ((x4 + 3).toNatClampNeg)) h1 h2) hr hc
  rw [P__law__1644, F__law__1644, show W_parted (scX g ((x4 + 1).toNatClampNeg)) (scX g ((x4 + 2).toNatClampNeg)) (scX g ((x4 + 3).toNatClampNeg)) M = wOutI 1 2 (F_11_parted_0 (scX g ((x4 + 1).toNatClampNeg)) (scX g ((x4 + 2).toNatClampNeg)) (scX g ((x4 + 3).toNatClampNeg)) M) from rfl]
  have a0 : Q_parted (scX g ((x4 + 1).toNatClampNeg)) (scX g ((x4 + 2).toNatClampNeg)) (scX g ((x4 + 3).toNatClampNeg)) M := ⟨a1, a2⟩
  generalize wOutI 1 2 (F_11_parted_0 (scX g ((x4 + 1).toNatClampNeg)) (scX g ((x4 + 2).toNatClampNeg)) (scX g ((x4 + 3).toNatClampNeg)) M) = z at *
  obtain ⟨x5, M2⟩ := z
  rw [P__law__1667, F__law__1667]
  have a3' : P_12_parted_0 (scX g ((x4 + 1).toNatClampNeg)) (scX g ((x4 + 2).toNatClampNeg)) (scX g ((x4 + 3).toNatClampNeg)) M2 := a3
  try dsimp only at a4 a5 a6 a7 ⊢
  generalize F_12_parted_0 (scX g ((x4 + 1).toNatClampNeg)) (scX g ((x4 + 2).toNatClampNeg)) (scX g ((x4 + 3).toNatClampNeg)) M2 = y at *
  obtain ⟨v, M3⟩ := y
  have t : F_12_thrown_0 M3 = x5 := a4
  obtain ⟨s1, s2⟩ := st d' M3 a6 a7
  have c0 : x5 = 0 → lg_cmp (rl M3 1557 0) v.toInt64 = 0 := fun c => by
    have a5' : rl M3 1557 0 = v.toInt64 := a5 c
    rw [a5']; exact cmp0 _
  refine ⟨⟨v1, v2, v3, a0, v1, v2, v3, a3', ?_⟩, ?_⟩
  · rw [P__law__1691, cl0]
    exact ⟨fun _ => ⟨fun _ => s1, fun c => ⟨fun _ => s1, fun y => absurd (c0 c) y⟩⟩, fun y => absurd t y⟩
  · rw [F__law__1691, cl0, if_pos t]
    by_cases c : x5 = 0
    · rw [if_pos c, if_pos (c0 c)]; exact s2
    · rw [if_neg c]; exact s2
theorem l_quiet {g : Gl} {k23 : Int32 → Mem → Oc} {pk23 : Int32 → Mem → Prop} {Q : Oc → Prop} {d : ID} {M : Mem} {x4 : Int32} (hr : RI d M) (hc : CI d M) (hv : ∀ k, 1 ≤ k → k ≤ 6 → vp_in (x4 + nI k) (g.2.2.2 5000001)) (st : ∀ d M, RI d M → CI d M → pk23 (x4 + 7) M ∧ Q (k23 (x4 + 7) M)) : P__law__1724 g pk23 x4 M ∧ Q (F__law__1724 g k23 x4 M) := by
  have v1 : vp_in (x4 + 1) (g.2.2.2 5000001) := hv 1 (by omega) (by omega)
  have v2 : vp_in (x4 + 2) (g.2.2.2 5000001) := hv 2 (by omega) (by omega)
  have v3 : vp_in (x4 + 3) (g.2.2.2 5000001) := hv 3 (by omega) (by omega)
  obtain ⟨a1, a2, a3, a4, a5, d', a6, a7⟩ := QL.use (a := 1) (b := 2) (n := true) (e := true) (F := F_12_quiet_0 (scX g ((x4 + 1).toNatClampNeg)) (scX g ((x4 + 2).toNatClampNeg)) (scX g ((x4 + 3).toNatClampNeg))) (P := P_12_quiet_0 (scX g ((x4 + 1).toNatClampNeg)) (scX g ((x4 + 2).toNatClampNeg)) (scX g ((x4 + 3).toNatClampNeg))) (G := F_11_quiet_0 (scX g ((x4 + 1).toNatClampNeg)) (scX g ((x4 + 2).toNatClampNeg)) (scX g ((x4 + 3).toNatClampNeg))) (PG := P_11_quiet_0 (scX g ((x4 + 1).toNatClampNeg)) (scX g ((x4 + 2).toNatClampNeg)) (scX g ((x4 + 3).toNatClampNeg))) (d := d) (M := M) (by decide) (by decide) (fun Mr Mc h1 h2 => q_quiet (scX g ((x4 + 1).toNatClampNeg)) (scX g ((x4 + 2).toNatClampNeg)) (scX g ((x4 + 3).toNatClampNeg)) h1 h2) hr hc
  rw [P__law__1724, F__law__1724, show W_quiet (scX g ((x4 + 1).toNatClampNeg)) (scX g ((x4 + 2).toNatClampNeg)) (scX g ((x4 + 3).toNatClampNeg)) M = wOutL 1 2 (F_11_quiet_0 (scX g ((x4 + 1).toNatClampNeg)) (scX g ((x4 + 2).toNatClampNeg)) (scX g ((x4 + 3).toNatClampNeg)) M) from rfl]
  have a0 : Q_quiet (scX g ((x4 + 1).toNatClampNeg)) (scX g ((x4 + 2).toNatClampNeg)) (scX g ((x4 + 3).toNatClampNeg)) M := ⟨a1, a2⟩
  generalize wOutL 1 2 (F_11_quiet_0 (scX g ((x4 + 1).toNatClampNeg)) (scX g ((x4 + 2).toNatClampNeg)) (scX g ((x4 + 3).toNatClampNeg)) M) = z at *
  obtain ⟨x5, M2⟩ := z
  rw [P__law__1747, F__law__1747]
  have a3' : P_12_quiet_0 (scX g ((x4 + 1).toNatClampNeg)) (scX g ((x4 + 2).toNatClampNeg)) (scX g ((x4 + 3).toNatClampNeg)) M2 := a3
  try dsimp only at a4 a5 a6 a7 ⊢
  generalize F_12_quiet_0 (scX g ((x4 + 1).toNatClampNeg)) (scX g ((x4 + 2).toNatClampNeg)) (scX g ((x4 + 3).toNatClampNeg)) M2 = y at *
  obtain ⟨v, M3⟩ := y
  have t : F_12_thrown_0 M3 = x5 := a4
  obtain ⟨s1, s2⟩ := st d' M3 a6 a7
  have c0 : x5 = 0 → lg_cmp (rl M3 1557 0) v = 0 := fun c => by
    have a5' : rl M3 1557 0 = v := a5 c
    rw [a5']; exact cmp0 _
  refine ⟨⟨v1, v2, v3, a0, v1, v2, v3, a3', ?_⟩, ?_⟩
  · rw [P__law__1771, cl0]
    exact ⟨fun _ => ⟨fun _ => s1, fun c => ⟨fun _ => s1, fun y => absurd (c0 c) y⟩⟩, fun y => absurd t y⟩
  · rw [F__law__1771, cl0, if_pos t]
    by_cases c : x5 = 0
    · rw [if_pos c, if_pos (c0 c)]; exact s2
    · rw [if_neg c]; exact s2
theorem l_way {g : Gl} {k23 : Int32 → Mem → Oc} {pk23 : Int32 → Mem → Prop} {Q : Oc → Prop} {d : ID} {M : Mem} {x4 : Int32} (hr : RI d M) (hc : CI d M) (hv : ∀ k, 1 ≤ k → k ≤ 6 → vp_in (x4 + nI k) (g.2.2.2 5000001)) (st : ∀ d M, RI d M → CI d M → pk23 (x4 + 7) M ∧ Q (k23 (x4 + 7) M)) : P__law__1803 g pk23 x4 M ∧ Q (F__law__1803 g k23 x4 M) := by
  have v1 : vp_in (x4 + 1) (g.2.2.2 5000001) := hv 1 (by omega) (by omega)
  have v2 : vp_in (x4 + 2) (g.2.2.2 5000001) := hv 2 (by omega) (by omega)
  obtain ⟨a1, a2, a3, a4, a5, d', a6, a7⟩ := QC.use (a := 1) (b := 0) (n := true) (e := false) (F := F_12_way_0 (scX g ((x4 + 1).toNatClampNeg)) (scX g ((x4 + 2).toNatClampNeg))) (P := P_12_way_0 (scX g ((x4 + 1).toNatClampNeg)) (scX g ((x4 + 2).toNatClampNeg))) (G := F_11_way_0 (scX g ((x4 + 1).toNatClampNeg)) (scX g ((x4 + 2).toNatClampNeg))) (PG := P_11_way_0 (scX g ((x4 + 1).toNatClampNeg)) (scX g ((x4 + 2).toNatClampNeg))) (d := d) (M := M) (by decide) (by decide) (fun Mr Mc h1 h2 => q_way (scX g ((x4 + 1).toNatClampNeg)) (scX g ((x4 + 2).toNatClampNeg)) h1 h2) hr hc
  rw [P__law__1803, F__law__1803, show W_way (scX g ((x4 + 1).toNatClampNeg)) (scX g ((x4 + 2).toNatClampNeg)) M = wOutI 1 0 (F_11_way_0 (scX g ((x4 + 1).toNatClampNeg)) (scX g ((x4 + 2).toNatClampNeg)) M) from rfl]
  have a0 : Q_way (scX g ((x4 + 1).toNatClampNeg)) (scX g ((x4 + 2).toNatClampNeg)) M := ⟨a1, a2⟩
  generalize wOutI 1 0 (F_11_way_0 (scX g ((x4 + 1).toNatClampNeg)) (scX g ((x4 + 2).toNatClampNeg)) M) = z at *
  obtain ⟨x5, M2⟩ := z
  rw [P__law__1820, F__law__1820]
  have a3' : P_12_way_0 (scX g ((x4 + 1).toNatClampNeg)) (scX g ((x4 + 2).toNatClampNeg)) M2 := a3
  try dsimp only at a4 a5 a6 a7 ⊢
  generalize F_12_way_0 (scX g ((x4 + 1).toNatClampNeg)) (scX g ((x4 + 2).toNatClampNeg)) M2 = y at *
  obtain ⟨v, M3⟩ := y
  have t : F_12_thrown_0 M3 = x5 := a4
  obtain ⟨s1, s2⟩ := st d' M3 a6 a7
  have c0 : x5 = 0 → lg_cmp (rl M3 1557 0) v.toInt64 = 0 := fun c => by
    have a5' : rl M3 1557 0 = v.toInt64 := a5 c
    rw [a5']; exact cmp0 _
  refine ⟨⟨v1, v2, a0, v1, v2, a3', ?_⟩, ?_⟩
  · rw [P__law__1838, cl0]
    exact ⟨fun _ => ⟨fun _ => s1, fun c => ⟨fun _ => s1, fun y => absurd (c0 c) y⟩⟩, fun y => absurd t y⟩
  · rw [F__law__1838, cl0, if_pos t]
    by_cases c : x5 = 0
    · rw [if_pos c, if_pos (c0 c)]; exact s2
    · rw [if_neg c]; exact s2
theorem l_next {g : Gl} {k23 : Int32 → Mem → Oc} {pk23 : Int32 → Mem → Prop} {Q : Oc → Prop} {d : ID} {M : Mem} {x4 : Int32} (hr : RI d M) (hc : CI d M) (hv : ∀ k, 1 ≤ k → k ≤ 6 → vp_in (x4 + nI k) (g.2.2.2 5000001)) (st : ∀ d M, RI d M → CI d M → pk23 (x4 + 7) M ∧ Q (k23 (x4 + 7) M)) : P__law__1871 g pk23 x4 M ∧ Q (F__law__1871 g k23 x4 M) := by
  have v1 : vp_in (x4 + 1) (g.2.2.2 5000001) := hv 1 (by omega) (by omega)
  have v2 : vp_in (x4 + 2) (g.2.2.2 5000001) := hv 2 (by omega) (by omega)
  obtain ⟨a1, a2, a3, a4, a5, d', a6, a7⟩ := QC.use (a := 1) (b := 0) (n := true) (e := false) (F := F_12_next_0 (scX g ((x4 + 1).toNatClampNeg)) (scX g ((x4 + 2).toNatClampNeg))) (P := P_12_next_0 (scX g ((x4 + 1).toNatClampNeg)) (scX g ((x4 + 2).toNatClampNeg))) (G := F_11_next_0 (scX g ((x4 + 1).toNatClampNeg)) (scX g ((x4 + 2).toNatClampNeg))) (PG := P_11_next_0 (scX g ((x4 + 1).toNatClampNeg)) (scX g ((x4 + 2).toNatClampNeg))) (d := d) (M := M) (by decide) (by decide) (fun Mr Mc h1 h2 => q_next (scX g ((x4 + 1).toNatClampNeg)) (scX g ((x4 + 2).toNatClampNeg)) h1 h2) hr hc
  rw [P__law__1871, F__law__1871, show W_next (scX g ((x4 + 1).toNatClampNeg)) (scX g ((x4 + 2).toNatClampNeg)) M = wOutI 1 0 (F_11_next_0 (scX g ((x4 + 1).toNatClampNeg)) (scX g ((x4 + 2).toNatClampNeg)) M) from rfl]
  have a0 : Q_next (scX g ((x4 + 1).toNatClampNeg)) (scX g ((x4 + 2).toNatClampNeg)) M := ⟨a1, a2⟩
  generalize wOutI 1 0 (F_11_next_0 (scX g ((x4 + 1).toNatClampNeg)) (scX g ((x4 + 2).toNatClampNeg)) M) = z at *
  obtain ⟨x5, M2⟩ := z
  rw [P__law__1888, F__law__1888]
  have a3' : P_12_next_0 (scX g ((x4 + 1).toNatClampNeg)) (scX g ((x4 + 2).toNatClampNeg)) M2 := a3
  try dsimp only at a4 a5 a6 a7 ⊢
  generalize F_12_next_0 (scX g ((x4 + 1).toNatClampNeg)) (scX g ((x4 + 2).toNatClampNeg)) M2 = y at *
  obtain ⟨v, M3⟩ := y
  have t : F_12_thrown_0 M3 = x5 := a4
  obtain ⟨s1, s2⟩ := st d' M3 a6 a7
  have c0 : x5 = 0 → lg_cmp (rl M3 1557 0) v.toInt64 = 0 := fun c => by
    have a5' : rl M3 1557 0 = v.toInt64 := a5 c
    rw [a5']; exact cmp0 _
  refine ⟨⟨v1, v2, a0, v1, v2, a3', ?_⟩, ?_⟩
  · rw [P__law__1906, cl0]
    exact ⟨fun _ => ⟨fun _ => s1, fun c => ⟨fun _ => s1, fun y => absurd (c0 c) y⟩⟩, fun y => absurd t y⟩
  · rw [F__law__1906, cl0, if_pos t]
    by_cases c : x5 = 0
    · rw [if_pos c, if_pos (c0 c)]; exact s2
    · rw [if_neg c]; exact s2
theorem l_loop {g : Gl} {k23 : Int32 → Mem → Oc} {pk23 : Int32 → Mem → Prop} {Q : Oc → Prop} {d : ID} {M : Mem} {x4 : Int32} (hr : RI d M) (hc : CI d M) (hv : ∀ k, 1 ≤ k → k ≤ 6 → vp_in (x4 + nI k) (g.2.2.2 5000001)) (st : ∀ d M, RI d M → CI d M → pk23 (x4 + 7) M ∧ Q (k23 (x4 + 7) M)) : P__law__1939 g pk23 x4 M ∧ Q (F__law__1939 g k23 x4 M) := by
  have v1 : vp_in (x4 + 1) (g.2.2.2 5000001) := hv 1 (by omega) (by omega)
  obtain ⟨a1, a2, a3, a4, a5, d', a6, a7⟩ := QC.use (a := 1) (b := 0) (n := true) (e := false) (F := F_12_loop_0 (scX g ((x4 + 1).toNatClampNeg))) (P := P_12_loop_0 (scX g ((x4 + 1).toNatClampNeg))) (G := F_11_loop_0 (scX g ((x4 + 1).toNatClampNeg))) (PG := P_11_loop_0 (scX g ((x4 + 1).toNatClampNeg))) (d := d) (M := M) (by decide) (by decide) (fun Mr Mc h1 h2 => q_loop (scX g ((x4 + 1).toNatClampNeg)) h1 h2) hr hc
  rw [P__law__1939, F__law__1939, show W_loop (scX g ((x4 + 1).toNatClampNeg)) M = wOutI 1 0 (F_11_loop_0 (scX g ((x4 + 1).toNatClampNeg)) M) from rfl]
  have a0 : Q_loop (scX g ((x4 + 1).toNatClampNeg)) M := ⟨a1, a2⟩
  generalize wOutI 1 0 (F_11_loop_0 (scX g ((x4 + 1).toNatClampNeg)) M) = z at *
  obtain ⟨x5, M2⟩ := z
  rw [P__law__1950, F__law__1950]
  have a3' : P_12_loop_0 (scX g ((x4 + 1).toNatClampNeg)) M2 := a3
  try dsimp only at a4 a5 a6 a7 ⊢
  generalize F_12_loop_0 (scX g ((x4 + 1).toNatClampNeg)) M2 = y at *
  obtain ⟨v, M3⟩ := y
  have t : F_12_thrown_0 M3 = x5 := a4
  obtain ⟨s1, s2⟩ := st d' M3 a6 a7
  have c0 : x5 = 0 → lg_cmp (rl M3 1557 0) v.toInt64 = 0 := fun c => by
    have a5' : rl M3 1557 0 = v.toInt64 := a5 c
    rw [a5']; exact cmp0 _
  refine ⟨⟨v1, a0, v1, a3', ?_⟩, ?_⟩
  · rw [P__law__1962, cl0]
    exact ⟨fun _ => ⟨fun _ => s1, fun c => ⟨fun _ => s1, fun y => absurd (c0 c) y⟩⟩, fun y => absurd t y⟩
  · rw [F__law__1962, cl0, if_pos t]
    by_cases c : x5 = 0
    · rw [if_pos c, if_pos (c0 c)]; exact s2
    · rw [if_neg c]; exact s2
theorem l_closed {g : Gl} {k23 : Int32 → Mem → Oc} {pk23 : Int32 → Mem → Prop} {Q : Oc → Prop} {d : ID} {M : Mem} {x4 : Int32} (hr : RI d M) (hc : CI d M) (hv : ∀ k, 1 ≤ k → k ≤ 6 → vp_in (x4 + nI k) (g.2.2.2 5000001)) (st : ∀ d M, RI d M → CI d M → pk23 (x4 + 7) M ∧ Q (k23 (x4 + 7) M)) : P__law__1995 g pk23 x4 M ∧ Q (F__law__1995 g k23 x4 M) := by
  have v1 : vp_in (x4 + 1) (g.2.2.2 5000001) := hv 1 (by omega) (by omega)
  have v2 : vp_in (x4 + 2) (g.2.2.2 5000001) := hv 2 (by omega) (by omega)
  obtain ⟨a1, a2, a3, a4, a5, d', a6, a7⟩ := QC.use (a := 0) (b := 1) (n := false) (e := true) (F := F_12_closed_0 (scX g ((x4 + 1).toNatClampNeg)) (scX g ((x4 + 2).toNatClampNeg))) (P := P_12_closed_0 (scX g ((x4 + 1).toNatClampNeg)) (scX g ((x4 + 2).toNatClampNeg))) (G := F_11_closed_0 (scX g ((x4 + 1).toNatClampNeg)) (scX g ((x4 + 2).toNatClampNeg))) (PG := P_11_closed_0 (scX g ((x4 + 1).toNatClampNeg)) (scX g ((x4 + 2).toNatClampNeg))) (d := d) (M := M) (by decide) (by decide) (fun Mr Mc h1 h2 => q_closed (scX g ((x4 + 1).toNatClampNeg)) (scX g ((x4 + 2).toNatClampNeg)) h1 h2) hr hc
  rw [P__law__1995, F__law__1995, show W_closed (scX g ((x4 + 1).toNatClampNeg)) (scX g ((x4 + 2).toNatClampNeg)) M = wOutI 0 1 (F_11_closed_0 (scX g ((x4 + 1).toNatClampNeg)) (scX g ((x4 + 2).toNatClampNeg)) M) from rfl]
  have a0 : Q_closed (scX g ((x4 + 1).toNatClampNeg)) (scX g ((x4 + 2).toNatClampNeg)) M := ⟨a1, a2⟩
  generalize wOutI 0 1 (F_11_closed_0 (scX g ((x4 + 1).toNatClampNeg)) (scX g ((x4 + 2).toNatClampNeg)) M) = z at *
  obtain ⟨x5, M2⟩ := z
  rw [P__law__2012, F__law__2012]
  have a3' : P_12_closed_0 (scX g ((x4 + 1).toNatClampNeg)) (scX g ((x4 + 2).toNatClampNeg)) M2 := a3
  try dsimp only at a4 a5 a6 a7 ⊢
  generalize F_12_closed_0 (scX g ((x4 + 1).toNatClampNeg)) (scX g ((x4 + 2).toNatClampNeg)) M2 = y at *
  obtain ⟨v, M3⟩ := y
  have t : F_12_thrown_0 M3 = x5 := a4
  obtain ⟨s1, s2⟩ := st d' M3 a6 a7
  have c0 : x5 = 0 → lg_cmp (rl M3 1557 0) v.toInt64 = 0 := fun c => by
    have a5' : rl M3 1557 0 = v.toInt64 := a5 c
    rw [a5']; exact cmp0 _
  refine ⟨⟨v1, v2, a0, v1, v2, a3', ?_⟩, ?_⟩
  · rw [P__law__2030, cl0]
    exact ⟨fun _ => ⟨fun _ => s1, fun c => ⟨fun _ => s1, fun y => absurd (c0 c) y⟩⟩, fun y => absurd t y⟩
  · rw [F__law__2030, cl0, if_pos t]
    by_cases c : x5 = 0
    · rw [if_pos c, if_pos (c0 c)]; exact s2
    · rw [if_neg c]; exact s2
theorem l_crowded {g : Gl} {k23 : Int32 → Mem → Oc} {pk23 : Int32 → Mem → Prop} {Q : Oc → Prop} {d : ID} {M : Mem} {x4 : Int32} (hr : RI d M) (hc : CI d M) (hv : ∀ k, 1 ≤ k → k ≤ 6 → vp_in (x4 + nI k) (g.2.2.2 5000001)) (st : ∀ d M, RI d M → CI d M → pk23 (x4 + 7) M ∧ Q (k23 (x4 + 7) M)) : P__law__2063 g pk23 x4 M ∧ Q (F__law__2063 g k23 x4 M) := by
  have v1 : vp_in (x4 + 1) (g.2.2.2 5000001) := hv 1 (by omega) (by omega)
  obtain ⟨a1, a2, a3, a4, a5, d', a6, a7⟩ := QC.use (a := 0) (b := 1) (n := false) (e := true) (F := F_12_crowded_0 (scX g ((x4 + 1).toNatClampNeg))) (P := P_12_crowded_0 (scX g ((x4 + 1).toNatClampNeg))) (G := F_11_crowded_0 (scX g ((x4 + 1).toNatClampNeg))) (PG := P_11_crowded_0 (scX g ((x4 + 1).toNatClampNeg))) (d := d) (M := M) (by decide) (by decide) (fun Mr Mc h1 h2 => q_crowded (scX g ((x4 + 1).toNatClampNeg)) h1 h2) hr hc
  rw [P__law__2063, F__law__2063, show W_crowded (scX g ((x4 + 1).toNatClampNeg)) M = wOutI 0 1 (F_11_crowded_0 (scX g ((x4 + 1).toNatClampNeg)) M) from rfl]
  have a0 : Q_crowded (scX g ((x4 + 1).toNatClampNeg)) M := ⟨a1, a2⟩
  generalize wOutI 0 1 (F_11_crowded_0 (scX g ((x4 + 1).toNatClampNeg)) M) = z at *
  obtain ⟨x5, M2⟩ := z
  rw [P__law__2074, F__law__2074]
  have a3' : P_12_crowded_0 (scX g ((x4 + 1).toNatClampNeg)) M2 := a3
  try dsimp only at a4 a5 a6 a7 ⊢
  generalize F_12_crowded_0 (scX g ((x4 + 1).toNatClampNeg)) M2 = y at *
  obtain ⟨v, M3⟩ := y
  have t : F_12_thrown_0 M3 = x5 := a4
  obtain ⟨s1, s2⟩ := st d' M3 a6 a7
  have c0 : x5 = 0 → lg_cmp (rl M3 1557 0) v.toInt64 = 0 := fun c => by
    have a5' : rl M3 1557 0 = v.toInt64 := a5 c
    rw [a5']; exact cmp0 _
  refine ⟨⟨v1, a0, v1, a3', ?_⟩, ?_⟩
  · rw [P__law__2086, cl0]
    exact ⟨fun _ => ⟨fun _ => s1, fun c => ⟨fun _ => s1, fun y => absurd (c0 c) y⟩⟩, fun y => absurd t y⟩
  · rw [F__law__2086, cl0, if_pos t]
    by_cases c : x5 = 0
    · rw [if_pos c, if_pos (c0 c)]; exact s2
    · rw [if_neg c]; exact s2
theorem l_worn {g : Gl} {k23 : Int32 → Mem → Oc} {pk23 : Int32 → Mem → Prop} {Q : Oc → Prop} {d : ID} {M : Mem} {x4 : Int32} (hr : RI d M) (hc : CI d M) (hv : ∀ k, 1 ≤ k → k ≤ 6 → vp_in (x4 + nI k) (g.2.2.2 5000001)) (st : ∀ d M, RI d M → CI d M → pk23 (x4 + 7) M ∧ Q (k23 (x4 + 7) M)) : P__law__2119 g pk23 x4 M ∧ Q (F__law__2119 g k23 x4 M) := by
  have v1 : vp_in (x4 + 1) (g.2.2.2 5000001) := hv 1 (by omega) (by omega)
  obtain ⟨a1, a2, a3, a4, a5, d', a6, a7⟩ := QC.use (a := 0) (b := 1) (n := false) (e := true) (F := F_12_worn_0 (scX g ((x4 + 1).toNatClampNeg))) (P := P_12_worn_0 (scX g ((x4 + 1).toNatClampNeg))) (G := F_11_worn_0 (scX g ((x4 + 1).toNatClampNeg))) (PG := P_11_worn_0 (scX g ((x4 + 1).toNatClampNeg))) (d := d) (M := M) (by decide) (by decide) (fun Mr Mc h1 h2 => q_worn (scX g ((x4 + 1).toNatClampNeg)) h1 h2) hr hc
  rw [P__law__2119, F__law__2119, show W_worn (scX g ((x4 + 1).toNatClampNeg)) M = wOutI 0 1 (F_11_worn_0 (scX g ((x4 + 1).toNatClampNeg)) M) from rfl]
  have a0 : Q_worn (scX g ((x4 + 1).toNatClampNeg)) M := ⟨a1, a2⟩
  generalize wOutI 0 1 (F_11_worn_0 (scX g ((x4 + 1).toNatClampNeg)) M) = z at *
  obtain ⟨x5, M2⟩ := z
  rw [P__law__2130, F__law__2130]
  have a3' : P_12_worn_0 (scX g ((x4 + 1).toNatClampNeg)) M2 := a3
  try dsimp only at a4 a5 a6 a7 ⊢
  generalize F_12_worn_0 (scX g ((x4 + 1).toNatClampNeg)) M2 = y at *
  obtain ⟨v, M3⟩ := y
  have t : F_12_thrown_0 M3 = x5 := a4
  obtain ⟨s1, s2⟩ := st d' M3 a6 a7
  have c0 : x5 = 0 → lg_cmp (rl M3 1557 0) v.toInt64 = 0 := fun c => by
    have a5' : rl M3 1557 0 = v.toInt64 := a5 c
    rw [a5']; exact cmp0 _
  refine ⟨⟨v1, a0, v1, a3', ?_⟩, ?_⟩
  · rw [P__law__2142, cl0]
    exact ⟨fun _ => ⟨fun _ => s1, fun c => ⟨fun _ => s1, fun y => absurd (c0 c) y⟩⟩, fun y => absurd t y⟩
  · rw [F__law__2142, cl0, if_pos t]
    by_cases c : x5 = 0
    · rw [if_pos c, if_pos (c0 c)]; exact s2
    · rw [if_neg c]; exact s2
theorem l_sleepwalk {g : Gl} {k23 : Int32 → Mem → Oc} {pk23 : Int32 → Mem → Prop} {Q : Oc → Prop} {d : ID} {M : Mem} {x4 : Int32} (hr : RI d M) (hc : CI d M) (hv : ∀ k, 1 ≤ k → k ≤ 6 → vp_in (x4 + nI k) (g.2.2.2 5000001)) (st : ∀ d M, RI d M → CI d M → pk23 (x4 + 7) M ∧ Q (k23 (x4 + 7) M)) : P__law__2175 g pk23 x4 M ∧ Q (F__law__2175 g k23 x4 M) := by
  have v1 : vp_in (x4 + 1) (g.2.2.2 5000001) := hv 1 (by omega) (by omega)
  have v2 : vp_in (x4 + 2) (g.2.2.2 5000001) := hv 2 (by omega) (by omega)
  have v3 : vp_in (x4 + 3) (g.2.2.2 5000001) := hv 3 (by omega) (by omega)
  have v4 : vp_in (x4 + 4) (g.2.2.2 5000001) := hv 4 (by omega) (by omega)
  obtain ⟨a1, a2, a3, a4, a5, d', a6, a7⟩ := QC.use (a := 1) (b := 2) (n := true) (e := true) (F := F_12_sleepwalk_0 (scX g ((x4 + 1).toNatClampNeg)) (scX g ((x4 + 2).toNatClampNeg)) (scX g ((x4 + 3).toNatClampNeg)) (scX g ((x4 + 4).toNatClampNeg))) (P := P_12_sleepwalk_0 (scX g ((x4 + 1).toNatClampNeg)) (scX g ((x4 + 2).toNatClampNeg)) (scX g ((x4 + 3).toNatClampNeg)) (scX g ((x4 + 4).toNatClampNeg))) (G := F_11_sleepwalk_0 (scX g ((x4 + 1).toNatClampNeg)) (scX g ((x4 + 2).toNatClampNeg)) (scX g ((x4 + 3).toNatClampNeg)) (scX g ((x4 + 4).toNatClampNeg))) (PG := P_11_sleepwalk_0 (scX g ((x4 + 1).toNatClampNeg)) (scX g ((x4 + 2).toNatClampNeg)) (scX g ((x4 + 3).toNatClampNeg)) (scX g ((x4 + 4).toNatClampNeg))) (d := d) (M := M) (by decide) (by decide) (fun Mr Mc h1 h2 => q_sleepwalk (scX g ((x4 + 1).toNatClampNeg)) (scX g ((x4 + 2).toNatClampNeg)) (scX g ((x4 + 3).toNatClampNeg)) (scX g ((x4 + 4).toNatClampNeg)) h1 h2) hr hc
  rw [P__law__2175, F__law__2175, show W_sleepwalk (scX g ((x4 + 1).toNatClampNeg)) (scX g ((x4 + 2).toNatClampNeg)) (scX g ((x4 + 3).toNatClampNeg)) (scX g ((x4 + 4).toNatClampNeg)) M = wOutI 1 2 (F_11_sleepwalk_0 (scX g ((x4 + 1).toNatClampNeg)) (scX g ((x4 + 2).toNatClampNeg)) (scX g ((x4 + 3).toNatClampNeg)) (scX g ((x4 + 4).toNatClampNeg)) M) from rfl]
  have a0 : Q_sleepwalk (scX g ((x4 + 1).toNatClampNeg)) (scX g ((x4 + 2).toNatClampNeg)) (scX g ((x4 + 3).toNatClampNeg)) (scX g ((x4 + 4).toNatClampNeg)) M := ⟨a1, a2⟩
  generalize wOutI 1 2 (F_11_sleepwalk_0 (scX g ((x4 + 1).toNatClampNeg)) (scX g ((x4 + 2).toNatClampNeg)) (scX g ((x4 + 3).toNatClampNeg)) (scX g ((x4 + 4).toNatClampNeg)) M) = z at *
  obtain ⟨x5, M2⟩ := z
  rw [P__law__2204, F__law__2204]
  have a3' : P_12_sleepwalk_0 (scX g ((x4 + 1).toNatClampNeg)) (scX g ((x4 + 2).toNatClampNeg)) (scX g ((x4 + 3).toNatClampNeg)) (scX g ((x4 + 4).toNatClampNeg)) M2 := a3
  try dsimp only at a4 a5 a6 a7 ⊢
  generalize F_12_sleepwalk_0 (scX g ((x4 + 1).toNatClampNeg)) (scX g ((x4 + 2).toNatClampNeg)) (scX g ((x4 + 3).toNatClampNeg)) (scX g ((x4 + 4).toNatClampNeg)) M2 = y at *
  obtain ⟨v, M3⟩ := y
  have t : F_12_thrown_0 M3 = x5 := a4
  obtain ⟨s1, s2⟩ := st d' M3 a6 a7
  have c0 : x5 = 0 → lg_cmp (rl M3 1557 0) v.toInt64 = 0 := fun c => by
    have a5' : rl M3 1557 0 = v.toInt64 := a5 c
    rw [a5']; exact cmp0 _
  refine ⟨⟨v1, v2, v3, v4, a0, v1, v2, v3, v4, a3', ?_⟩, ?_⟩
  · rw [P__law__2234, cl0]
    exact ⟨fun _ => ⟨fun _ => s1, fun c => ⟨fun _ => s1, fun y => absurd (c0 c) y⟩⟩, fun y => absurd t y⟩
  · rw [F__law__2234, cl0, if_pos t]
    by_cases c : x5 = 0
    · rw [if_pos c, if_pos (c0 c)]; exact s2
    · rw [if_neg c]; exact s2
theorem l_span {g : Gl} {k23 : Int32 → Mem → Oc} {pk23 : Int32 → Mem → Prop} {Q : Oc → Prop} {d : ID} {M : Mem} {x4 : Int32} (hr : RI d M) (hc : CI d M) (hv : ∀ k, 1 ≤ k → k ≤ 6 → vp_in (x4 + nI k) (g.2.2.2 5000001)) (st : ∀ d M, RI d M → CI d M → pk23 (x4 + 7) M ∧ Q (k23 (x4 + 7) M)) : P__law__2267 g pk23 x4 M ∧ Q (F__law__2267 g k23 x4 M) := by
  have v1 : vp_in (x4 + 1) (g.2.2.2 5000001) := hv 1 (by omega) (by omega)
  have v2 : vp_in (x4 + 2) (g.2.2.2 5000001) := hv 2 (by omega) (by omega)
  have v3 : vp_in (x4 + 3) (g.2.2.2 5000001) := hv 3 (by omega) (by omega)
  have v4 : vp_in (x4 + 4) (g.2.2.2 5000001) := hv 4 (by omega) (by omega)
  have v5 : vp_in (x4 + 5) (g.2.2.2 5000001) := hv 5 (by omega) (by omega)
  have v6 : vp_in (x4 + 6) (g.2.2.2 5000001) := hv 6 (by omega) (by omega)
  obtain ⟨a1, a2, a3, a4, a5, d', a6, a7⟩ := QC.use (a := 1) (b := 2) (n := true) (e := true) (F := F_12_span_0 (scX g ((x4 + 1).toNatClampNeg)) (scX g ((x4 + 2).toNatClampNeg)) (scX g ((x4 + 3).toNatClampNeg)) (scX g ((x4 + 4).toNatClampNeg)) (scX g ((x4 + 5).toNatClampNeg)) (scX g ((x4 + 6).toNatClampNeg))) (P := P_12_span_0 (scX g ((x4 + 1).toNatClampNeg)) (scX g ((x4 + 2).toNatClampNeg)) (scX g ((x4 + 3).toNatClampNeg)) (scX g ((x4 + 4).toNatClampNeg)) (scX g ((x4 + 5).toNatClampNeg)) (scX g ((x4 + 6).toNatClampNeg))) (G := F_11_span_0 (scX g ((x4 + 1).toNatClampNeg)) (scX g ((x4 + 2).toNatClampNeg)) (scX g ((x4 + 3).toNatClampNeg)) (scX g ((x4 + 4).toNatClampNeg)) (scX g ((x4 + 5).toNatClampNeg)) (scX g ((x4 + 6).toNatClampNeg))) (PG := P_11_span_0 (scX g ((x4 + 1).toNatClampNeg)) (scX g ((x4 + 2).toNatClampNeg)) (scX g ((x4 + 3).toNatClampNeg)) (scX g ((x4 + 4).toNatClampNeg)) (scX g ((x4 + 5).toNatClampNeg)) (scX g ((x4 + 6).toNatClampNeg))) (d := d) (M := M) (by decide) (by decide) (fun Mr Mc h1 h2 => q_span (scX g ((x4 + 1).toNatClampNeg)) (scX g ((x4 + 2).toNatClampNeg)) (scX g ((x4 + 3).toNatClampNeg)) (scX g ((x4 + 4).toNatClampNeg)) (scX g ((x4 + 5).toNatClampNeg)) (scX g ((x4 + 6).toNatClampNeg)) h1 h2) hr hc
  rw [P__law__2267, F__law__2267, show W_span (scX g ((x4 + 1).toNatClampNeg)) (scX g ((x4 + 2).toNatClampNeg)) (scX g ((x4 + 3).toNatClampNeg)) (scX g ((x4 + 4).toNatClampNeg)) (scX g ((x4 + 5).toNatClampNeg)) (scX g ((x4 + 6).toNatClampNeg)) M = wOutI 1 2 (F_11_span_0 (scX g ((x4 + 1).toNatClampNeg)) (scX g ((x4 + 2).toNatClampNeg)) (scX g ((x4 + 3).toNatClampNeg)) (scX g ((x4 + 4).toNatClampNeg)) (scX g ((x4 + 5).toNatClampNeg)) (scX g ((x4 + 6).toNatClampNeg)) M) from rfl]
  have a0 : Q_span (scX g ((x4 + 1).toNatClampNeg)) (scX g ((x4 + 2).toNatClampNeg)) (scX g ((x4 + 3).toNatClampNeg)) (scX g ((x4 + 4).toNatClampNeg)) (scX g ((x4 + 5).toNatClampNeg)) (scX g ((x4 + 6).toNatClampNeg)) M := ⟨a1, a2⟩
  generalize wOutI 1 2 (F_11_span_0 (scX g ((x4 + 1).toNatClampNeg)) (scX g ((x4 + 2).toNatClampNeg)) (scX g ((x4 + 3).toNatClampNeg)) (scX g ((x4 + 4).toNatClampNeg)) (scX g ((x4 + 5).toNatClampNeg)) (scX g ((x4 + 6).toNatClampNeg)) M) = z at *
  obtain ⟨x5, M2⟩ := z
  rw [P__law__2309, F__law__2309]
  have a3' : P_12_span_0 (scX g ((x4 + 1).toNatClampNeg)) (scX g ((x4 + 2).toNatClampNeg)) (scX g ((x4 + 3).toNatClampNeg)) (scX g ((x4 + 4).toNatClampNeg)) (scX g ((x4 + 5).toNatClampNeg)) (scX g ((x4 + 6).toNatClampNeg)) M2 := a3
  try dsimp only at a4 a5 a6 a7 ⊢
  generalize F_12_span_0 (scX g ((x4 + 1).toNatClampNeg)) (scX g ((x4 + 2).toNatClampNeg)) (scX g ((x4 + 3).toNatClampNeg)) (scX g ((x4 + 4).toNatClampNeg)) (scX g ((x4 + 5).toNatClampNeg)) (scX g ((x4 + 6).toNatClampNeg)) M2 = y at *
  obtain ⟨v, M3⟩ := y
  have t : F_12_thrown_0 M3 = x5 := a4
  obtain ⟨s1, s2⟩ := st d' M3 a6 a7
  have c0 : x5 = 0 → lg_cmp (rl M3 1557 0) v.toInt64 = 0 := fun c => by
    have a5' : rl M3 1557 0 = v.toInt64 := a5 c
    rw [a5']; exact cmp0 _
  refine ⟨⟨v1, v2, v3, v4, v5, v6, a0, v1, v2, v3, v4, v5, v6, a3', ?_⟩, ?_⟩
  · rw [P__law__2352, cl0]
    exact ⟨fun _ => ⟨fun _ => s1, fun c => ⟨fun _ => s1, fun y => absurd (c0 c) y⟩⟩, fun y => absurd t y⟩
  · rw [F__law__2352, cl0, if_pos t]
    by_cases c : x5 = 0
    · rw [if_pos c, if_pos (c0 c)]; exact s2
    · rw [if_neg c]; exact s2
theorem l_image {g : Gl} {k23 : Int32 → Mem → Oc} {pk23 : Int32 → Mem → Prop} {Q : Oc → Prop} {d : ID} {M : Mem} {x4 : Int32} (hr : RI d M) (hc : CI d M) (hv : ∀ k, 1 ≤ k → k ≤ 6 → vp_in (x4 + nI k) (g.2.2.2 5000001)) (st : ∀ d M, RI d M → CI d M → pk23 (x4 + 7) M ∧ Q (k23 (x4 + 7) M)) : P__law__2385 g pk23 x4 M ∧ Q (F__law__2385 g k23 x4 M) := by
  obtain ⟨a1, a2, a3, d', a4, a5⟩ := QD.use (F := (F_12_image_0)) (G := (F_11_image_0)) (P := (P_12_image_0)) (PG := (P_11_image_0)) (d := d) (M := M) (fun Mr Mc h1 h2 => q_image h1 h2) hr hc
  obtain ⟨s1, s2⟩ := st d' _ a4 a5
  rw [P__law__2385, F__law__2385]
  rw [P__law__2389, F__law__2389]
  have e := a3.symm
  try dsimp only at a2 e s1 s2 ⊢
  refine ⟨⟨a1, a2, ?_⟩, ?_⟩
  · exact ⟨fun _ => s1, fun y => absurd e y⟩
  · rw [F__law__2393, if_pos e]; exact s2
theorem l_restore {g : Gl} {k23 : Int32 → Mem → Oc} {pk23 : Int32 → Mem → Prop} {Q : Oc → Prop} {d : ID} {M : Mem} {x4 : Int32} (hr : RI d M) (hc : CI d M) (hv : ∀ k, 1 ≤ k → k ≤ 6 → vp_in (x4 + nI k) (g.2.2.2 5000001)) (st : ∀ d M, RI d M → CI d M → pk23 (x4 + 7) M ∧ Q (k23 (x4 + 7) M)) : P__law__2398 g pk23 x4 M ∧ Q (F__law__2398 g k23 x4 M) := by
  obtain ⟨a1, a2, a3, d', a4, a5⟩ := QD.use (F := (F_12_restore_0)) (G := (F_11_restore_0)) (P := (P_12_restore_0)) (PG := (P_11_restore_0)) (d := d) (M := M) (fun Mr Mc h1 h2 => q_restore h1 h2) hr hc
  obtain ⟨s1, s2⟩ := st d' _ a4 a5
  rw [P__law__2398, F__law__2398]
  rw [P__law__2402, F__law__2402]
  have e := a3.symm
  try dsimp only at a2 e s1 s2 ⊢
  refine ⟨⟨a1, a2, ?_⟩, ?_⟩
  · exact ⟨fun _ => s1, fun y => absurd e y⟩
  · rw [F__law__2406, if_pos e]; exact s2
theorem l_status {g : Gl} {k23 : Int32 → Mem → Oc} {pk23 : Int32 → Mem → Prop} {Q : Oc → Prop} {d : ID} {M : Mem} {x4 : Int32} (hr : RI d M) (hc : CI d M) (hv : ∀ k, 1 ≤ k → k ≤ 6 → vp_in (x4 + nI k) (g.2.2.2 5000001)) (st : ∀ d M, RI d M → CI d M → pk23 (x4 + 7) M ∧ Q (k23 (x4 + 7) M)) : P__law__2411 g pk23 x4 M ∧ Q (F__law__2411 g k23 x4 M) := by
  have v1 : vp_in (x4 + 1) (g.2.2.2 5000001) := hv 1 (by omega) (by omega)
  obtain ⟨a1, a2, a3, d', a4, a5⟩ := QD.use (F := (F_12_status_0 (scX g ((x4 + 1).toNatClampNeg)))) (G := (fun M => (F_11_status_0 M (scX g ((x4 + 1).toNatClampNeg)), M))) (P := (P_12_status_0 (scX g ((x4 + 1).toNatClampNeg)))) (PG := (fun _ => True)) (d := d) (M := M) (fun Mr Mc h1 h2 => ⟨(q_status (scX g ((x4 + 1).toNatClampNeg)) h1 h2).1, trivial, (q_status (scX g ((x4 + 1).toNatClampNeg)) h1 h2).2⟩) hr hc
  obtain ⟨s1, s2⟩ := st d' _ a4 a5
  rw [P__law__2411, F__law__2411]
  have e := a3.symm
  try dsimp only at a2 e s1 s2 ⊢
  refine ⟨⟨v1, v1, a2, ?_⟩, ?_⟩
  · exact ⟨fun _ => s1, fun y => absurd e y⟩
  · rw [F__law__2431, if_pos e]; exact s2
theorem l_count {g : Gl} {k23 : Int32 → Mem → Oc} {pk23 : Int32 → Mem → Prop} {Q : Oc → Prop} {d : ID} {M : Mem} {x4 : Int32} (hr : RI d M) (hc : CI d M) (hv : ∀ k, 1 ≤ k → k ≤ 6 → vp_in (x4 + nI k) (g.2.2.2 5000001)) (st : ∀ d M, RI d M → CI d M → pk23 (x4 + 7) M ∧ Q (k23 (x4 + 7) M)) : P__law__2436 g pk23 x4 M ∧ Q (F__law__2436 g k23 x4 M) := by
  have v1 : vp_in (x4 + 1) (g.2.2.2 5000001) := hv 1 (by omega) (by omega)
  obtain ⟨a1, a2, a3, d', a4, a5⟩ := QD.use (F := (F_12_count_0 (scX g ((x4 + 1).toNatClampNeg)))) (G := (fun M => (F_11_count_0 M (scX g ((x4 + 1).toNatClampNeg)), M))) (P := (fun _ => True)) (PG := (fun _ => True)) (d := d) (M := M) (fun Mr Mc h1 h2 => ⟨trivial, trivial, q_count (scX g ((x4 + 1).toNatClampNeg)) h1 h2⟩) hr hc
  obtain ⟨s1, s2⟩ := st d' _ a4 a5
  rw [P__law__2436, F__law__2436]
  have e := a3.symm
  try dsimp only at a2 e s1 s2 ⊢
  refine ⟨⟨v1, v1, ?_⟩, ?_⟩
  · exact ⟨fun _ => s1, fun y => absurd e y⟩
  · rw [F__law__2456, if_pos e]; exact s2
