/-! MATHEMATICS 17: doors that part two rooms: flows and cuts -/
def chi (X : Nat → Bool) (v : Nat) : Int := if X v = true then 1 else 0
def netF (u : MU) (X : Nat → Bool) (g : Nat → Bool) : Nat → Int
  | 0 => 0
  | k + 1 => netF u X g k + (if g k = true then chi X (uF u k) - chi X (uG u k) else 0)
def upB (g : Nat → Bool) (d : Nat) (v : Bool) (e : Nat) : Bool := if e = d then v else g e
theorem upB_s {g : Nat → Bool} {d : Nat} {v : Bool} : upB g d v d = v := if_pos rfl
theorem upB_n {g : Nat → Bool} {d e : Nat} {v : Bool} (h : e ≠ d) : upB g d v e = g e := if_neg h
theorem netF_cg {u : MU} {X g g' : Nat → Bool} {k : Nat} (h : ∀ d, d < k → g d = g' d) : netF u X g k = netF u X g' k := by
  induction k with
  | zero => rfl
  | succ k ih => rw [netF, netF, ih (fun d hd => h d (by omega)), h k (by omega)]
/-- door d leads, as flow g stands, from v to w -/
def rsD (u : MU) (A g : Nat → Bool) (d v w : Nat) : Prop := d < uM u ∧ A d = true ∧ ((g d = false ∧ uF u d = v ∧ uG u d = w) ∨ (g d = true ∧ uG u d = v ∧ uF u d = w))
theorem rsD_un {u : MU} {A g : Nat → Bool} {d v w v' w' : Nat} (h : rsD u A g d v w) (h' : rsD u A g d v' w') : v = v' ∧ w = w' := by
  obtain ⟨_, _, h⟩ := h
  obtain ⟨_, _, h'⟩ := h'
  rcases h with ⟨a, b, c⟩ | ⟨a, b, c⟩ <;> rcases h' with ⟨a', b', c'⟩ | ⟨a', b', c'⟩
  · exact ⟨b.symm.trans b', c.symm.trans c'⟩
  · rw [a] at a'; cases a'
  · rw [a] at a'; cases a'
  · exact ⟨b.symm.trans b', c.symm.trans c'⟩
theorem netF_flip {u : MU} {A g : Nat → Bool} {X : Nat → Bool} {d v w : Nat} (h : rsD u A g d v w) : ∀ k, netF u X (upB g d (!g d)) k = netF u X g k + (if d < k then chi X v - chi X w else 0) := by
  intro k
  induction k with
  | zero => simp [netF]
  | succ k ih =>
    rw [netF, netF, ih]
    by_cases e : k = d
    · subst e
      rw [upB_s]
      obtain ⟨_, _, h | h⟩ := h
      · obtain ⟨a, b, c⟩ := h
        rw [a, b, c]
        simp
      · obtain ⟨a, b, c⟩ := h
        rw [a, b, c]
        simp
        omega
    · rw [upB_n e]
      by_cases c : d < k
      · rw [if_pos c, if_pos (show d < k + 1 by omega)]; omega
      · rw [if_neg c, if_neg (show ¬ d < k + 1 by omega)]; omega
def FlowV (u : MU) (A : Nat → Bool) (a b : Nat) (g : Nat → Bool) (n : Nat) : Prop := (∀ d, g d = true → d < uM u ∧ A d = true) ∧ ∀ X : Nat → Bool, X a = true → X b = false → netF u X g (uM u) = n
def capF (u : MU) (A X : Nat → Bool) : Nat := cnt (fun d => A d && X (uF u d) && !X (uG u d)) (uM u)
theorem chi_t {X : Nat → Bool} {v : Nat} (h : X v = true) : chi X v = 1 := if_pos h
theorem chi_f {X : Nat → Bool} {v : Nat} (h : X v = false) : chi X v = 0 := if_neg (by rw [h]; decide)
theorem net_cap {u : MU} {A g X : Nat → Bool} (h : ∀ d, g d = true → A d = true) : ∀ k, netF u X g k ≤ cnt (fun d => A d && X (uF u d) && !X (uG u d)) k := by
  intro k
  induction k with
  | zero => exact Int.le_refl _
  | succ k ih =>
    rw [netF, cnt]
    by_cases c : g k = true
    · rw [if_pos c, h k c]
      cases c1 : X (uF u k) <;> cases c2 : X (uG u k)
      · rw [chi_f c1, chi_f c2]; simp; omega
      · rw [chi_f c1, chi_t c2]; simp; omega
      · rw [chi_t c1, chi_f c2]; simp; omega
      · rw [chi_t c1, chi_t c2]; simp; omega
    · rw [if_neg c]
      split <;> omega
theorem cut_eq {u : MU} {A g X : Nat → Bool} (h : ∀ d, g d = true → d < uM u ∧ A d = true) (hc : ∀ d v w, rsD u A g d v w → X v = true → X w = true) : ∀ k, k ≤ uM u → netF u X g k = cnt (fun d => A d && X (uF u d) && !X (uG u d)) k := by
  intro k
  induction k with
  | zero => intro _; rfl
  | succ k ih =>
    intro hk
    rw [netF, cnt, ih (by omega)]
    cases c : g k
    · have : (A k && X (uF u k) && !X (uG u k)) = false := by
        apply Bool.eq_false_iff.mpr
        intro z
        simp only [Bool.and_eq_true, Bool.not_eq_true'] at z
        have := hc k (uF u k) (uG u k) ⟨by omega, z.1.1, Or.inl ⟨c, rfl, rfl⟩⟩ z.1.2
        rw [z.2] at this; cases this
      simp [this]
    · have hA := (h k c).2
      cases c1 : X (uF u k) <;> cases c2 : X (uG u k)
      · rw [chi_f c1, chi_f c2]; simp
      · have := hc k (uG u k) (uF u k) ⟨by omega, hA, Or.inr ⟨c, rfl, rfl⟩⟩ c2
        rw [c1] at this; cases this
      · rw [chi_t c1, chi_f c2]; simp [hA]
      · rw [chi_t c1, chi_t c2]; simp
def IsMF (u : MU) (A : Nat → Bool) (a b n : Nat) : Prop := (∃ g, FlowV u A a b g n) ∧ ∃ X : Nat → Bool, X a = true ∧ X b = false ∧ capF u A X = n
theorem FlowV.le {u : MU} {A A' : Nat → Bool} {a b : Nat} {g : Nat → Bool} {n : Nat} (h : FlowV u A a b g n) (hA : ∀ d, A d = true → A' d = true) {X : Nat → Bool} (h1 : X a = true) (h2 : X b = false) : n ≤ capF u A' X := by
  have e := h.2 X h1 h2
  have := net_cap (u := u) (A := A') (g := g) (X := X) (fun d hd => hA d (h.1 d hd).2) (uM u)
  rw [e] at this
  exact Int.ofNat_le.mp this
theorem IsMF.mono {u : MU} {A A' : Nat → Bool} {a b n n' : Nat} (h : IsMF u A a b n) (h' : IsMF u A' a b n') (hA : ∀ d, A d = true → A' d = true) : n ≤ n' := by
  obtain ⟨g, hg⟩ := h.1
  obtain ⟨X, h1, h2, h3⟩ := h'.2
  rw [← h3]
  exact hg.le hA h1 h2
theorem IsMF.un {u : MU} {A : Nat → Bool} {a b n n' : Nat} (h : IsMF u A a b n) (h' : IsMF u A a b n') : n = n' := Nat.le_antisymm (h.mono h' (fun _ z => z)) (h'.mono h (fun _ z => z))
theorem FlowV.z {u : MU} {A : Nat → Bool} {a b : Nat} : FlowV u A a b (fun _ => false) 0 := by
  refine ⟨fun d h => (by cases h), fun X _ _ => ?_⟩
  have : ∀ k, netF u X (fun _ => false) k = 0 := by
    intro k
    induction k with
    | zero => rfl
    | succ k ih => rw [netF, ih]; rfl
  exact this _
theorem FlowV.max {u : MU} {A : Nat → Bool} {a b : Nat} {g : Nat → Bool} {n : Nat} (h : FlowV u A a b g n) (hu : UW u) (hab : a ≠ b) : n ≤ 24 ∧ (n = 24 → IsMF u A a b n) := by
  have h1 : decide (a = a) = true := by simp
  have h2 : decide (b = a) = false := decide_eq_false (fun z => hab z.symm)
  have hl := h.le (fun _ z => z) (X := fun v => decide (v = a)) h1 h2
  have hc : capF u A (fun v => decide (v = a)) ≤ uM u := cnt_le _ _
  have hm := hu.2.1
  exact ⟨by omega, fun e => ⟨⟨g, h⟩, fun v => decide (v = a), h1, h2, by omega⟩⟩
theorem FlowV.cut {u : MU} {A : Nat → Bool} {a b : Nat} {g : Nat → Bool} {n : Nat} (h : FlowV u A a b g n) {X : Nat → Bool} (h1 : X a = true) (h2 : X b = false) (hc : ∀ d v w, rsD u A g d v w → X v = true → X w = true) : IsMF u A a b n := by
  refine ⟨⟨g, h⟩, X, h1, h2, ?_⟩
  have e := cut_eq h.1 hc (uM u) (Nat.le_refl _)
  rw [h.2 X h1 h2] at e
  exact (Int.ofNat_inj.mp e).symm
theorem FlowV.up {u : MU} {A : Nat → Bool} {a b : Nat} {g g' : Nat → Bool} {n : Nat} (h : FlowV u A a b g n) (hg : ∀ d, g' d = true → d < uM u ∧ A d = true) (hn : ∀ X : Nat → Bool, netF u X g' (uM u) = netF u X g (uM u) + chi X a - chi X b) : FlowV u A a b g' (n + 1) := by
  refine ⟨hg, fun X h1 h2 => ?_⟩
  rw [hn X, h.2 X h1 h2, chi_t h1, chi_f h2]
  omega
/-! the reference's search -/
def rF (c j : Nat) : Prop := c = 27 ∨ (c = 0 ∧ j = 46)
def FV (g : Nat → Bool) (M : Mem) : Prop := ∀ d, d < 24 → rd M 27 d = if g d = true then 1 else 0
theorem FV.k {g : Nat → Bool} {M : Mem} (h : FV g M) {v : Int32} : FV g (wr M 0 46 v) := fun d hd => by rw [rd_c (by decide)]; exact h d hd
theorem FV.up {g : Nat → Bool} {M : Mem} (h : FV g M) (d : Nat) (v : Bool) : FV (upB g d v) (wr M 27 d (if v = true then 1 else 0)) := fun e he => by
  rw [rd_wr]
  by_cases c : e = d
  · subst c; rw [if_pos ⟨rfl, rfl⟩, upB_s]
  · rw [if_neg (fun z => c z.2), upB_n c]; exact h e he
def RQ (u : MU) (s : SU) (M : Mem) : Prop := RP u M ∧ RR u s (rd M 20)
theorem RQ.k {u : MU} {s : SU} {M M' : Mem} (h : RQ u s M) (hk : Kp rF M M') : RQ u s M' := by
  refine ⟨h.1.k hk (fun a j z => by unfold rF at z; omega), ?_⟩
  rw [hk.row (c := 20) (fun j z => by unfold rF at z; omega)]
  exact h.2
def alw (s : SU) (R : Int32) (d : Nat) : Bool := !sB s d && !bt R d
def uns (u : MU) (Z : Int32) : Nat := cnt (fun r => !bt Z r) (uN u)
theorem uns_lt {u : MU} {Z Z' : Int32} {r : Nat} (hr : r < uN u) (h : bt Z r = false) (h' : bt Z' r = true) (hs : ∀ i, bt Z i = true → bt Z' i = true) : uns u Z' < uns u Z := cnt_lt (fun j _ hj => by
    cases c : bt Z j
    · rfl
    · rw [hs j c] at hj; cases hj) hr (by rw [h']; rfl) (by rw [h]; rfl)
/-- what the search tells -/
def MoQ (u : MU) (A g : Nat → Bool) (a b : Nat) (Z : Int32) (M : Mem) (w : Int32 × Mem) : Prop := Kp rF M w.2 ∧ ((w.1 = 1 ∧ ∃ g', FV g' w.2 ∧ (∀ d, g' d = true → d < uM u ∧ A d = true) ∧ (∀ X : Nat → Bool, netF u X g' (uM u) = netF u X g (uM u) + chi X a - chi X b) ∧ ∀ d, g' d ≠ g d → ∃ x y, rsD u A g d x y ∧ bt Z y = false) ∨
  (w.1 = 0 ∧ FV g w.2 ∧ (∀ i, bt Z i = true → bt (rd w.2 0 46) i = true) ∧ bt (rd w.2 0 46) b = false ∧ ∀ d x y, rsD u A g d x y → (bt (rd w.2 0 46) x = true ∧ bt Z x = false) ∨ x = a → bt (rd w.2 0 46) y = true))
theorem r_isMore {u : MU} {s : SU} {R : Int32} {b : Nat} (hb : b < uN u) (hab : True) : ∀ (n a : Nat) (g : Nat → Bool) (M : Mem), RQ u s M → a < uN u → FV g M → (∀ d, g d = true → d < uM u ∧ alw s R d = true) → bt (rd M 0 46) a = true → (a = b ∨ bt (rd M 0 46) b = false) → uns u (rd M 0 46) < n → H_12_isMore n (nI a) (nI b) R M ∧ MoQ u (alw s R) g a b (rd M 0 46) M (G_12_isMore n (nI a) (nI b) R M) := by
  intro n
  induction n with
  | zero => intro a g M _ _ _ _ _ _ h; omega
  | succ n0 ihn =>
    intro a g M hq ha hg hgA hZa hZb hun
    have hu := hq.1.1
    have hn := hu.1
    have hm := hu.2.1
    rw [H_12_isMore, G_12_isMore, P_12_isMore_0, F_12_isMore_0]
    have eab : (nI a = nI b) ↔ a = b := nI_eq (by omega) (by omega)
    by_cases cab : a = b
    · simp only [eab, cab, if_true, if_false, true_imp_iff, false_imp_iff, not_true_eq_false, not_false_eq_true, true_and, and_true, implies_true, reduceIte]
      exact ⟨Kp.rf, Or.inl ⟨rfl, g, hg, hgA, fun X => by omega, fun d hd => absurd rfl hd⟩⟩
    · simp only [eab, cab, if_true, if_false, true_imp_iff, false_imp_iff, not_true_eq_false, not_false_eq_true, true_and, and_true, implies_true, reduceIte]
      have hZb : bt (rd M 0 46) b = false := hZb.resolve_left cab
      refine lq (S := Mem) (F := fun n i q => F_12_isMore_10 (G_12_isMore n0) n (nI a) (nI b) R i q) (P := fun n i q => P_12_isMore_10 (G_12_isMore n0) (H_12_isMore n0) n (nI a) (nI b) R i q) (Q := MoQ u (alw s R) g a b (rd M 0 46) M) (uM u) (fun i q => Kp rF M q ∧ FV g q ∧ (∀ j, bt (rd M 0 46) j = true → bt (rd q 0 46) j = true) ∧ bt (rd q 0 46) b = false ∧ (∀ d x y, rsD u (alw s R) g d x y → (bt (rd q 0 46) x = true ∧ bt (rd M 0 46) x = false) ∨ (x = a ∧ d < i) → bt (rd q 0 46) y = true)) ?_ ?_ FU 0 M ⟨Kp.rf, hg, fun _ z => z, hZb, fun d x y _ h => ?_⟩ (Nat.zero_le _) (FU_ge (by omega))
      · rintro m i M1 hi ⟨hK, hg1, hZs, hZb1, hcl⟩ ih
        try dsimp only at ih ⊢
        have hq1 := hq.k hK
        have q1 : ¬ nI (uM u) ≤ nI i := nI_ge hi (by omega)
        have w := hu.2.2.2.2.1 i hi
        obtain ⟨f1, f2, _, _⟩ := hq1.1.2.2.2.2.2.1 i hi
        obtain ⟨b1, b2⟩ := r_isBarred hi hu hq1.2
        have hR := r_has M1 R (i := i) (by omega)
        have v1 : vp_in (nI i) 24 := (vp_iff (by omega)).mpr (by omega)
        have e1 : (nI (uF u i) = nI a) ↔ uF u i = a := nI_eq (by omega) (by omega)
        have e2 : (nI (uG u i) = nI a) ↔ uG u i = a := nI_eq (by omega) (by omega)
        have g27 := hg1 i (by omega)
        have eA : alw s R i = (!sB s i && !bt R i) := rfl
        /- nothing is to be gone through here -/
        have skip : (∀ x y, rsD u (alw s R) g i x y → x = a → bt (rd M1 0 46) y = true) → P_12_isMore_10 (G_12_isMore n0) (H_12_isMore n0) m (nI a) (nI b) R (nI i + 1) M1 ∧ MoQ u (alw s R) g a b (rd M 0 46) M (F_12_isMore_10 (G_12_isMore n0) m (nI a) (nI b) R (nI i + 1) M1) := by
          intro hs
          refine ih M1 ⟨hK, hg1, hZs, hZb1, fun d x y hr hx => ?_⟩
          rcases hx with hx | ⟨hx, hd⟩
          · exact hcl d x y hr (Or.inl hx)
          · by_cases e : d = i
            · subst e; exact hs x y hr hx
            · exact hcl d x y hr (Or.inr ⟨hx, by omega⟩)
        /- a door to c -/
        have go : ∀ c, c < uN u → rsD u (alw s R) g i a c → P_12_isMore_144 (G_12_isMore n0) (H_12_isMore n0) (P_12_isMore_10 (G_12_isMore n0) (H_12_isMore n0) m) (nI a) (nI b) R (nI i) (if g i = true then 0 else 1) (nI c) M1 ∧ MoQ u (alw s R) g a b (rd M 0 46) M (F_12_isMore_144 (G_12_isMore n0) (F_12_isMore_10 (G_12_isMore n0) m) (nI a) (nI b) R (nI i) (if g i = true then 0 else 1) (nI c) M1) := by
          intro c hc hrs
          have hh := r_has M1 (rd M1 0 46) (i := c) (by omega)
          rw [P_12_isMore_144, F_12_isMore_144]
          simp only [hh, ib0, bi_of, P_12_isMore_205, F_12_isMore_205]
          cases cs : bt (rd M1 0 46) c
          · have k46 : rd (wr M1 0 46 (rd M1 0 46 ||| bi c)) 0 46 = rd M1 0 46 ||| bi c := rd_s _ _ _ _
            have sub : ∀ j, bt (rd M1 0 46) j = true → bt (rd M1 0 46 ||| bi c) j = true := fun j hj => by rw [b_or, hj]; rfl
            have inc : bt (rd M1 0 46 ||| bi c) c = true := by rw [b_or, b_bi (by omega), decide_eq_true rfl, Bool.or_true]
            have hK2 : Kp rF M1 (wr M1 0 46 (rd M1 0 46 ||| bi c)) := Kp.rf.w (Or.inr ⟨rfl, rfl⟩)
            have hunlt : uns u (rd M1 0 46 ||| bi c) < n0 := by
              have t1 := uns_lt (u := u) hc cs inc sub
              have t2 : uns u (rd M1 0 46) ≤ uns u (rd M 0 46) := by
                unfold uns
                have : ∀ k, cnt (fun r => !bt (rd M1 0 46) r) k ≤ cnt (fun r => !bt (rd M 0 46) r) k := cnt_le2 (fun r hr => by
                  cases z : bt (rd M 0 46) r
                  · rfl
                  · rw [hZs r z] at hr; cases hr)
                exact this _
              omega
            have hb2 : c = b ∨ bt (rd (wr M1 0 46 (rd M1 0 46 ||| bi c)) 0 46) b = false := by
              rw [k46]
              by_cases e : c = b
              · exact Or.inl e
              · right
                rw [b_or, hZb1, b_bi (by omega), decide_eq_false (fun z => e z.symm)]; rfl
            obtain ⟨r1, r2, r3⟩ := ihn c g (wr M1 0 46 (rd M1 0 46 ||| bi c)) (hq1.k hK2) hc hg1.k hgA (by rw [k46]; exact inc) hb2 (by rw [k46]; exact hunlt)
            rw [k46] at r3
            simp only [r1, if_true, if_false, true_imp_iff, false_imp_iff, not_true_eq_false, not_false_eq_true, true_and, and_true, implies_true, reduceIte]
            generalize G_12_isMore n0 (nI c) (nI b) R (wr M1 0 46 (rd M1 0 46 ||| bi c)) = W at r2 r3
            have hKW : Kp rF M W.2 := hK.tr (hK2.tr r2)
            rw [P_12_isMore_180, F_12_isMore_180]
            rcases r3 with ⟨w1, g', h1, h2, h3, h4⟩ | ⟨w1, h1, h2, h3, h4⟩
            · rw [w1]
              simp only [i1_0, if_true, if_false, true_imp_iff, false_imp_iff, not_true_eq_false, not_false_eq_true, true_and, and_true, implies_true, reduceIte]
              have eg : g' i = g i := by
                apply Classical.byContradiction
                intro hne
                obtain ⟨x, y, h5, h6⟩ := h4 i hne
                have := (rsD_un hrs h5).2
                rw [← this, inc] at h6; cases h6
              have hrs' : rsD u (alw s R) g' i a c := by
                obtain ⟨p1, p2, p3⟩ := hrs
                rw [← eg] at p3
                exact ⟨p1, p2, p3⟩
              have hfin : MoQ u (alw s R) g a b (rd M 0 46) M (1, wr W.2 27 i (if (!g i) = true then 1 else 0)) := by
                refine ⟨hKW.w (Or.inl rfl), Or.inl ⟨rfl, upB g' i (!g i), h1.up i (!g i), fun d hd => ?_, fun X => ?_, fun d hd => ?_⟩⟩
                · by_cases e : d = i
                  · subst e; exact ⟨hi, hrs.2.1⟩
                  · rw [upB_n e] at hd; exact h2 d hd
                · rw [← eg, netF_flip hrs', if_pos hi, h3 X]; omega
                · by_cases e : d = i
                  · subst e
                    exact ⟨a, c, hrs, Bool.eq_false_iff.mpr (fun z => by rw [hZs c z] at cs; cases cs)⟩
                  · rw [upB_n e] at hd
                    obtain ⟨x, y, h5, h6⟩ := h4 d hd
                    refine ⟨x, y, h5, Bool.eq_false_iff.mpr (fun z => ?_)⟩
                    rw [sub y (hZs y z)] at h6; cases h6
              rw [nI_clamp (by omega)]
              cases cg : g i
              · rw [cg] at hfin
                simp only [Bool.false_eq_true, i1_0, v1, if_true, if_false, true_imp_iff, false_imp_iff, not_true_eq_false, not_false_eq_true, true_and, and_true, implies_true, reduceIte]
                simpa using hfin
              · rw [cg] at hfin
                simp only [v1, if_true, if_false, true_imp_iff, false_imp_iff, not_true_eq_false, not_false_eq_true, true_and, and_true, implies_true, reduceIte]
                simpa using hfin
            · rw [w1]
              simp only [P_12_isMore_205, F_12_isMore_205, if_true, if_false, true_imp_iff, false_imp_iff, not_true_eq_false, not_false_eq_true, true_and, and_true, implies_true, reduceIte]
              refine ih W.2 ⟨hKW, h1, fun j hj => h2 j (sub j (hZs j hj)), h3, fun d x y hr hx => ?_⟩
              rcases hx with ⟨hx1, hx2⟩ | ⟨hx, hd⟩
              · by_cases z : bt (rd M1 0 46) x = true
                · exact h2 y (sub y (hcl d x y hr (Or.inl ⟨z, hx2⟩)))
                · by_cases z2 : x = c
                  · exact h4 d x y hr (Or.inr z2)
                  · refine h4 d x y hr (Or.inl ⟨hx1, ?_⟩)
                    rw [b_or, Bool.eq_false_iff.mpr z, b_bi (by omega), decide_eq_false z2]; rfl
              · by_cases e : d = i
                · subst e
                  have := (rsD_un hrs hr).2
                  rw [← this]; exact h2 c inc
                · exact h2 y (sub y (hcl d x y hr (Or.inr ⟨hx, by omega⟩)))
          · have := skip (fun x y hr hx => by
              have := (rsD_un hrs hr).2
              rw [← this]; exact cs)
            simpa using this
        rw [P_12_isMore_10, F_12_isMore_10, cl0, cl1, hq1.1.2.2.1]
        simp only [q1, b1, b2, hR, ib0, v1, cl0, cl1, f1, f2, nI_clamp (n := i) (by omega), e1, e2, g27, ib1, if_true, if_false, true_imp_iff, false_imp_iff, not_true_eq_false, not_false_eq_true, true_and, and_true, implies_true, reduceIte, P_12_isMore_72, P_12_isMore_73, P_12_isMore_103, P_12_isMore_104, P_12_isMore_132, P_12_isMore_205, F_12_isMore_72, F_12_isMore_73, F_12_isMore_103, F_12_isMore_104, F_12_isMore_132, F_12_isMore_205, i1_0]
        cases cB : sB s i
        · cases cR : bt R i
          · cases cg : g i
            · by_cases cF : uF u i = a
              · have cG : ¬ uG u i = a := fun z => w.2.2.1 (cF.trans z.symm)
                have := go (uG u i) w.2.1 ⟨hi, by rw [eA, cB, cR]; rfl, Or.inl ⟨cg, cF, rfl⟩⟩
                rw [cg] at this
                simpa [cF, cG] using this
              · have := skip (fun x y hr hx => by
                  obtain ⟨_, _, ⟨_, p2, _⟩ | ⟨p1, _, _⟩⟩ := hr
                  · exact absurd (p2.trans hx) cF
                  · rw [cg] at p1; cases p1)
                by_cases cG : uG u i = a <;> simpa [cF, cG] using this
            · by_cases cG : uG u i = a
              · have cF : ¬ uF u i = a := fun z => w.2.2.1 (z.trans cG.symm)
                have := go (uF u i) w.1 ⟨hi, by rw [eA, cB, cR]; rfl, Or.inr ⟨cg, cG, rfl⟩⟩
                rw [cg] at this
                simpa [cF, cG] using this
              · have := skip (fun x y hr hx => by
                  obtain ⟨_, _, ⟨p1, _, _⟩ | ⟨_, p2, _⟩⟩ := hr
                  · rw [cg] at p1; cases p1
                  · exact absurd (p2.trans hx) cG)
                by_cases cF : uF u i = a <;> simpa [cF, cG] using this
          · have := skip (fun x y hr hx => by
              have := hr.2.1
              rw [eA, cR, Bool.not_true, Bool.and_false] at this; cases this)
            simpa using this
        · have := skip (fun x y hr hx => by
            have := hr.2.1
            rw [eA, cB] at this; cases this)
          simpa using this
      · rintro m M1 ⟨hK, hg1, hZs, hZb1, hcl⟩
        try dsimp only
        have hq1 := hq.k hK
        have q1 : nI (uM u) ≤ nI (uM u) := nI_le (Nat.le_refl _) (by omega)
        rw [P_12_isMore_10, F_12_isMore_10, cl1, hq1.1.2.2.1]
        simp only [q1, if_true, if_false, true_imp_iff, false_imp_iff, not_true_eq_false, not_false_eq_true, true_and, and_true, implies_true, reduceIte]
        refine ⟨hK, Or.inr ⟨rfl, hg1, hZs, hZb1, fun d x y hr hx => ?_⟩⟩
        rcases hx with hx | hx
        · exact hcl d x y hr (Or.inl hx)
        · exact hcl d x y hr (Or.inr ⟨hx, hr.1⟩)
      · rcases h with ⟨h1, h2⟩ | ⟨_, h⟩
        · rw [h1] at h2; cases h2
        · omega
