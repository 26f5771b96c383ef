/-! MATHEMATICS 31: the museum's clauses, as such and in the reference -/
def bnd {α β : Type} (o : TRs α) (f : α → TRs β) : TRs β := match o with
  | .inl e => .inl e
  | .inr a => f a
def up (f : Nat → Nat) (i v : Nat) : Nat → Nat := fun j => if j = i then v else f j
theorem up_s {f : Nat → Nat} {i v : Nat} : up f i v i = v := by unfold up; rw [if_pos rfl]
theorem up_o {f : Nat → Nat} {i v j : Nat} (h : j ≠ i) : up f i v j = f j := by unfold up; rw [if_neg h]
abbrev DU : Type := MU × (Nat → Nat)
def aR (d : DU) (v : Nat) : DU := ((uN d.1 + 1, uM d.1, uT d.1, uX d.1, uF d.1, uG d.1, uO d.1, uS d.1, up (uE d.1) (uN d.1) v, up (uL d.1) (uN d.1) 16), d.2)
def aD (d : DU) (a b o s : Nat) : DU := ((uN d.1, uM d.1 + 1, uT d.1, uX d.1, up (uF d.1) (uM d.1) a, up (uG d.1) (uM d.1) b, up (uO d.1) (uM d.1) o, up (uS d.1) (uM d.1) s, uE d.1, uL d.1), d.2)
def aX (d : DU) (r : Nat) : DU := ((uN d.1, uM d.1, uT d.1, uX d.1 ||| ((1 : Int32) <<< (nI r &&& 31)), uF d.1, uG d.1, uO d.1, uS d.1, uE d.1, uL d.1), d.2)
def aT (d : DU) (r : Nat) : DU := ((uN d.1, uM d.1, uT d.1 + 1, uX d.1, uF d.1, uG d.1, uO d.1, uS d.1, uE d.1, uL d.1), up d.2 (uT d.1) r)
def aW (d : DU) (r v : Nat) : DU := ((uN d.1, uM d.1, uT d.1, uX d.1, uF d.1, uG d.1, uO d.1, uS d.1, uE d.1, up (uL d.1) r v), d.2)
def DW (d : DU) : Prop := UW d.1 ∧ ∀ t, t < uT d.1 → d.2 t < uN d.1
theorem aR_w {d : DU} {v : Nat} (h : DW d) (hn : uN d.1 < 10) (hv : v < 8) : DW (aR d v) := by
  obtain ⟨⟨h1, h2, h3, h4, h5, h6⟩, h7⟩ := h
  refine ⟨⟨?_, h2, h3, ?_, ?_, ?_⟩, ?_⟩
  · show uN d.1 + 1 ≤ 10
    omega
  · intro i hi
    exact h4 i (by have : uN d.1 + 1 ≤ i := hi; omega)
  · intro e he
    obtain ⟨g1, g2, g3⟩ := h5 e he
    refine ⟨?_, ?_, g3⟩
    · show uF d.1 e < uN d.1 + 1
      omega
    · show uG d.1 e < uN d.1 + 1
      omega
  · intro r hr
    have hr' : r < uN d.1 + 1 := hr
    show up (uE d.1) (uN d.1) v r < 8 ∧ up (uL d.1) (uN d.1) 16 r ≤ 16
    by_cases e : r = uN d.1
    · rw [e, up_s, up_s]; omega
    · rw [up_o e, up_o e]; exact h6 r (by omega)
  · intro t ht
    have := h7 t ht
    show d.2 t < uN d.1 + 1
    omega
theorem aD_w {d : DU} {a b o s : Nat} (h : DW d) (hm : uM d.1 < 24) (ha : a < uN d.1) (hb : b < uN d.1) (hab : b ≠ a) (ho : o ≤ s) (hs : s < 24) : DW (aD d a b o s) := by
  obtain ⟨⟨h1, h2, h3, h4, h5, h6⟩, h7⟩ := h
  refine ⟨⟨h1, ?_, h3, h4, ?_, h6⟩, h7⟩
  · show uM d.1 + 1 ≤ 24
    omega
  · intro e he
    have he' : e < uM d.1 + 1 := he
    show up (uF d.1) (uM d.1) a e < uN d.1 ∧ up (uG d.1) (uM d.1) b e < uN d.1 ∧ up (uF d.1) (uM d.1) a e ≠ up (uG d.1) (uM d.1) b e ∧ up (uO d.1) (uM d.1) o e ≤ up (uS d.1) (uM d.1) s e ∧ up (uS d.1) (uM d.1) s e < 24
    by_cases c : e = uM d.1
    · rw [c, up_s, up_s, up_s, up_s]
      exact ⟨ha, hb, fun z => hab z.symm, ho, hs⟩
    · rw [up_o c, up_o c, up_o c, up_o c]; exact h5 e (by omega)
theorem aX_w {d : DU} {r : Nat} (h : DW d) (hr : r < uN d.1) : DW (aX d r) := by
  obtain ⟨⟨h1, h2, h3, h4, h5, h6⟩, h7⟩ := h
  refine ⟨⟨h1, h2, h3, ?_, h5, h6⟩, h7⟩
  intro i hi
  have hi' : uN d.1 ≤ i := hi
  show bt (uX d.1 ||| ((1 : Int32) <<< (nI r &&& 31))) i = false
  rw [bi_of, b_or, b_bi (by omega), h4 i hi']
  simp only [Bool.false_or, decide_eq_false_iff_not]
  omega
theorem aT_w {d : DU} {r : Nat} (h : DW d) (ht : uT d.1 < 6) (hr : r < uN d.1) : DW (aT d r) := by
  obtain ⟨⟨h1, h2, h3, h4, h5, h6⟩, h7⟩ := h
  refine ⟨⟨h1, h2, ?_, h4, h5, h6⟩, ?_⟩
  · show uT d.1 + 1 ≤ 6
    omega
  · intro t ht'
    have ht2 : t < uT d.1 + 1 := ht'
    show up d.2 (uT d.1) r t < uN d.1
    by_cases c : t = uT d.1
    · rw [c, up_s]; exact hr
    · rw [up_o c]; exact h7 t (by omega)
theorem aW_w {d : DU} {r v : Nat} (h : DW d) (hv : v ≤ 16) : DW (aW d r v) := by
  obtain ⟨⟨h1, h2, h3, h4, h5, h6⟩, h7⟩ := h
  refine ⟨⟨h1, h2, h3, h4, h5, ?_⟩, h7⟩
  intro e he
  have he' : e < uN d.1 := he
  show uE d.1 e < 8 ∧ up (uL d.1) r v e ≤ 16
  refine ⟨(h6 e he').1, ?_⟩
  by_cases c : e = r
  · rw [c, up_s]; exact hv
  · rw [up_o c]; exact (h6 e he').2
def sgA (tb : Nat → Nat) (n : Nat) (x : DU × Nat) : TRs (DU × Nat) := bnd (tkS 59 tb n x.2) (fun p => .inr (x.1, p))
def clR (tb : Nat → Nat) (n : Nat) (d : DU) (p : Nat) : TRs (DU × Nat) := bnd (tkN tb n p 0 8) (fun x => .inr (aR d x.1, x.2))
def clD (tb : Nat → Nat) (n : Nat) (d : DU) (p : Nat) : TRs (DU × Nat) := bnd (tkN tb n p 0 (uN d.1)) (fun a => bnd (tkN tb n a.2 0 (uN d.1)) (fun b => if b.1 = a.1 then .inl (2, skT tb n a.2) else bnd (tkN tb n b.2 0 24) (fun o => bnd (tkN tb n o.2 o.1 24) (fun s => .inr (aD d a.1 b.1 o.1 s.1, s.2)))))
def clX (tb : Nat → Nat) (n : Nat) (d : DU) (p : Nat) : TRs (DU × Nat) := bnd (tkN tb n p 0 (uN d.1)) (fun x => .inr (aX d x.1, x.2))
def clT (tb : Nat → Nat) (n : Nat) (d : DU) (p : Nat) : TRs (DU × Nat) := bnd (tkN tb n p 0 (uN d.1)) (fun x => .inr (aT d x.1, x.2))
def clW (tb : Nat → Nat) (n : Nat) (d : DU) (p : Nat) : TRs (DU × Nat) := bnd (tkN tb n p 0 (uN d.1)) (fun a => bnd (tkN tb n a.2 0 17) (fun v => .inr (aW d a.1 v.1, v.2)))
def clA (tb : Nat → Nat) (n : Nat) (d : DU) (full : Prop) [Decidable full] (p : Nat) : TRs (DU × Nat) :=
  if isW (wT 1) tb n (skT tb n p) = true then (if full ∨ uN d.1 = 10 then .inl (3, skT tb n p) else clR tb n d (weT tb n (skT tb n p)))
  else if isW (wT 2) tb n (skT tb n p) = true then (if full ∨ uM d.1 = 24 then .inl (3, skT tb n p) else clD tb n d (weT tb n (skT tb n p)))
  else if isW (wT 4) tb n (skT tb n p) = true then (if full ∨ uT d.1 = 6 then .inl (3, skT tb n p) else clT tb n d (weT tb n (skT tb n p)))
  else if isW (wT 3) tb n (skT tb n p) = true then (if full then .inl (3, skT tb n p) else clX tb n d (weT tb n (skT tb n p)))
  else if isW (wT 5) tb n (skT tb n p) = true then (if full then .inl (3, skT tb n p) else clW tb n d (weT tb n (skT tb n p)))
  else .inl (1, skT tb n p)
theorem tkN_b {tb : Nat → Nat} {n p lo hi v q : Nat} (h : tkN tb n p lo hi = .inr (v, q)) : lo ≤ v ∧ v < hi ∧ q ≤ n ∧ v ≤ 100000 := by
  unfold tkN at h
  by_cases c1 : skT tb n p < n ∧ dgP (tb (skT tb n p)) = true
  · rw [if_pos c1] at h
    by_cases c2 : lo ≤ vlT tb n (skT tb n p) ∧ vlT tb n (skT tb n p) < hi
    · rw [if_pos c2] at h
      cases h
      exact ⟨c2.1, c2.2, (nxE_b (P := dgP) (tb := tb) (n := n) (n - skT tb n p) (skT tb n p) (by omega)).2.1, nvT_le _⟩
    · rw [if_neg c2] at h; cases h
  · rw [if_neg c1] at h; cases h
theorem tkN_sk {tb : Nat → Nat} {n p lo hi : Nat} (hp : p ≤ n) : tkN tb n (skT tb n p) lo hi = tkN tb n p lo hi := by
  unfold tkN
  rw [sk_sk hp]
theorem hin_c {lo hi v : Nat} (h1 : lo < 2 ^ 31) (h2 : hi < 2 ^ 31) (hv : v ≤ 100000) : (nI lo ≤ nI v ∧ nI v ≤ nI hi) ↔ (lo ≤ v ∧ v < hi + 1) := by
  rw [nI_leI h1 (by omega), nI_leI (by omega) h2]
  omega
theorem hin_r' {N v : Nat} (hN : N ≤ 10) (hv : v ≤ 100000) : (nI v ≤ nI N - 1) ↔ v < N := by
  by_cases c : N = 0
  · subst c
    have e : nI 0 - 1 = -1 := rfl
    rw [e]
    constructor
    · intro z
      exact absurd (Int32.le_trans ((nI_leI (a := 0) (by omega) (by omega)).mpr (Nat.zero_le v)) z) (by decide)
    · intro z; omega
  · rw [show (1 : Int32) = nI 1 from rfl, pk_sub (by omega), nI_leI (by omega) (by omega)]
    omega
theorem hin_r {N v : Nat} (hN : N ≤ 10) (hv : v ≤ 100000) : ((0 : Int32) ≤ nI v ∧ nI v ≤ nI N - 1) ↔ (0 ≤ v ∧ v < N) := by
  rw [hin_r' hN hv]
  exact ⟨fun z => ⟨Nat.zero_le _, z.2⟩, fun z => ⟨(nI_leI (a := 0) (by omega) (by omega)).mpr (Nat.zero_le v), z.2⟩⟩
/-! the reference -/
theorem r_numberN {x y : Int32} {M : Mem} (h : ¬ rd M 0 5 = 0) : P_12_number_0 x y M ∧ F_12_number_0 x y M = (0, M) := by
  rw [P_12_number_0, F_12_number_0, if_neg h]
  exact ⟨⟨fun z => absurd z h, fun _ => trivial⟩, rfl⟩
theorem r_signN {x : Int32} {M : Mem} (h : ¬ rd M 0 5 = 0) : P_12_sign_0 x M ∧ F_12_sign_0 x M = M := by
  rw [P_12_sign_0, F_12_sign_0, if_neg h]
  exact ⟨⟨fun z => absurd z h, fun _ => trivial⟩, rfl⟩
def RD (d : DU) (M : Mem) : Prop := DW d ∧ rd M 3 0 = nI (uN d.1) ∧ rd M 3 1 = nI (uM d.1) ∧ rd M 3 2 = nI (uT d.1) ∧ rd M 3 3 = uX d.1 ∧ (∀ e, e < uM d.1 → rd M (30 + e) 0 = nI (uF d.1 e) ∧ rd M (30 + e) 1 = nI (uG d.1 e) ∧ rd M (30 + e) 2 = nI (uO d.1 e) ∧ rd M (30 + e) 3 = nI (uS d.1 e)) ∧ (∀ r, r < uN d.1 → rd M 5 r = nI (uE d.1 r) ∧ rd M 7 r = nI (uL d.1 r)) ∧ (∀ r, uN d.1 ≤ r → r < 10 → rd M 7 r = 16) ∧ (∀ t, t < uT d.1 → rd M 9 t = nI (d.2 t))
def rD (c _j : Nat) : Prop := c = 3 ∨ c = 5 ∨ c = 7 ∨ c = 9 ∨ (30 ≤ c ∧ c < 54)
def rC (c j : Nat) : Prop := (c = 0 ∧ 4 ≤ j ∧ j ≤ 7) ∨ rD c j
theorem RD.k {p : Nat → Nat → Prop} {d : DU} {M M' : Mem} (h : RD d M) (hk : Kp p M M') (hp : ∀ c j, p c j → ¬ rD c j) : RD d M' := by
  have gg : ∀ c j, rD c j → rd M' c j = rd M c j := fun c j z => hk.g (fun w => hp _ _ w z)
  obtain ⟨h0, h1, h2, h3, h4, h5, h6, h7, h8⟩ := h
  have hM := h0.1.2.1
  refine ⟨h0, ?_, ?_, ?_, ?_, fun e he => ?_, fun r hr => ?_, fun r hr hr2 => ?_, fun t ht => ?_⟩
  · rw [gg 3 0 (Or.inl rfl)]; exact h1
  · rw [gg 3 1 (Or.inl rfl)]; exact h2
  · rw [gg 3 2 (Or.inl rfl)]; exact h3
  · rw [gg 3 3 (Or.inl rfl)]; exact h4
  · have g : ∀ j, rd M' (30 + e) j = rd M (30 + e) j := fun j => gg _ j (by unfold rD; omega)
    rw [g, g, g, g]; exact h5 e he
  · rw [gg 5 r (by unfold rD; omega), gg 7 r (by unfold rD; omega)]; exact h6 r hr
  · rw [gg 7 r (by unfold rD; omega)]; exact h7 r hr hr2
  · rw [gg 9 t (by unfold rD; omega)]; exact h8 t ht
theorem RD.t {d : DU} {M M' : Mem} (h : RD d M) (hk : Kp rT M M') : RD d M' := h.k hk (fun c j z => by unfold rT at z; unfold rD; omega)
/-- what a clause leaves -/
def RC (tb : Nat → Nat) (n c : Nat) (o : TRs (DU × Nat)) (M : Mem) : Prop := match o with
  | .inl e => RE e M ∧ TxE tb n M
  | .inr x => RT tb n x.2 M ∧ RD x.1 M ∧ rd M 0 7 = nI c
theorem Kp.tC {M M' : Mem} (h : Kp rT M M') : Kp rC M M' := h.mono (fun c j z => by unfold rT at z; unfold rC; omega)
theorem Kp.dC {M M' : Mem} (h : Kp rD M M') : Kp rC M M' := h.mono (fun c j z => Or.inr z)
theorem RE.d {e : Nat × Nat} {M M' : Mem} (h : RE e M) (hk : Kp rD M M') : RE e M' := h.k hk (fun c j z => by unfold rD at z; omega)
theorem RT.d {tb : Nat → Nat} {n p : Nat} {M M' : Mem} (h : RT tb n p M) (hk : Kp rD M M') : RT tb n p M' := h.k hk (fun c j z => by unfold rD at z; omega)
theorem Tx.d {tb : Nat → Nat} {n : Nat} {M M' : Mem} (h : Tx tb n M) (hk : Kp rD M M') : Tx tb n M' := h.k hk (fun c j z => by unfold rD at z; omega)
theorem TxE.d {tb : Nat → Nat} {n : Nat} {M M' : Mem} (h : TxE tb n M) (hk : Kp rD M M') : TxE tb n M' := by
  obtain ⟨h1, p, h2, h3⟩ := h
  exact ⟨h1.d hk, p, h2, by rw [hk.g (by unfold rD; omega)]; exact h3⟩
theorem r_tailN {tb : Nat → Nat} {n k : Nat} {e : Nat × Nat} {M : Mem} (h : RE e M) (ht : TxE tb n M) (hk : k ≤ 4) : P_12_clause_326 (nI k) M ∧ ∃ M', F_12_clause_326 (nI k) M = M' ∧ (RE e M' ∧ TxE tb n M') ∧ Kp rC M M' := by
  have e3 : ((3 : Int32) ≤ nI k) ↔ 3 ≤ k := nI_leI (a := 3) (by omega) (by omega)
  rw [P_12_clause_326, F_12_clause_326]
  simp only [e3, P_12_clause_350, F_12_clause_350, P_12_clause_352, F_12_clause_352, F_12_clause_358, h.ne, nI_clamp (n := k) (by omega), if_true, if_false, true_imp_iff, false_imp_iff, not_true_eq_false, not_false_eq_true, true_and, and_true, implies_true, reduceIte]
  by_cases c : 3 ≤ k
  · obtain ⟨s1, s2⟩ := r_signN (x := 59) h.ne
    simp only [c, s1, s2, if_true, if_false, true_imp_iff, false_imp_iff, not_true_eq_false, not_false_eq_true, true_and, and_true, implies_true, reduceIte]
    exact ⟨M, rfl, ⟨h, ht⟩, Kp.rf⟩
  · have hK : Kp rD M (wr M 3 k (rd M 3 k + 0)) := Kp.rf.w (Or.inl rfl)
    obtain ⟨s1, s2⟩ := r_signN (x := 59) (h.d hK).ne
    have v1 : vp_in (nI k) 4 := (vp_iff (by omega)).mpr (by omega)
    simp only [c, s1, s2, v1, if_true, if_false, true_imp_iff, false_imp_iff, not_true_eq_false, not_false_eq_true, true_and, and_true, implies_true, reduceIte]
    exact ⟨_, rfl, ⟨h.d hK, ht.d hK⟩, hK.dC⟩
theorem r_tail {tb : Nat → Nat} {n k p c : Nat} {d' : DU} {M : Mem} (h : RT tb n p M) (hk : k ≤ 4) (h7 : rd M 0 7 = nI c) (hd : RD d' (if k < 3 then wr M 3 k (rd M 3 k + 1) else M)) : P_12_clause_326 (nI k) M ∧ ∃ M', F_12_clause_326 (nI k) M = M' ∧ RC tb n c (sgA tb n (d', p)) M' ∧ Kp rC M M' := by
  have e3 : ((3 : Int32) ≤ nI k) ↔ 3 ≤ k := nI_leI (a := 3) (by omega) (by omega)
  rw [P_12_clause_326, F_12_clause_326]
  simp only [e3, P_12_clause_350, F_12_clause_350, P_12_clause_352, F_12_clause_352, F_12_clause_358, h.2.2.2, nI_clamp (n := k) (by omega), if_true, if_false, true_imp_iff, false_imp_iff, not_true_eq_false, not_false_eq_true, true_and, and_true, implies_true, reduceIte]
  have key : ∀ M0 : Mem, RT tb n p M0 → rd M0 0 7 = nI c → RD d' M0 → P_12_sign_0 59 M0 ∧ ∃ M', F_12_sign_0 59 M0 = M' ∧ RC tb n c (sgA tb n (d', p)) M' ∧ Kp rC M0 M' := by
    intro M0 a1 a2 a3
    obtain ⟨s1, M', s2, s3, s4⟩ := r_sign (c := 59) a1 (by omega)
    refine ⟨s1, M', s2, ?_, s4.tC⟩
    unfold sgA
    cases o : tkS 59 tb n p with
    | inl e => rw [o] at s3; exact s3
    | inr q =>
      rw [o] at s3
      refine ⟨s3, a3.t s4, ?_⟩
      rw [s4.g (by unfold rT; omega)]; exact a2
  by_cases cc : 3 ≤ k
  · rw [if_neg (by omega)] at hd
    obtain ⟨s1, M', s2, s3, s4⟩ := key M h h7 hd
    simp only [cc, s1, if_true, if_false, true_imp_iff, false_imp_iff, not_true_eq_false, not_false_eq_true, true_and, and_true, implies_true, reduceIte]
    exact ⟨M', s2, s3, s4⟩
  · rw [if_pos (by omega)] at hd
    have hK : Kp rD M (wr M 3 k (rd M 3 k + 1)) := Kp.rf.w (Or.inl rfl)
    obtain ⟨s1, M', s2, s3, s4⟩ := key _ (h.d hK) (by rw [rd_c (by decide)]; exact h7) hd
    have v1 : vp_in (nI k) 4 := (vp_iff (by omega)).mpr (by omega)
    simp only [cc, v1, s1, if_true, if_false, true_imp_iff, false_imp_iff, not_true_eq_false, not_false_eq_true, true_and, and_true, implies_true, reduceIte]
    exact ⟨M', s2, s3, hK.dC.tr s4⟩
