/-! MATHEMATICS 56: the call law in the class -/
def CLe (o : TRs (List Int32)) (M : Mem) (z : Oc) : Prop := match o with
  | .inl e => ∃ M', z = .inl (some (.int (nI e.1 - 10)), M') ∧ rd M' 1558 2 = nI e.2 ∧ Kp (fun c j => cLw c j ∨ (c = 1558 ∧ j = 2)) M M'
  | .inr L => ∃ M', z = .inl (some (.int 1), M') ∧ rd M' 1558 2 = -1 ∧ CL L M' ∧ (∀ c j, ¬ (cLw c j ∨ (c = 1583 ∧ j = 3) ∨ c = 1584 ∨ (c = 1558 ∧ j = 2)) → rd M' c j = rd M c j ∧ rl M' c j = rl M c j)
theorem c_lawG {tb : Nat → Nat} {n t : Nat} {M : Mem} (hn : n ≤ 150) (hnt : n ≤ t) (ht : t ≤ 600) (h1 : rd M 1558 1 = nI t) (hT : ∀ i, i < t → rd M 1559 i &&& 255 = nI (tb i) ∧ (rd M 1559 i = 32 ↔ tb i = 32) ∧ tb i < 256) : P_11_law_0 (nI n) M ∧ ∃ M1, Kp cTk M M1 ∧ rd M1 1558 1 = 0 ∧ CLe (lawA tb n) M1 (F_11_law_0 (nI n) M) := by
  have e0 : (0 : Int32) ≤ nI n := (nI_leI (a := 0) (by omega) (by omega)).mpr (Nat.zero_le _)
  have e150 : nI n ≤ 150 := (nI_leI (b := 150) (by omega) (by omega)).mpr hn
  have et : nI n ≤ nI t := (nI_leI (by omega) (by omega)).mpr hnt
  have cond : 0 ≤ nI n ∧ nI n ≤ (if nI t < 150 then nI t else 150) := by
    refine ⟨e0, ?_⟩
    split
    · exact et
    · exact e150
  rw [P_11_law_0, F_11_law_0, h1, if_pos cond]
  obtain ⟨M1, a1, a2, a3, a4, a5⟩ := c_take (tb := tb) (n := n) (M := M) (by omega) (fun i hi => hT i (by omega))
  rw [a1]
  obtain ⟨b1, b2⟩ := c_law hn a2
  rw [P_11_law_13, F_11_law_13]
  refine ⟨fun _ => b1, M1, a5, a3, ?_⟩
  generalize F_2_read_0 M1 = z at *
  obtain ⟨x, M2⟩ := z
  rw [F_11_law_24]
  cases o : lawA tb n with
  | inl e =>
    rw [o] at b2
    obtain ⟨c1, c2, c3⟩ : x = 0 ∧ CErr e M2 ∧ Kp cLw M1 M2 := b2
    rw [if_pos c1, c_fot c2, F_11_law_31]
    exact ⟨_, rfl, rd_s _ _ _ _, (c3.mono (fun c j z => Or.inl z)).w (Or.inr ⟨rfl, rfl⟩)⟩
  | inr L =>
    rw [o] at b2
    obtain ⟨c1, c2, c3⟩ : x = 1 ∧ CL L M2 ∧ (∀ c j, ¬ (cLw c j ∨ (c = 1583 ∧ j = 3) ∨ c = 1584) → rd M2 c j = rd M1 c j ∧ rl M2 c j = rl M1 c j) := b2
    rw [if_neg (x1 c1)]
    refine ⟨_, rfl, rd_s _ _ _ _, ⟨c2.1, by rw [rd_c (by decide)]; exact c2.2.1, fun i hi => by rw [rd_c (by decide)]; exact c2.2.2 i hi⟩, fun c j hne => ?_⟩
    have k := c3 c j (fun z => hne (z.elim Or.inl (fun y => Or.inr (y.elim Or.inl (fun x => Or.inr (Or.inl x))))))
    refine ⟨?_, k.2⟩
    rw [rd_wr, if_neg (fun z => hne (Or.inr (Or.inr (Or.inr z))))]
    exact k.1
