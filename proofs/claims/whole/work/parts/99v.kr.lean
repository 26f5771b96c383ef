/-! MAKING: the run -/
def fz {α : Type} (n : Nat) (f : Nat → α) : α := match n with
  | 0 => f 0
  | m + 1 => f (m + 1)
theorem fz_eq {α : Type} (n : Nat) (f : Nat → α) : fz n f = f n := by cases n <;> rfl
def kcal (o : Nat) (i : Instr) : Option KQ := match i with
  | .invokespecial j => calF 1 o j calT
  | .invokevirtual j => calF 2 o j calT
  | .invokestatic j => calF 3 o j calT
  | _ => none
def kargs (kd n ci : Nat) (st : List Value) (L : List ME) : Option (List Value × List Value) :=
  bif Nat.beq kd 3 then (bif Nat.beq (st.take n).length n then some ((st.take n).reverse, st.drop n) else none) else
  match st.drop n with
  | .ref z :: r => match L[z]? with
    | some (.inl (c2, _)) => bif Nat.beq (st.take n).length n && Nat.beq c2 ci then some (.ref z :: (st.take n).reverse, r) else none
    | _ => none
  | _ => none
def kbody (rc : Nat → MD → Nat → KS → Option KS) (k : Nat) (md : MD) (stop : Nat) (x : KS) : Option KS := match x with
  | (pc, lv, st, L, n1, n2) => bif Nat.beq pc stop then some (pc, lv, st, L, n1, n2) else
    match decode md.2.2.1 pc with
    | .ok (i, len) => match kcal md.1 i with
      | some (_, _, kd, mc, n, pcE) => match k with
        | 0 => none
        | d + 1 => match kargs kd n mc.1 st L with
          | some (args, rest) => match rc d mc pcE (0, ent mc.2.2.2.1 args, [], L, 0, 0) with
            | some (p2, l2, [], L1, cx, sx) => bif Nat.beq len 3 && Nat.beq p2 pcE && Nat.ble (wid args) mc.2.2.2.1 && Nat.ble (wid rest) 8 && Nat.blt (lenA L1 0) 1000000 then fz (pc + 3) (fun pc => fz (n1 + cx) (fun n1 => fz (n2 + sx) (fun n2 => rc (d + 1) md stop (pc, lv, rest, L1, n1, n2)))) else none
            | _ => none
          | none => none
      | none => match ks k md pc i len lv st L n1 n2 with
        | some (p2, l2, s2, L2, m1, m2) => fz p2 (fun p2 => fz m1 (fun m1 => fz m2 (fun m2 => rc k md stop (p2, l2, s2, L2, m1, m2))))
        | none => none
    | .error _ => none
noncomputable def krun (f : Nat) : Nat → MD → Nat → KS → Option KS := Nat.rec (motive := fun _ => Nat → MD → Nat → KS → Option KS) (fun _ _ _ _ => none) (fun _ ih => kbody ih) f
theorem kargs_ok {kd n ci : Nat} {st : List Value} {L : List ME} {args rest : List Value} (h : kargs kd n ci st L = some (args, rest)) : (kd = 3 ∧ st = args.reverse ++ rest ∧ args.length = n) ∨ (kd ≠ 3 ∧ ∃ (z : Nat) (As : List Value) (fs : List MV), args = .ref z :: As ∧ st = As.reverse ++ .ref z :: rest ∧ As.length = n ∧ L[z]? = some (.inl (ci, fs))) := by
  unfold kargs at h
  cases e : Nat.beq kd 3 with
  | true =>
    rw [e] at h
    cases e2 : Nat.beq (st.take n).length n with
    | true =>
      rw [e2] at h
      have h : some ((st.take n).reverse, st.drop n) = some (args, rest) := h
      cases h
      refine Or.inl ⟨Nat.eq_of_beq_eq_true e, ?_, ?_⟩
      · rw [List.reverse_reverse, List.take_append_drop]
      · rw [List.length_reverse]; exact Nat.eq_of_beq_eq_true e2
    | false => rw [e2] at h; cases h
  | false =>
    rw [e] at h
    try dsimp only [cond] at h
    split at h
    · rename_i z r e3
      split at h
      · rename_i c2 fs e4
        cases e5 : (Nat.beq (st.take n).length n && Nat.beq c2 ci) with
        | true =>
          rw [e5] at h
          have h : some (Value.ref z :: (st.take n).reverse, r) = some (args, rest) := h
          cases h
          have e6 := Bool.and_eq_true_iff.mp e5
          refine Or.inr ⟨fun q => by rw [q] at e; exact absurd e (by decide), z, (st.take n).reverse, fs, rfl, ?_, ?_, ?_⟩
          · rw [List.reverse_reverse, ← e3, List.take_append_drop]
          · rw [List.length_reverse]; exact Nat.eq_of_beq_eq_true e6.1
          · rw [e4, Nat.eq_of_beq_eq_true e6.2]
        | false => rw [e5] at h; cases h
      · cases h
    · cases h
theorem krun_ok {g : Gl} {b a : Nat} : ∀ (f k : Nat) (md : MD) (stop : Nat) (x y : KS), md.1 < 17 → krun f k md stop x = some y → Kt g b a k md x y ∧ y.1 = stop := by
  intro f
  induction f with
  | zero => intro k md stop x y _ h; cases h
  | succ f ih =>
    intro k md stop x y ho h
    have h : kbody (krun f) k md stop x = some y := h
    obtain ⟨pc, lv, st, L, n1, n2⟩ := x
    unfold kbody at h
    try dsimp only at h
    cases e : Nat.beq pc stop with
    | true =>
      rw [e] at h
      have h : some (pc, lv, st, L, n1, n2) = some y := h
      cases h
      exact ⟨Kt.rf, Nat.eq_of_beq_eq_true e⟩
    | false =>
      rw [e] at h
      try dsimp only [cond] at h
      split at h
      · rename_i i len hd
        split at h
        · rename_i q1 q2 kd mc n pcE hcal
          cases k with
          | zero => cases h
          | succ d =>
            try dsimp only at h
            split at h
            · rename_i args rest hargs
              split at h
              · rename_i p2 l2 L1 cx sx hrc
                cases e2 : (Nat.beq len 3 && Nat.beq p2 pcE && Nat.ble (wid args) mc.2.2.2.1 && Nat.ble (wid rest) 8 && Nat.blt (lenA L1 0) 1000000) with
                | true =>
                  rw [e2] at h
                  try dsimp only [cond] at h
                  rw [fz_eq, fz_eq, fz_eq] at h
                  simp only [Bool.and_eq_true] at e2
                  obtain ⟨⟨⟨⟨e3, e4⟩, e5⟩, e6⟩, e7⟩ := e2
                  have e3 := Nat.eq_of_beq_eq_true e3
                  subst e3
                  have e7 : L1.length < 1000000 := by have := blt_lt e7; rwa [lenA0] at this
                  obtain ⟨hk, -⟩ := ih (d + 1) md stop _ y ho h
                  refine ⟨?_, (ih (d + 1) md stop _ y ho h).2⟩
                  have hmem : (q1, q2, kd, mc, n, pcE) ∈ calT ∧ q1 = md.1 ∧ ((i = .invokespecial q2 ∧ kd = 1) ∨ (i = .invokevirtual q2 ∧ kd = 2) ∨ (i = .invokestatic q2 ∧ kd = 3)) := by
                    unfold kcal at hcal
                    split at hcal
                    · obtain ⟨m1, m2, m3, m4⟩ := calF_mem hcal
                      exact ⟨m1, m2, Or.inl ⟨by rw [← m3], m4⟩⟩
                    · obtain ⟨m1, m2, m3, m4⟩ := calF_mem hcal
                      exact ⟨m1, m2, Or.inr (Or.inl ⟨by rw [← m3], m4⟩)⟩
                    · obtain ⟨m1, m2, m3, m4⟩ := calF_mem hcal
                      exact ⟨m1, m2, Or.inr (Or.inr ⟨by rw [← m3], m4⟩)⟩
                    · cases hcal
                  obtain ⟨hmem, rfl, hkind⟩ := hmem
                  obtain ⟨c1, c2, c3, c4, c5, c6, c7⟩ := calT_ok _ hmem
                  try dsimp only at c1 c2 c3 c4 c5 c6 c7
                  obtain ⟨hkc, hpE⟩ := ih d mc pcE _ _ c7 hrc
                  have hpE : p2 = pcE := hpE
                  subst hpE
                  have hM : MsC g b a d cx sx mc args L L1 := MsC.of c1 c2 (Nat.le_of_ble_eq_true e5) c6 e7 hkc
                  have hmono : L.length ≤ L1.length := hkc.1.2.2
                  refine Kt.trans ?_ hk
                  rcases kargs_ok hargs with ⟨k3, hs, hl⟩ | ⟨k3, z, As, fs, rfl, hs, hl, hz⟩
                  · rcases hkind with ⟨hi, hk1⟩ | ⟨hi, hk1⟩ | ⟨hi, hk1⟩
                    · exact absurd (k3.symm.trans hk1) (by decide)
                    · exact absurd (k3.symm.trans hk1) (by decide)
                    · subst hi
                      exact K_callS hd (c5 hk1) hM (Nat.le_refl _) hs hl (Nat.le_of_ble_eq_true e6) hmono
                  · rcases hkind with ⟨hi, hk1⟩ | ⟨hi, hk1⟩ | ⟨hi, hk1⟩
                    · subst hi
                      exact K_callI hd (c3 hk1) hM (Nat.le_refl _) hs hl (Nat.le_of_ble_eq_true e6) hmono
                    · subst hi
                      exact K_callV hd (c4 hk1) hM (Nat.le_refl _) hz hs hl (Nat.le_of_ble_eq_true e6) hmono
                    · exact absurd hk1 k3
                | false => rw [e2] at h; cases h
              · cases h
            · cases h
        · rename_i hcal
          split at h
          · rename_i p2 l2 s2 L2 m1 m2 hks
            rw [fz_eq, fz_eq, fz_eq] at h
            have h1 := ih k md stop _ y ho h
            exact ⟨(ks_ok ho hd hks).trans h1.1, h1.2⟩
          · cases h
      · cases h
