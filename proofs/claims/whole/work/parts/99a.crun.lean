/-! MATHEMATICS 70: a work is done in the class -/
def CZ (u : MU) (L : List Int32) (len : Nat) (z : RU) (M : Mem) : Prop := CV u z.2.2.2 L M ∧ rd M 1587 4 = nI len ∧ rd M 1587 5 = nI z.2.1 ∧ rd M 1587 6 = nI z.2.2.1 ∧ z.1 ≤ 200
def cRn (lo hi c j : Nat) : Prop := cDo c j ∨ (c = 1591 ∧ lo ≤ j ∧ j < hi) ∨ (c = 1587 ∧ (j = 5 ∨ j = 6))
theorem Kp.cR {a b a' b' : Nat} {M M' : Mem} (h : Kp (cRn a b) M M') (h1 : a' ≤ a) (h2 : b ≤ b') : Kp (cRn a' b') M M' := h.mono (fun c j z => by unfold cRn cDo at z; unfold cRn cDo; omega)
def Pn (t b i : Nat) (M : Mem) : Prop := P_10_run_19 (7000 - t) (nI b) (nI i) (nI t) M
def Fn (t b i : Nat) (M : Mem) : Mem := F_10_run_19 (7000 - t) (nI b) (nI i) (nI t) M
def RTo (t b i : Nat) (M : Mem) (t' b' i' : Nat) (M' : Mem) : Prop := (b' < 200 → (Pn t' b' i' M' → Pn t b i M) ∧ Fn t b i M = Fn t' b' i' M') ∧ (¬ b' < 200 → Pn t b i M ∧ Fn t b i M = M')
theorem at200 {t i : Nat} {M : Mem} (ht : t < 7000) : Pn t 200 i M ∧ Fn t 200 i M = M := by
  unfold Pn Fn
  obtain ⟨g, e⟩ : ∃ g, 7000 - t = g + 1 := ⟨7000 - t - 1, by omega⟩
  have e2 : (200 : Int32) ≤ nI 200 := by decide
  rw [e, P_10_run_19, F_10_run_19]
  by_cases c : (6200 : Int32) ≤ nI t
  · rw [if_pos c]
    exact ⟨⟨fun _ => trivial, fun y => absurd c y⟩, rfl⟩
  · rw [if_neg c, if_pos e2]
    exact ⟨⟨fun _ => trivial, fun _ => ⟨fun _ => trivial, fun y => absurd e2 y⟩⟩, rfl⟩
theorem RTo.rf {t b i : Nat} {M : Mem} (ht : t < 7000) (hb : b ≤ 200) : RTo t b i M t b i M := by
  refine ⟨fun _ => ⟨id, rfl⟩, fun h => ?_⟩
  have e : b = 200 := by omega
  subst e
  exact at200 ht
theorem RTo.tr {t b i : Nat} {M : Mem} {t1 b1 i1 : Nat} {M1 : Mem} {t2 b2 i2 : Nat} {M2 : Mem} (h1 : RTo t b i M t1 b1 i1 M1) (h2 : RTo t1 b1 i1 M1 t2 b2 i2 M2) (hb : b1 ≤ 200) (ht : t1 < 7000) : RTo t b i M t2 b2 i2 M2 := by
  by_cases c : b1 < 200
  · obtain ⟨a1, a2⟩ := h1.1 c
    exact ⟨fun h => ⟨fun p => a1 ((h2.1 h).1 p), a2.trans (h2.1 h).2⟩, fun h => ⟨a1 (h2.2 h).1, a2.trans (h2.2 h).2⟩⟩
  · obtain ⟨a1, a2⟩ := h1.2 c
    have e : b1 = 200 := by omega
    subst e
    have f := (at200 (i := i1) (M := M1) ht).2
    exact ⟨fun h => ⟨fun _ => a1, a2.trans (f.symm.trans (h2.1 h).2)⟩, fun h => ⟨a1, a2.trans (f.symm.trans (h2.2 h).2)⟩⟩
theorem RTo.st {t b i : Nat} {M : Mem} {t1 b1 i1 : Nat} {M1 : Mem} (h : (Pn t1 b1 i1 M1 → Pn t b i M) ∧ Fn t b i M = Fn t1 b1 i1 M1) (hb : b1 ≤ 200) (ht : t1 < 7000) : RTo t b i M t1 b1 i1 M1 := by
  refine ⟨fun _ => h, fun c => ?_⟩
  have e : b1 = 200 := by omega
  subst e
  obtain ⟨a1, a2⟩ := at200 (i := i1) (M := M1) ht
  exact ⟨h.1 a1, h.2.trans a2⟩
theorem RTo.no {t b i : Nat} {M : Mem} {t1 b1 i1 i2 : Nat} {M1 : Mem} (h : RTo t b i M t1 b1 i1 M1) (hb : ¬ b1 < 200) : RTo t b i M t1 b1 i2 M1 := ⟨fun c => absurd c hb, h.2⟩
/-- one turn -/
theorem c_leaf {u : MU} {L : List Int32} {len t i : Nat} {z : RU} {x : Nat × Nat × Nat} {M : Mem} (hz : CZ u L len z M) (hx : OKx u x) (hl : len ≤ 150) (hi : i < len) (hb : z.1 < 200) (ht : t ≤ 31 * z.1) (h0 : rd M 1588 i = nI (x.1 + 1)) (h1 : x.1 = 0 → rd M 1589 i = nI x.2.1 ∧ rd M 1590 i = nI x.2.2) (h2 : x.1 = 1 ∨ x.1 = 2 → rd M 1589 i = nI x.2.2) : ∃ M', RTo t z.1 i M (t + 1) (z.1 + 1) (i + 1) M' ∧ CZ u L len (stR u L x z) M' ∧ Kp (cRn i i) M M' := by
  obtain ⟨a1, M1, a2, a3, a4⟩ := c_isDone hz.1 hx (show i < 150 by omega) h0 h1 h2
  have a4' : Kp (cRn i i) M M1 := a4.mono (fun c j y => Or.inl y)
  have v := (vp_iff (i := i) (n := 150) (by omega)).mpr (by omega)
  have e1 : ¬ (6200 : Int32) ≤ nI t := by show ¬ nI 6200 ≤ nI t; rw [nI_leI (by omega) (by omega)]; omega
  have e2 : ¬ (200 : Int32) ≤ nI z.1 := by show ¬ nI 200 ≤ nI z.1; rw [nI_leI (by omega) (by omega)]; omega
  have e3 : ¬ nI i < 0 := nI_pos (by omega)
  have e4 : nI i < nI len := (nI_ltI (by omega) (by omega)).mpr hi
  have hx1 := hx.1
  have e5 : ¬ nI (x.1 + 1) = 6 := by
    have : (nI (x.1 + 1) = 6) ↔ x.1 + 1 = 6 := nI_eq (b := 6) (by omega) (by omega)
    rw [this]; omega
  have e6 : ¬ nI (x.1 + 1) = 5 := by
    have : (nI (x.1 + 1) = 5) ↔ x.1 + 1 = 5 := nI_eq (b := 5) (by omega) (by omega)
    rw [this]; omega
  have f5 : rd M1 1587 5 = nI z.2.1 := by rw [a4.g (by unfold cDo; omega)]; exact hz.2.2.1
  have f6 : rd M1 1587 6 = nI z.2.2.1 := by rw [a4.g (by unfold cDo; omega)]; exact hz.2.2.2.1
  have f4 : rd M1 1587 4 = nI len := by rw [a4.g (by unfold cDo; omega)]; exact hz.2.1
  have ef : 7000 - t = (7000 - (t + 1)) + 1 := by omega
  have st : (P_10_run_139 (P_10_run_19 (7000 - (t + 1))) (nI (z.1 + 1)) (nI i) (nI t) (if (dLf u L x z.2.2.2).1 = true then 1 else 0) M1 → Pn t z.1 i M) ∧ Fn t z.1 i M = F_10_run_139 (F_10_run_19 (7000 - (t + 1))) (nI (z.1 + 1)) (nI i) (nI t) (if (dLf u L x z.2.2.2).1 = true then 1 else 0) M1 := by
    unfold Pn Fn
    rw [ef, P_10_run_19, F_10_run_19, if_neg e1, if_neg e2, if_neg e3, hz.2.1, if_pos e4, nI_clamp (n := i) (by omega), h0, if_neg e5, if_neg e6, a2, nI_1]
    exact ⟨fun y => ⟨fun w => absurd w e1, fun _ => ⟨fun w => absurd w e2, fun _ => ⟨fun w => absurd w e3, fun _ => ⟨fun _ => ⟨v, fun _ => ⟨v, fun _ => ⟨a1, y⟩, fun w => absurd w e6⟩, fun w => absurd w e5⟩, fun w => absurd e4 w⟩⟩⟩⟩, rfl⟩
  by_cases cd : (dLf u L x z.2.2.2).1 = true
  · have K : Kp (fun c j => c = 1587 ∧ j = 5) M1 (wr M1 1587 5 (nI (z.2.1 + 1))) := Kp.rf.w ⟨rfl, rfl⟩
    have es : stR u L x z = (z.1 + 1, z.2.1 + 1, z.2.2.1, (dLf u L x z.2.2.2).2) := by unfold stR; rw [if_pos cd, if_pos cd]
    refine ⟨wr M1 1587 5 (nI (z.2.1 + 1)), RTo.st ⟨fun hp => st.1 ?_, ?_⟩ (by omega) (by omega), ?_, a4'.tr (K.mono (fun c j y => by unfold cRn; omega))⟩
    · rw [if_pos cd, P_10_run_139, f5, nI_1, P_10_run_165, P_10_run_165, P_10_run_168, P_10_run_168, nI_1, nI_1]
      exact ⟨fun y => absurd y one_ne, fun _ => hp⟩
    · rw [st.2, if_pos cd, F_10_run_139, if_neg one_ne, f5, nI_1, F_10_run_165, F_10_run_168, nI_1, nI_1]
      rfl
    · rw [es]
      exact ⟨a3.k K (fun c j y => by omega), by rw [rd_i (by omega)]; exact f4, rd_s _ _ _ _, by rw [rd_i (by omega)]; exact f6, show z.1 + 1 ≤ 200 by omega⟩
  · have K : Kp (fun c j => c = 1587 ∧ j = 6) M1 (wr M1 1587 6 (nI (z.2.2.1 + 1))) := Kp.rf.w ⟨rfl, rfl⟩
    have es : stR u L x z = (z.1 + 1, z.2.1, z.2.2.1 + 1, (dLf u L x z.2.2.2).2) := by unfold stR; rw [if_neg cd, if_neg cd]
    refine ⟨wr M1 1587 6 (nI (z.2.2.1 + 1)), RTo.st ⟨fun hp => st.1 ?_, ?_⟩ (by omega) (by omega), ?_, a4'.tr (K.mono (fun c j y => by unfold cRn; omega))⟩
    · rw [if_neg cd, P_10_run_139, f6, nI_1, P_10_run_165, P_10_run_165, P_10_run_168, P_10_run_168, nI_1, nI_1]
      exact ⟨fun _ => hp, fun y => absurd rfl y⟩
    · rw [st.2, if_neg cd, F_10_run_139, if_pos rfl, f6, nI_1, F_10_run_165, F_10_run_168, nI_1, nI_1]
      rfl
    · rw [es]
      exact ⟨a3.k K (fun c j y => by omega), by rw [rd_i (by omega)]; exact f4, by rw [rd_i (by omega)]; exact f5, rd_s _ _ _ _, show z.1 + 1 ≤ 200 by omega⟩
theorem CZ.k {u : MU} {L : List Int32} {len : Nat} {z : RU} {p : Nat → Nat → Prop} {M M' : Mem} (h : CZ u L len z M) (hk : Kp p M M') (hp : ∀ c j, p c j → c = 1591) : CZ u L len z M' := by
  obtain ⟨h1, h2, h3, h4, h5⟩ := h
  exact ⟨h1.k hk (fun c j y => by have := hp c j y; omega), by rw [hk.g (fun y => by have := hp _ _ y; omega)]; exact h2, by rw [hk.g (fun y => by have := hp _ _ y; omega)]; exact h3, by rw [hk.g (fun y => by have := hp _ _ y; omega)]; exact h4, h5⟩
theorem CZ.b {u : MU} {L : List Int32} {len : Nat} {z : RU} {M : Mem} (h : CZ u L len z M) (hb : z.1 < 200) : CZ u L len (z.1 + 1, z.2) M := ⟨h.1, h.2.1, h.2.2.1, h.2.2.2.1, show z.1 + 1 ≤ 200 by omega⟩
theorem c_head {u : MU} {L : List Int32} {len t i a e : Nat} {z : RU} {M : Mem} (hz : CZ u L len z M) (hl : len ≤ 150) (hi : i < len) (hb : z.1 < 200) (ht : t ≤ 31 * z.1) (ha : a ≤ 30) (h0 : rd M 1588 i = 5) (h1 : rd M 1589 i = nI a) (h2 : rd M 1590 i = nI e) : RTo t z.1 i M (t + 1) (z.1 + 1) (if a = 0 then e else i + 1) (wr M 1591 i (nI a)) := by
  have v := (vp_iff (i := i) (n := 150) (by omega)).mpr (by omega)
  have e1 : ¬ (6200 : Int32) ≤ nI t := by show ¬ nI 6200 ≤ nI t; rw [nI_leI (by omega) (by omega)]; omega
  have e2 : ¬ (200 : Int32) ≤ nI z.1 := by show ¬ nI 200 ≤ nI z.1; rw [nI_leI (by omega) (by omega)]; omega
  have e3 : ¬ nI i < 0 := nI_pos (by omega)
  have e4 : nI i < nI len := (nI_ltI (by omega) (by omega)).mpr hi
  have e5 : ¬ (5 : Int32) = 6 := by decide
  have ef : 7000 - t = (7000 - (t + 1)) + 1 := by omega
  have g1 : rd (wr M 1591 i (nI a)) 1589 i = nI a := by rw [rd_c (by omega)]; exact h1
  have g2 : rd (wr M 1591 i (nI a)) 1590 i = nI e := by rw [rd_c (by omega)]; exact h2
  refine RTo.st ?_ (by omega) (by omega)
  unfold Pn Fn
  rw [ef, P_10_run_19, F_10_run_19, if_neg e1, if_neg e2, if_neg e3, hz.2.1, if_pos e4, nI_clamp (n := i) (by omega), h0, if_neg e5, if_pos rfl, h1, g1, g2]
  by_cases c : a = 0
  · have c' : nI a ≤ 0 := (z_le (by omega)).mpr c
    rw [if_pos c', if_pos c, F_10_run_125, F_10_run_168, nI_1, nI_1]
    exact ⟨fun y => ⟨fun w => absurd w e1, fun _ => ⟨fun w => absurd w e2, fun _ => ⟨fun w => absurd w e3, fun _ => ⟨fun _ => ⟨v, fun _ => ⟨v, fun w => absurd rfl w, fun _ => ⟨v, fun _ => ⟨v, by rw [P_10_run_125, P_10_run_168, nI_1]; exact y⟩, fun w => absurd c' w⟩⟩, fun w => absurd w e5⟩, fun w => absurd e4 w⟩⟩⟩⟩, by first | rfl | rw [nI_1]⟩
  · have c' : ¬ nI a ≤ 0 := fun y => c ((z_le (by omega)).mp y)
    rw [if_neg c', if_neg c, F_10_run_125, F_10_run_168, nI_1, nI_1, nI_1]
    exact ⟨fun y => ⟨fun w => absurd w e1, fun _ => ⟨fun w => absurd w e2, fun _ => ⟨fun w => absurd w e3, fun _ => ⟨fun _ => ⟨v, fun _ => ⟨v, fun w => absurd rfl w, fun _ => ⟨v, fun w => absurd w c', fun _ => by rw [P_10_run_125, P_10_run_168, nI_1]; exact y⟩⟩, fun w => absurd w e5⟩, fun w => absurd e4 w⟩⟩⟩⟩, by first | rfl | rw [nI_1]⟩
theorem c_back {u : MU} {L : List Int32} {len t i j c : Nat} {z : RU} {M : Mem} (hz : CZ u L len z M) (hl : len ≤ 150) (hj : j < len) (hi : i < 150) (hb : z.1 < 200) (ht : t ≤ 31 * z.1) (hc : c ≤ 30) (h0 : rd M 1588 j = 6) (h1 : rd M 1589 j = nI i) (h2 : rd M 1591 i = nI (c + 1)) : RTo t z.1 j M (t + 1) z.1 (if c = 0 then j + 1 else i + 1) (wr M 1591 i (nI c)) := by
  have v := (vp_iff (i := j) (n := 150) (by omega)).mpr (by omega)
  have v2 := (vp_iff (i := i) (n := 150) (by omega)).mpr hi
  have e1 : ¬ (6200 : Int32) ≤ nI t := by show ¬ nI 6200 ≤ nI t; rw [nI_leI (by omega) (by omega)]; omega
  have e2 : ¬ (200 : Int32) ≤ nI z.1 := by show ¬ nI 200 ≤ nI z.1; rw [nI_leI (by omega) (by omega)]; omega
  have e3 : ¬ nI j < 0 := nI_pos (by omega)
  have e4 : nI j < nI len := (nI_ltI (by omega) (by omega)).mpr hj
  have ef : 7000 - t = (7000 - (t + 1)) + 1 := by omega
  have es : nI (c + 1) - 1 = nI c := by rw [show (1 : Int32) = nI 1 from rfl, pk_sub (by omega), Nat.add_sub_cancel]
  have tb : P_10_turnBack_0 (nI j) M ∧ F_10_turnBack_0 (nI j) M = (nI (if c = 0 then j + 1 else i + 1), wr M 1591 i (nI c)) := by
    rw [P_10_turnBack_0, F_10_turnBack_0, nI_clamp (n := j) (by omega), h1, nI_clamp (n := i) (by omega), h2, es, rd_s, nI_1, nI_1]
    refine ⟨⟨v, v2⟩, ?_⟩
    by_cases k : c = 0
    · rw [if_pos ((z_le (by omega)).mpr k), if_pos k]
    · rw [if_neg (fun y => k ((z_le (by omega)).mp y)), if_neg k]
  refine RTo.st ?_ (by omega) (by omega)
  unfold Pn Fn
  rw [ef, P_10_run_19, F_10_run_19, if_neg e1, if_neg e2, if_neg e3, hz.2.1, if_pos e4, nI_clamp (n := j) (by omega), h0, if_pos rfl, tb.2, F_10_run_68, F_10_run_168, nI_1]
  exact ⟨fun y => ⟨fun w => absurd w e1, fun _ => ⟨fun w => absurd w e2, fun _ => ⟨fun w => absurd w e3, fun _ => ⟨fun _ => ⟨v, fun w => absurd rfl w, fun _ => ⟨tb.1, by rw [P_10_run_68, P_10_run_168, nI_1]; exact y⟩⟩, fun w => absurd e4 w⟩⟩⟩⟩, by first | rfl | rw [nI_1]⟩
def CGs (u : MU) (L : List Int32) (len k : Nat) : Prop := ∀ (l : PT k) (i t w : Nat) (z : RU) (M : Mem), CAP k l i M → PWP u k l → CZ u L len z M → i + szP 2 k l ≤ len → t + w ≤ 31 * z.1 → ∃ t' M', RTo t z.1 i M t' (rnP u L k l z).1 (i + szP 2 k l) M' ∧ t' + w ≤ 31 * (rnP u L k l z).1 ∧ CZ u L len (rnP u L k l z) M' ∧ Kp (cRn i (i + szP 2 k l)) M M'
theorem c_agL {u : MU} {L : List Int32} {len k i : Nat} {b : PT k} (hl : len ≤ 150) (hS : CGs u L len k) (hw : PWP u k b) (hi : i + 2 + szP 2 k b ≤ len) : ∀ (c t w : Nat) (z : RU) (M : Mem), c + 1 ≤ 30 → CZ u L len z M → CAP k b (i + 1) M → rd M 1588 (i + 1 + szP 2 k b) = 6 → rd M 1589 (i + 1 + szP 2 k b) = nI i → rd M 1591 i = nI (c + 1) → t + (c + 1) + w ≤ 31 * z.1 → ∃ t' M', RTo t z.1 (i + 1) M t' (itR (rnP u L k b) (c + 1) z).1 (i + 2 + szP 2 k b) M' ∧ t' + w ≤ 31 * (itR (rnP u L k b) (c + 1) z).1 ∧ CZ u L len (itR (rnP u L k b) (c + 1) z) M' ∧ Kp (cRn i (i + 2 + szP 2 k b)) M M' := by
  intro c
  induction c with
  | zero =>
    intro t w z M hc hz hA h6 hi2 hle ht
    have hz5 := hz.2.2.2.2
    rw [itR]
    by_cases c2 : z.1 < 200
    · rw [if_pos c2, itR]
      obtain ⟨t1, M1, a1, a2, a3, a4⟩ := hS b (i + 1) t (w + 1) z M hA hw hz (by omega) (by omega)
      have b5 := a3.2.2.2.2
      have kr : ∀ c x, c = 1588 ∨ c = 1589 → rd M1 c x = rd M c x := fun c x y => a4.g (by unfold cRn cDo; omega)
      have kl : rd M1 1591 i = nI (0 + 1) := by rw [a4.g (by unfold cRn cDo; omega)]; exact hle
      by_cases c3 : (rnP u L k b z).1 < 200
      · have K : Kp (fun c j => c = 1591 ∧ j = i) M1 (wr M1 1591 i (nI 0)) := Kp.rf.w ⟨rfl, rfl⟩
        have st := c_back (i := i) (c := 0) a3 hl (show i + 1 + szP 2 k b < len by omega) (by omega) c3 (show t1 ≤ 31 * (rnP u L k b z).1 by omega) (by omega) (by rw [kr _ _ (Or.inl rfl)]; exact h6) (by rw [kr _ _ (Or.inr rfl)]; exact hi2) kl
        rw [if_pos rfl, show i + 1 + szP 2 k b + 1 = i + 2 + szP 2 k b by omega] at st
        exact ⟨t1 + 1, _, a1.tr st b5 (by omega), by omega, a3.k K (fun c j y => y.1), (a4.cR (by omega) (by omega)).tr (K.mono (fun c j y => by unfold cRn; omega))⟩
      · exact ⟨t1, M1, a1.no c3, by omega, a3, a4.cR (by omega) (by omega)⟩
    · rw [if_neg c2]
      exact ⟨t, M, (RTo.rf (by omega) hz5).no c2, by omega, hz, Kp.rf⟩
  | succ c ih =>
    intro t w z M hc hz hA h6 hi2 hle ht
    have hz5 := hz.2.2.2.2
    rw [itR]
    by_cases c2 : z.1 < 200
    · rw [if_pos c2]
      obtain ⟨t1, M1, a1, a2, a3, a4⟩ := hS b (i + 1) t (c + 1 + 1 + w) z M hA hw hz (by omega) (by omega)
      have b5 := a3.2.2.2.2
      have kr : ∀ c x, c = 1588 ∨ c = 1589 ∨ c = 1590 → rd M1 c x = rd M c x := fun c x y => a4.g (by unfold cRn cDo; omega)
      have kl : rd M1 1591 i = nI (c + 1 + 1) := by rw [a4.g (by unfold cRn cDo; omega)]; exact hle
      by_cases c3 : (rnP u L k b z).1 < 200
      · have K : Kp (fun c j => c = 1591 ∧ j = i) M1 (wr M1 1591 i (nI (c + 1))) := Kp.rf.w ⟨rfl, rfl⟩
        have st := c_back (i := i) (c := c + 1) a3 hl (show i + 1 + szP 2 k b < len by omega) (by omega) c3 (show t1 ≤ 31 * (rnP u L k b z).1 by omega) (by omega) (by rw [kr _ _ (Or.inl rfl)]; exact h6) (by rw [kr _ _ (Or.inr (Or.inl rfl))]; exact hi2) kl
        rw [if_neg (by omega)] at st
        have kr2 : ∀ c x, c = 1588 ∨ c = 1589 ∨ c = 1590 → rd (wr M1 1591 i (nI (c + 1))) c x = rd M c x := fun c x y => by rw [rd_c (by omega), kr c x y]
        have kr3 : ∀ (v : Int32) (c x : Nat), c = 1588 ∨ c = 1589 ∨ c = 1590 → rd (wr M1 1591 i v) c x = rd M c x := fun v c x y => by rw [rd_c (by omega), kr c x y]
        obtain ⟨t2, M2, d1, d2, d3, d4⟩ := ih (t1 + 1) w (rnP u L k b z) (wr M1 1591 i (nI (c + 1))) (by omega) (a3.k K (fun c j y => y.1)) (CAP.g k b (i + 1) hA (fun x _ _ => ⟨kr3 _ _ _ (Or.inl rfl), kr3 _ _ _ (Or.inr (Or.inl rfl)), kr3 _ _ _ (Or.inr (Or.inr rfl))⟩)) (by rw [kr3 _ _ _ (Or.inl rfl)]; exact h6) (by rw [kr3 _ _ _ (Or.inr (Or.inl rfl))]; exact hi2) (rd_s _ _ _ _) (by omega)
        exact ⟨t2, M2, (a1.tr st b5 (by omega)).tr d1 b5 (by omega), d2, d3, ((a4.cR (by omega) (by omega)).tr (K.mono (fun c j y => by unfold cRn; omega))).tr d4⟩
      · rw [itR, if_neg c3]
        exact ⟨t1, M1, a1.no c3, by omega, a3, a4.cR (by omega) (by omega)⟩
    · rw [if_neg c2]
      exact ⟨t, M, (RTo.rf (by omega) hz5).no c2, by omega, hz, Kp.rf⟩
theorem c_goL {u : MU} {L : List Int32} {len k : Nat} (hl : len ≤ 150) (hS : CGs u L len k) : CGs u L len (k + 1) := by
  intro l
  show ∀ (i t w : Nat) (z : RU) (M : Mem), CAL (szP 2 k) (CAP k) l i M → PWL u (PWP u k) l → CZ u L len z M → i + szL 2 (szP 2 k) l ≤ len → t + w ≤ 31 * z.1 → ∃ t' M', RTo t z.1 i M t' (rnL u L (rnP u L k) l z).1 (i + szL 2 (szP 2 k) l) M' ∧ t' + w ≤ 31 * (rnL u L (rnP u L k) l z).1 ∧ CZ u L len (rnL u L (rnP u L k) l z) M' ∧ Kp (cRn i (i + szL 2 (szP 2 k) l)) M M'
  have l' : List (StpW (PT k)) := l
  revert l
  intro (l : List (StpW (PT k)))
  induction l with
  | nil =>
    intro i t w z M hA hw hz hi ht
    have hz5 := hz.2.2.2.2
    exact ⟨t, M, RTo.rf (by omega) hz5, ht, hz, Kp.rf⟩
  | cons x r ih =>
    intro i t w z M hA hw hz hi ht
    have hz5 := hz.2.2.2.2
    rw [szL_c] at hi ⊢
    have h1 := szL_1 (c := 2) (f := szP 2 k) (x := x) (by omega)
    rw [rnL]
    by_cases c2 : z.1 < 200
    · rw [if_pos c2]
      cases x with
      | inl x =>
        obtain ⟨p1, p2, p3, p4⟩ := hA
        obtain ⟨q1, q2, q3, q4⟩ := hw
        have hi' : i + (1 + 0 + szL 2 (szP 2 k) r) ≤ len := hi
        obtain ⟨M1, a1, a2, a3⟩ := c_leaf (x := x) (t := t) hz ⟨q1, q2, q3⟩ hl (show i < len by omega) c2 (by omega) p1 p2 p3
        have kr : ∀ c x, c = 1588 ∨ c = 1589 ∨ c = 1590 → rd M1 c x = rd M c x := fun c x y => a3.g (by unfold cRn cDo; omega)
        have hz1 : (stR u L x z).1 = z.1 + 1 := rfl
        obtain ⟨t2, M2, d1, d2, d3, d4⟩ := ih (i + 1) (t + 1) w (stR u L x z) M1 (CAL.g (fun a i => CAP.g k a i) r (i + 1) p4 (fun x _ _ => ⟨kr _ _ (Or.inl rfl), kr _ _ (Or.inr (Or.inl rfl)), kr _ _ (Or.inr (Or.inr rfl))⟩)) q4 a2 (by omega) (by omega)
        have ei : i + (szL 2 (szP 2 k) [Sum.inl x] + szL 2 (szP 2 k) r) = i + 1 + szL 2 (szP 2 k) r := by show i + (1 + 0 + szL 2 (szP 2 k) r) = _; omega
        rw [ei]
        have d1' : RTo (t + 1) (z.1 + 1) (i + 1) M1 t2 (rnL u L (rnP u L k) r (stR u L x z)).1 (i + 1 + szL 2 (szP 2 k) r) M2 := d1
        exact ⟨t2, M2, a1.tr d1' (by omega) (by omega), d2, d3, (a3.cR (by omega) (by omega)).tr (d4.cR (by omega) (by omega))⟩
      | inr x =>
        obtain ⟨a, b⟩ := x
        obtain ⟨p1, p2, p3, p4, p5, p6, p7⟩ : rd M 1588 i = 5 ∧ rd M 1589 i = nI a ∧ rd M 1590 i = nI (i + 2 + szP 2 k b) ∧ CAP k b (i + 1) M ∧ rd M 1588 (i + 1 + szP 2 k b) = 6 ∧ rd M 1589 (i + 1 + szP 2 k b) = nI i ∧ CAL (szP 2 k) (CAP k) r (i + 2 + szP 2 k b) M := hA
        obtain ⟨q1, q2, q3⟩ : a ≤ 30 ∧ PWP u k b ∧ PWL u (PWP u k) r := hw
        have hi' : i + (2 + szP 2 k b + 0 + szL 2 (szP 2 k) r) ≤ len := hi
        have ei : i + (szL 2 (szP 2 k) [Sum.inr (a, b)] + szL 2 (szP 2 k) r) = i + 2 + szP 2 k b + szL 2 (szP 2 k) r := by show i + (2 + szP 2 k b + 0 + szL 2 (szP 2 k) r) = _; omega
        rw [ei]
        have st := c_head hz hl (show i < len by omega) c2 (show t ≤ 31 * z.1 by omega) q1 p1 p2 p3
        have K : Kp (fun c j => c = 1591 ∧ j = i) M (wr M 1591 i (nI a)) := Kp.rf.w ⟨rfl, rfl⟩
        have K' : Kp (cRn i (i + 2 + szP 2 k b)) M (wr M 1591 i (nI a)) := K.mono (fun c j y => by unfold cRn; omega)
        have Z1 : CZ u L len (z.1 + 1, z.2) (wr M 1591 i (nI a)) := (hz.b c2).k K (fun c j y => y.1)
        have kr : ∀ c x, c = 1588 ∨ c = 1589 ∨ c = 1590 → rd (wr M 1591 i (nI a)) c x = rd M c x := fun c x y => rd_c (by omega)
        suffices hs : ∃ t1 M1, RTo t z.1 i M t1 (itR (rnP u L k b) a (z.1 + 1, z.2)).1 (i + 2 + szP 2 k b) M1 ∧ t1 + w ≤ 31 * (itR (rnP u L k b) a (z.1 + 1, z.2)).1 ∧ CZ u L len (itR (rnP u L k b) a (z.1 + 1, z.2)) M1 ∧ Kp (cRn i (i + 2 + szP 2 k b)) M M1 by
          obtain ⟨t1, M1, a1, a2, a3, a4⟩ := hs
          have b5 := a3.2.2.2.2
          have kr1 : ∀ c x, c = 1588 ∨ c = 1589 ∨ c = 1590 → rd M1 c x = rd M c x := fun c x y => a4.g (by unfold cRn cDo; omega)
          obtain ⟨t2, M2, d1, d2, d3, d4⟩ := ih (i + 2 + szP 2 k b) t1 w (itR (rnP u L k b) a (z.1 + 1, z.2)) M1 (CAL.g (fun a i => CAP.g k a i) r (i + 2 + szP 2 k b) p7 (fun x _ _ => ⟨kr1 _ _ (Or.inl rfl), kr1 _ _ (Or.inr (Or.inl rfl)), kr1 _ _ (Or.inr (Or.inr rfl))⟩)) q3 a3 (by omega) a2
          exact ⟨t2, M2, a1.tr d1 b5 (by omega), d2, d3, (a4.cR (by omega) (by omega)).tr (d4.cR (by omega) (by omega))⟩
        by_cases a0 : a = 0
        · subst a0
          rw [if_pos rfl] at st
          rw [itR]
          exact ⟨t + 1, _, st, show t + 1 + w ≤ 31 * (z.1 + 1) by omega, Z1, K'⟩
        · obtain ⟨c, rfl⟩ : ∃ c, a = c + 1 := ⟨a - 1, by omega⟩
          rw [if_neg a0] at st
          obtain ⟨t1, M1, a1, a2, a3, a4⟩ := c_agL hl hS q2 (show i + 2 + szP 2 k b ≤ len by omega) c (t + 1) w (z.1 + 1, z.2) _ q1 Z1 (CAP.g k b (i + 1) p4 (fun x _ _ => ⟨kr _ _ (Or.inl rfl), kr _ _ (Or.inr (Or.inl rfl)), kr _ _ (Or.inr (Or.inr rfl))⟩)) (by rw [kr _ _ (Or.inl rfl)]; exact p5) (by rw [kr _ _ (Or.inr (Or.inl rfl))]; exact p6) (rd_s _ _ _ _) (show t + 1 + (c + 1) + w ≤ 31 * (z.1 + 1) by omega)
          exact ⟨t1, M1, st.tr a1 (show z.1 + 1 ≤ 200 by omega) (by omega), a2, a3, K'.tr a4⟩
    · rw [if_neg c2]
      exact ⟨t, M, (RTo.rf (by omega) hz5).no c2, ht, hz, Kp.rf⟩
theorem c_gos {u : MU} {L : List Int32} {len : Nat} (hl : len ≤ 150) : ∀ k, CGs u L len k := by
  intro k
  induction k with
  | zero => intro l; exact nomatch l
  | succ k ih => exact c_goL hl ih
/-- the whole run -/
theorem c_run {u : MU} {L : List Int32} {s : SU} {l : PT 7} {M : Mem} (hv : CV u s L M) (hA : CAP 7 l 0 M) (hw : PWP u 7 l) (hl : rd M 1587 4 = nI (szP 2 7 l)) (h150 : szP 2 7 l ≤ 150) : P_10_run_0 M ∧ ∃ M', F_10_run_0 M = M' ∧ CZ u L (szP 2 7 l) (rnP u L 7 l (0, 0, 0, s)) M' ∧ Kp (cRn 0 150) M M' := by
  have K : Kp (fun c j => c = 1587 ∧ (j = 5 ∨ j = 6)) M (wr (wr M 1587 5 0) 1587 6 0) := (Kp.rf.w ⟨rfl, by omega⟩).w ⟨rfl, by omega⟩
  have Z0 : CZ u L (szP 2 7 l) (0, 0, 0, s) (wr (wr M 1587 5 0) 1587 6 0) := ⟨hv.k K (fun c j y => by omega), by rw [rd_i (by omega), rd_i (by omega)]; exact hl, by rw [rd_i (by omega), rd_s]; rfl, rd_s _ _ _ _, Nat.zero_le _⟩
  obtain ⟨t1, M1, a1, a2, a3, a4⟩ := c_gos h150 7 l 0 0 0 (0, 0, 0, s) _ (CAP.g 7 l 0 hA (fun x _ _ => ⟨by rw [rd_c (by omega), rd_c (by omega)], by rw [rd_c (by omega), rd_c (by omega)], by rw [rd_c (by omega), rd_c (by omega)]⟩)) hw Z0 (by omega) (by omega)
  have b5 := a3.2.2.2.2
  rw [P_10_run_0, F_10_run_0]
  have fin : Pn 0 0 0 (wr (wr M 1587 5 0) 1587 6 0) ∧ Fn 0 0 0 (wr (wr M 1587 5 0) 1587 6 0) = M1 := by
    by_cases c : (rnP u L 7 l (0, 0, 0, s)).1 < 200
    · obtain ⟨d1, d2⟩ := a1.1 c
      have e : Pn t1 (rnP u L 7 l (0, 0, 0, s)).1 (0 + szP 2 7 l) M1 ∧ Fn t1 (rnP u L 7 l (0, 0, 0, s)).1 (0 + szP 2 7 l) M1 = M1 := by
        unfold Pn Fn
        obtain ⟨g, e⟩ : ∃ g, 7000 - t1 = g + 1 := ⟨7000 - t1 - 1, by omega⟩
        have e1 : ¬ (6200 : Int32) ≤ nI t1 := by show ¬ nI 6200 ≤ nI t1; rw [nI_leI (by omega) (by omega)]; omega
        have e2 : ¬ (200 : Int32) ≤ nI (rnP u L 7 l (0, 0, 0, s)).1 := by show ¬ nI 200 ≤ nI _; rw [nI_leI (by omega) (by omega)]; omega
        have e3 : ¬ nI (0 + szP 2 7 l) < 0 := nI_pos (by omega)
        have e4 : ¬ nI (0 + szP 2 7 l) < nI (szP 2 7 l) := by rw [nI_ltI (by omega) (by omega)]; omega
        rw [e, P_10_run_19, F_10_run_19, if_neg e1, if_neg e2, if_neg e3, a3.2.1, if_neg e4]
        exact ⟨⟨fun y => absurd y e1, fun _ => ⟨fun y => absurd y e2, fun _ => ⟨fun y => absurd y e3, fun _ => ⟨fun y => absurd y e4, fun _ => trivial⟩⟩⟩⟩, rfl⟩
      exact ⟨d1 e.1, d2.trans e.2⟩
    · exact a1.2 c
  exact ⟨fin.1, M1, fin.2, a3, (K.mono (fun c j y => by unfold cRn; omega)).tr (a4.cR (by omega) (by omega))⟩
