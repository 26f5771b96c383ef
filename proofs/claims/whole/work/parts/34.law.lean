/-! MATHEMATICS 4: the law's value, both sides -/
/-- a stack in a row: the top at the list's head -/
def StkR (f : Nat → Int32) : List Int32 → Prop
  | [] => True
  | v :: r => f r.length = v ∧ StkR f r
theorem StkR.cg {f g : Nat → Int32} : ∀ {st : List Int32}, (∀ k, k < st.length → g k = f k) → StkR f st → StkR g st
  | [], _, _ => trivial
  | v :: r, h, ⟨h1, h2⟩ => ⟨(h r.length (Nat.lt_succ_self _)).trans h1, StkR.cg (fun k hk => h k (Nat.lt_succ_of_lt hk)) h2⟩
theorem jn_M (M : Mem) (c a b : Int32) : F_2_join_0 M c a b = jn c a b := rfl
theorem jnP (M : Mem) (c a b : Int32) : P_2_join_0 M c a b := by
  unfold P_2_join_0
  simp
theorem c_cases {c : Int32} (h1 : -15 ≤ c) (h2 : c ≤ -9) : c = -9 ∨ c = -10 ∨ c = -11 ∨ c = -12 ∨ c = -13 ∨ c = -14 ∨ c = -15 := by
  have a := Int32.le_iff_toInt_le.mp h1
  have b := Int32.le_iff_toInt_le.mp h2
  rw [show (-15 : Int32).toInt = -15 from rfl] at a
  rw [show (-9 : Int32).toInt = -9 from rfl] at b
  have h : c.toInt = -9 ∨ c.toInt = -10 ∨ c.toInt = -11 ∨ c.toInt = -12 ∨ c.toInt = -13 ∨ c.toInt = -14 ∨ c.toInt = -15 := by omega
  rcases h with h | h | h | h | h | h | h
  · exact Or.inl (Int32.toInt_inj.mp h)
  · exact Or.inr (Or.inl (Int32.toInt_inj.mp h))
  · exact Or.inr (Or.inr (Or.inl (Int32.toInt_inj.mp h)))
  · exact Or.inr (Or.inr (Or.inr (Or.inl (Int32.toInt_inj.mp h))))
  · exact Or.inr (Or.inr (Or.inr (Or.inr (Or.inl (Int32.toInt_inj.mp h)))))
  · exact Or.inr (Or.inr (Or.inr (Or.inr (Or.inr (Or.inl (Int32.toInt_inj.mp h))))))
  · exact Or.inr (Or.inr (Or.inr (Or.inr (Or.inr (Or.inr (Int32.toInt_inj.mp h))))))
theorem k_cases {c : Int32} (h1 : ¬ c ≤ -9) (h2 : c < 0) : c = -1 ∨ c = -2 ∨ c = -3 ∨ c = -4 ∨ c = -5 ∨ c = -6 ∨ c = -7 ∨ c = -8 := by
  have a := mt Int32.le_iff_toInt_le.mpr h1
  have b := Int32.lt_iff_toInt_lt.mp h2
  rw [show (-9 : Int32).toInt = -9 from rfl] at a
  rw [show (0 : Int32).toInt = 0 from rfl] at b
  have h : c.toInt = -1 ∨ c.toInt = -2 ∨ c.toInt = -3 ∨ c.toInt = -4 ∨ c.toInt = -5 ∨ c.toInt = -6 ∨ c.toInt = -7 ∨ c.toInt = -8 := by omega
  rcases h with h | h | h | h | h | h | h | h
  · exact Or.inl (Int32.toInt_inj.mp h)
  · exact Or.inr (Or.inl (Int32.toInt_inj.mp h))
  · exact Or.inr (Or.inr (Or.inl (Int32.toInt_inj.mp h)))
  · exact Or.inr (Or.inr (Or.inr (Or.inl (Int32.toInt_inj.mp h))))
  · exact Or.inr (Or.inr (Or.inr (Or.inr (Or.inl (Int32.toInt_inj.mp h)))))
  · exact Or.inr (Or.inr (Or.inr (Or.inr (Or.inr (Or.inl (Int32.toInt_inj.mp h))))))
  · exact Or.inr (Or.inr (Or.inr (Or.inr (Or.inr (Or.inr (Or.inl (Int32.toInt_inj.mp h)))))))
  · exact Or.inr (Or.inr (Or.inr (Or.inr (Or.inr (Or.inr (Or.inr (Int32.toInt_inj.mp h)))))))
theorem c_fact {u : MU} {s : SU} {M : Mem} {d h : Nat} (hp : CP 1561 u M) (hr : CR 1622 u s M) (hd : d < uM u) (hh : h < 4000) {c : Int32} (h1 : ¬ c ≤ -9) (h2 : c < 0) : P_2_fact_0 M c (nI d) (nI h) ∧ F_2_fact_0 M c (nI d) (nI h) = kn u s d h (-1 - c).toNatClampNeg := by
  have hd24 : d < 24 := Nat.lt_of_lt_of_le hd hp.1.2.1
  obtain ⟨f1, f2, f3, f4⟩ := hp.2.2.2.2.2.1 d hd
  have w := hp.1.2.2.2.2.1 d hd
  have f5 := (hp.2.2.2.2.2.2.1 _ w.2.1).1
  have f6 := hr.2.2.2.2.1 d hd
  have hn := hp.1.1
  simp only [Nat.reduceAdd] at f1 f2 f3 f4 f5 f6
  have v1 : vp_in (nI d) 24 := (vp_iff (by omega)).mpr hd24
  have v2 : vp_in (nI (uG u d)) 10 := (vp_iff (by omega)).mpr (by omega)
  have v3 : (nI d).toNatClampNeg = d := nI_clamp (by omega)
  have v4 : (nI (uG u d)).toNatClampNeg = uG u d := nI_clamp (by omega)
  have v5 : nI h - nI h / 24 * 24 = nI (h % 24) := l_rem (by omega) (by decide) (by decide)
  have v6 : nI h / 24 = nI (h / 24) := l_div (by omega) (by decide) (by decide)
  have v7 : (nI (h % 24) < nI (uO u d)) ↔ h % 24 < uO u d := nI_ltI (by omega) (by omega)
  have v8 : (nI (uS u d) < nI (h % 24)) ↔ uS u d < h % 24 := nI_ltI (by omega) (by omega)
  unfold P_2_fact_0 F_2_fact_0 F_2_fact_78
  simp only [v3, f1, f2, f3, f4, f5, f6, v4, v5]
  simp only [v6, v7, v8]
  rcases k_cases h1 h2 with rfl | rfl | rfl | rfl | rfl | rfl | rfl | rfl
  · refine ⟨by simp [v1], ?_⟩
    show _ = if _ then _ else _
    by_cases a : h % 24 < uO u d
    · rw [if_neg (by omega : ¬ (uO u d ≤ h % 24 ∧ h % 24 ≤ uS u d))]
      simp [a]
    · by_cases b : uS u d < h % 24
      · rw [if_neg (by omega : ¬ (uO u d ≤ h % 24 ∧ h % 24 ≤ uS u d))]
        simp [a, b]
      · rw [if_pos (by omega : (uO u d ≤ h % 24 ∧ h % 24 ≤ uS u d))]
        simp [a, b]
  · exact ⟨by simp [v1], by simp; rfl⟩
  · exact ⟨by simp [v1], by simp; rfl⟩
  · exact ⟨by simp [v1], by simp; rfl⟩
  · exact ⟨by simp [v1], by simp; rfl⟩
  · exact ⟨by simp [v1], by simp; rfl⟩
  · exact ⟨by simp [v1, v2], by simp; rfl⟩
  · exact ⟨by simp [v1], by simp; rfl⟩
/-- the class: a law's value -/
theorem c_value {u : MU} {s : SU} {d h : Nat} (hd : d < uM u) (hh : h < 4000) : ∀ (cs st : List Int32) (n i : Nat) (M : Mem), CP 1561 u M → CR 1622 u s M → rd M 1583 3 = nI (i + cs.length) → i + cs.length ≤ 150 → (∀ j, j < cs.length → rd M 1584 (i + j) = cs.getD j 0) → okCode cs st.length → StkR (rd M 1586) st → cs.length < n → st.length ≤ 48 →
    P_2_valueFor_6 n (nI d) (nI h) (nI st.length) (nI i) M ∧ ∃ M', F_2_valueFor_6 n (nI d) (nI h) (nI st.length) (nI i) M = (ev (kn u s d h) cs st, M') ∧ Kp (fun c _ => c = 1586) M M' := by
  intro cs
  induction cs with
  | nil =>
    intro st n i M hp hr hl h150 hc hok hst hn h48
    obtain ⟨n, rfl⟩ : ∃ k, n = k + 1 := ⟨n - 1, by simp at hn; omega⟩
    have hl' : rd M 1583 3 = nI i := hl
    have q : nI i ≤ nI i := nI_le (Nat.le_refl _) (by simp at h150; omega)
    rw [P_2_valueFor_6, F_2_valueFor_6, hl', if_pos q]
    refine ⟨⟨fun _ => trivial, fun z => absurd q z⟩, M, ?_, Kp.rf⟩
    match st, hok, hst with
    | [v], _, hst => exact Prod.ext hst.1 rfl
  | cons c cs ih =>
    intro st n i M hp hr hl h150 hc hok hst hn h48
    simp only [List.length_cons] at hl h150 hc hn
    obtain ⟨n, rfl⟩ : ∃ k, n = k + 1 := ⟨n - 1, by omega⟩
    have hc0 : rd M 1584 i = c := by have := hc 0 (by omega); simpa using this
    have q : ¬ nI (i + (cs.length + 1)) ≤ nI i := nI_ge (by omega) (by omega)
    have vi : vp_in (nI i) 150 := (vp_iff (by omega)).mpr (by omega)
    have vc : (nI i).toNatClampNeg = i := nI_clamp (by omega)
    obtain ⟨hcr, hk1, hk2⟩ := hok
    have hl2 : nI (i + (cs.length + 1)) = nI (i + 1 + cs.length) := by rw [show i + (cs.length + 1) = i + 1 + cs.length by omega]
    have tail : ∀ (M1 : Mem) (st1 : List Int32), Kp (fun c _ => c = 1586) M M1 → okCode cs st1.length → StkR (rd M1 1586) st1 → st1.length ≤ 48 → P_2_valueFor_6 n (nI d) (nI h) (nI st1.length) (nI i + 1) M1 ∧ ∃ M', F_2_valueFor_6 n (nI d) (nI h) (nI st1.length) (nI i + 1) M1 = (ev (kn u s d h) cs st1, M') ∧ Kp (fun c _ => c = 1586) M M' := by
      intro M1 st1 hkp ho hs1 h1
      have hp1 := hp.k hkp (fun a j z => by omega)
      have hr1 := hr.k hkp (fun a j z => by omega)
      have g3 : rd M1 1583 3 = rd M 1583 3 := hkp.g (by decide)
      have g4 : ∀ j, rd M1 1584 j = rd M 1584 j := fun j => hkp.g (by decide)
      rw [nI_1]
      obtain ⟨a, M', b, e⟩ := ih st1 n (i + 1) M1 hp1 hr1 (by rw [g3, hl, hl2]) (by omega) (fun j hj => by
        rw [g4]
        have := hc (j + 1) (by omega)
        rw [show i + (j + 1) = i + 1 + j by omega] at this
        rw [this]
        rfl) ho hs1 (by omega) h1
      exact ⟨a, M', b, hkp.tr e⟩
    rw [P_2_valueFor_6, F_2_valueFor_6, hl, if_neg q, vc, hc0]
    by_cases h9 : c ≤ -9
    · obtain ⟨h2, ho⟩ := hk1 h9
      match st, h2, ho, hst, h48 with
      | b :: a :: r, h2, ho, hst, h48 =>
        have e1 : nI (b :: a :: r).length + (-1) = nI (r.length + 1) := by simp only [List.length_cons]; exact pk_m1 _
        have e2 : nI (r.length + 1) - 1 = nI r.length := nI_pred _
        simp only [List.length_cons] at h48
        have e3 : ¬ nI (b :: a :: r).length < 2 := nI_nlt (a := (b :: a :: r).length) (b := 2) (by simp) (by simp only [List.length_cons]; omega)
        have v1 : vp_in (nI r.length) 48 := (vp_iff (by omega)).mpr (by omega)
        have v2 : vp_in (nI (r.length + 1)) 48 := (vp_iff (by omega)).mpr (by omega)
        have f1 : rd M 1586 r.length = a := hst.2.1
        have f2 : rd M 1586 (r.length + 1) = b := hst.1
        rw [if_pos h9, if_neg e3, e1, e2, nI_clamp (by omega), nI_clamp (by omega), f1, f2, jn_M]
        rw [F_2_valueFor_110, P_2_valueFor_110]
        obtain ⟨t1, t2⟩ := tail (wr M 1586 r.length (jn c a b)) (jn c a b :: r) (Kp.rf.w rfl) ho ⟨rd_s _ _ _ _, StkR.cg (fun k hk => rd_i (by omega)) hst.2.2⟩ (by simp only [List.length_cons]; omega)
        rw [ev_j (kn u s d h) cs b a r h9]
        exact ⟨⟨fun z => absurd z q, fun _ => ⟨vi, ⟨fun _ => ⟨fun z => absurd z e3, fun _ => ⟨v1, v2, jnP _ _ _ _, v1, t1⟩⟩, fun z => absurd h9 z⟩⟩⟩, t2⟩
    · obtain ⟨h2, ho⟩ := hk2 h9
      have e3 : ¬ (48 : Int32) ≤ nI st.length := nI_ge (a := st.length) (b := 48) (by omega) (by omega)
      have v1 : vp_in (nI st.length) 48 := (vp_iff (by omega)).mpr (by omega)
      have push : ∀ v, P_2_valueFor_64 (P_2_valueFor_6 n) (nI d) (nI h) (nI st.length) (nI i) v (nI st.length) M ∧ ∃ M', F_2_valueFor_64 (F_2_valueFor_6 n) (nI d) (nI h) (nI st.length) (nI i) v (nI st.length) M = (ev (kn u s d h) cs (v :: st), M') ∧ Kp (fun c _ => c = 1586) M M' := by
        intro v
        rw [P_2_valueFor_64, F_2_valueFor_64, P_2_valueFor_110, F_2_valueFor_110, nI_clamp (by omega), nI_1 st.length]
        obtain ⟨t1, t2⟩ := tail (wr M 1586 st.length v) (v :: st) (Kp.rf.w rfl) ho ⟨rd_s _ _ _ _, StkR.cg (fun k hk => rd_i (by omega)) hst⟩ (by simp only [List.length_cons]; omega)
        exact ⟨⟨v1, t1⟩, t2⟩
      rw [if_neg h9, if_neg e3]
      by_cases h0 : c < 0
      · obtain ⟨p1, p2⟩ := c_fact (h := h) hp hr hd hh h9 h0
        obtain ⟨t1, t2⟩ := push (kn u s d h (-1 - c).toNatClampNeg)
        rw [if_pos h0, p2, ev_k (kn u s d h) cs st h9 h0]
        exact ⟨⟨fun z => absurd z q, fun _ => ⟨vi, ⟨fun z => absurd z h9, fun _ => ⟨fun z => absurd z e3, fun _ => ⟨fun _ => ⟨p1, t1⟩, fun z => absurd h0 z⟩⟩⟩⟩⟩, t2⟩
      · obtain ⟨t1, t2⟩ := push c
        rw [if_neg h0, ev_n (kn u s d h) cs st h9 h0]
        exact ⟨⟨fun z => absurd z q, fun _ => ⟨vi, ⟨fun z => absurd z h9, fun _ => ⟨fun z => absurd z e3, fun _ => ⟨fun z => absurd z h0, fun _ => t1⟩⟩⟩⟩⟩, t2⟩
/-- the class: is a door open at an hour -/
theorem c_isOpen {u : MU} {s : SU} {L : List Int32} {d h : Nat} {M : Mem} (hd : d < uM u) (hh : h < 4000) (hp : CP 1561 u M) (hr : CR 1622 u s M) (hL : CL L M) : P_1_isOpen_0 (nI d) (nI h) M ∧ ∃ M', F_1_isOpen_0 (nI d) (nI h) M = (if opn u s L d h = true then 1 else 0, M') ∧ Kp (fun c _ => c = 1586) M M' := by
  have hd24 : d < 24 := Nat.lt_of_lt_of_le hd hp.1.2.1
  have hb := hr.2.2.2.1 d
  rw [decide_eq_true hd, Bool.true_and] at hb
  rw [P_1_isOpen_0, F_1_isOpen_0, P_2_valueFor_0, F_2_valueFor_0]
  have hz := b_z (x := rd M 1622 2) (i := d) (by omega)
  rw [hb] at hz
  have ho : opn u s L d h = (!sB s d && decide (0 < ev (kn u s d h) L [])) := rfl
  by_cases hB : sB s d = true
  · have c1 : ¬ ((rd M 1622 2) >>> (nI d &&& 31)) &&& 1 = 0 := fun z => by rw [hz.mp z] at hB; cases hB
    rw [if_neg c1, ho, hB]
    exact ⟨⟨fun _ => trivial, fun z => absurd z c1⟩, M, rfl, Kp.rf⟩
  · have hB' := Bool.eq_false_iff.mpr hB
    have c1 : ((rd M 1622 2) >>> (nI d &&& 31)) &&& 1 = 0 := hz.mpr hB'
    obtain ⟨a, M', b, k⟩ := c_value (s := s) (h := h) hd hh L [] FU 0 M hp hr (by rw [hL.2.1, Nat.zero_add]) (by rw [Nat.zero_add]; exact hL.1.1) (fun j hj => by rw [Nat.zero_add]; exact hL.2.2 j hj) hL.1.2 trivial (Nat.lt_of_le_of_lt hL.1.1 (by decide)) (by simp)
    have b' : F_2_valueFor_6 FU (nI d) (nI h) 0 0 M = (ev (kn u s d h) L [], M') := b
    rw [if_pos c1, ho, hB', b']
    refine ⟨⟨fun z => absurd c1 z, fun _ => a⟩, ?_⟩
    rw [F_1_isOpen_31]
    by_cases hv : ev (kn u s d h) L [] ≤ 0
    · refine ⟨M', ?_, k⟩
      have : ¬ 0 < ev (kn u s d h) L [] := Int32.not_lt.mpr hv
      rw [decide_eq_false this]
      rw [if_pos hv]
      rfl
    · refine ⟨M', ?_, k⟩
      have : 0 < ev (kn u s d h) L [] := Int32.not_le.mp hv
      rw [decide_eq_true this]
      rw [if_neg hv]
      rfl
