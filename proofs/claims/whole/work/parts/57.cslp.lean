/-! MATHEMATICS 27: the class's sleepers; spans -/
def cZ (c _ : Nat) : Prop := c = 1586 ∨ c = 1610 ∨ c = 1611 ∨ c = 1612
theorem CV.z {u : MU} {s : SU} {L : List Int32} {M M' : Mem} (h : CV u s L M) (hk : Kp cZ M M') : CV u s L M' := h.k hk (fun c j z => by unfold cZ at z; omega)
/-- what is known of doors -/
def OC (u : MU) (s : SU) (L : List Int32) (M : Mem) : Prop := ∀ h, h < 96 → ∀ d, d < uM u → bt (rd M 1612 h) d = (bt (rd M 1611 h) (uF u d) && opn u s L d (sH s + h))
theorem c_lieDown {u : MU} {s : SU} {L : List Int32} {M : Mem} : P_6_lieDown_0 M ∧ ∃ M', F_6_lieDown_0 M = M' ∧ Kp cZ M M' ∧ OC u s L M' := by
  rw [P_6_lieDown_0, F_6_lieDown_0]
  refine lq (S := Mem) (F := fun n i q => F_6_lieDown_2 n i q) (P := fun n i q => P_6_lieDown_2 n i q) (Q := fun z => ∃ M', z = M' ∧ Kp cZ M M' ∧ OC u s L M') (96) (fun i q => Kp cZ M q ∧ ∀ h, h < i → rd q 1611 h = 0 ∧ rd q 1612 h = 0) ?_ ?_ FU 0 M ⟨Kp.rf, fun h z => by omega⟩ (Nat.zero_le _) (FU_ge (by omega))
  · rintro n i M2 hi ⟨hK2, hz⟩ ih
    try dsimp only at ih ⊢
    have q1 : ¬ (96 : Int32) ≤ nI i := nI_ge (b := 96) hi (by omega)
    have v1 : vp_in (nI i) 96 := (vp_iff (by omega)).mpr hi
    rw [P_6_lieDown_2, F_6_lieDown_2]
    simp only [q1, v1, nI_clamp (n := i) (by omega), if_true, if_false, true_imp_iff, false_imp_iff, not_true_eq_false, not_false_eq_true, true_and, and_true, implies_true, reduceIte]
    refine ih _ ⟨(hK2.w (Or.inr (Or.inr (Or.inl rfl)))).w (Or.inr (Or.inr (Or.inr rfl))), fun t ht => ?_⟩
    by_cases e : t = i
    · subst e; exact ⟨by rw [rd_c (by decide), rd_s], rd_s _ _ _ _⟩
    · rw [rd_i e, rd_i e, rd_i e, rd_i e]; exact hz t (by omega)
  · rintro n M2 ⟨hK2, hz⟩
    try dsimp only
    rw [P_6_lieDown_2, F_6_lieDown_2]
    simp only [(by decide : (96 : Int32) ≤ nI 96), if_true, if_false, true_imp_iff, false_imp_iff, not_true_eq_false, not_false_eq_true, true_and, and_true, implies_true, reduceIte]
    refine ⟨M2, rfl, hK2, fun h hh d hd => ?_⟩
    rw [(hz h hh).1, (hz h hh).2, b_0, b_0]; rfl
theorem c_openFrom {u : MU} {s : SU} {L : List Int32} {M : Mem} (hv : CV u s L M) (hO : OC u s L M) {r h : Nat} (hr : r < uN u) (hh : h < 96) : P_6_openFrom_0 (nI r) (nI h) M ∧ ∃ D M', F_6_openFrom_0 (nI r) (nI h) M = (D, M') ∧ (∀ d, bt D d = (decide (d < uM u) && dstW u s L r (sH s + h) d)) ∧ OC u s L M' ∧ Kp (fun c j => c = 1586 ∨ c = 1611 ∨ c = 1612) M M' := by
  have hu := hv.1.1
  have hn := hu.1
  have hm := hu.2.1
  have hH := hv.2.1.1.1
  have v1 : vp_in (nI r) 10 := (vp_iff (by omega)).mpr (by omega)
  have v2 : vp_in (nI h) 96 := (vp_iff (by omega)).mpr hh
  have hlv : ∀ d, bt (rd M 1564 r) d = (decide (d < uM u) && decide (uF u d = r)) := fun d => by
    have := (hv.1.2.2.2.2.2.2.1 r hr).2.2.1 d
    simpa using this
  have res : ∀ M2, (∀ d, d < uM u → uF u d = r → bt (rd M2 1612 h) d = opn u s L d (sH s + h)) → ∀ d, bt (rd M2 1612 h &&& rd M 1564 r) d = (decide (d < uM u) && dstW u s L r (sH s + h) d) := by
    intro M2 h1 d
    rw [b_and, hlv]
    unfold dstW
    by_cases c : d < uM u
    · by_cases c2 : uF u d = r
      · rw [h1 d c c2]; simp [c, c2]
      · simp [c, c2]
    · simp [c]
  have z1 := b_z (x := rd M 1611 h) (i := r) (by omega)
  rw [P_6_openFrom_0, F_6_openFrom_0, nI_clamp (n := h) (by omega), nI_clamp (n := r) (by omega)]
  simp only [v1, v2, z1, bi_of, if_true, if_false, true_imp_iff, false_imp_iff, not_true_eq_false, not_false_eq_true, true_and, and_true, implies_true, reduceIte]
  cases ck : bt (rd M 1611 h) r
  · simp only [if_true, if_false, true_imp_iff, false_imp_iff, not_true_eq_false, not_false_eq_true, true_and, and_true, implies_true, reduceIte]
    have hK0 : Kp (fun c j => c = 1586 ∨ c = 1611 ∨ c = 1612) M (wr M 1611 h (rd M 1611 h ||| bi r)) := Kp.rf.w (Or.inr (Or.inl rfl))
    have e12 : ∀ t, rd (wr M 1611 h (rd M 1611 h ||| bi r)) 1612 t = rd M 1612 t := fun t => rd_c (by decide)
    have e11 : ∀ t, rd (wr M 1611 h (rd M 1611 h ||| bi r)) 1611 t = if t = h then rd M 1611 h ||| bi r else rd M 1611 t := fun t => by
      rw [rd_wr]
      by_cases e : t = h
      · rw [if_pos ⟨rfl, e⟩, if_pos e]
      · rw [if_neg (fun z => e z.2), if_neg e]
    refine lq (S := Mem) (F := fun n i q => F_6_openFrom_38 n (nI h) (rd M 1564 r) i q) (P := fun n i q => P_6_openFrom_38 n (nI h) (rd M 1564 r) i q) (Q := fun z => ∃ D M', z = (D, M') ∧ (∀ d, bt D d = (decide (d < uM u) && dstW u s L r (sH s + h) d)) ∧ OC u s L M' ∧ Kp (fun c j => c = 1586 ∨ c = 1611 ∨ c = 1612) M M') (uM u) (fun i q => Kp (fun c j => c = 1586 ∨ c = 1611 ∨ c = 1612) M q ∧ (∀ t, rd q 1611 t = if t = h then rd M 1611 h ||| bi r else rd M 1611 t) ∧ (∀ t, t ≠ h → rd q 1612 t = rd M 1612 t) ∧ ∀ d, d < uM u → bt (rd q 1612 h) d = (bt (rd M 1612 h) d || (decide (d < i) && dstW u s L r (sH s + h) d))) ?_ ?_ FU 0 (wr M 1611 h (rd M 1611 h ||| bi r)) ⟨hK0, e11, fun t _ => e12 t, fun d _ => by rw [e12]; simp⟩ (Nat.zero_le _) (FU_ge (by omega))
    · rintro n i M2 hi ⟨hK2, h11, h12, hb⟩ ih
      try dsimp only at ih ⊢
      have hv2 : CV u s L M2 := hv.k hK2 (fun c j z => by omega)
      have q1 : ¬ nI (uM u) ≤ nI i := nI_ge hi (by omega)
      have z2 := b_z (x := rd M 1564 r) (i := i) (by omega)
      rw [hlv, decide_eq_true hi, Bool.true_and] at z2
      obtain ⟨o1, M3, o2, o3⟩ := c_open (h := sH s + h) hv2 hi (by omega)
      have g11 : ∀ t, rd M3 1611 t = rd M2 1611 t := fun t => o3.g (by unfold cO; omega)
      have g12 : ∀ t, rd M3 1612 t = rd M2 1612 t := fun t => o3.g (by unfold cO; omega)
      have hK3 : Kp (fun c j => c = 1586 ∨ c = 1611 ∨ c = 1612) M M3 := hK2.tr (o3.mono (fun c j z => Or.inl z))
      rw [P_6_openFrom_38, F_6_openFrom_38, hv2.1.2.2.1, hv2.2.1.2.1, nI_add]
      simp only [q1, z2, o1, o2, ib0, v2, nI_clamp (n := h) (by omega), bi_of, if_true, if_false, true_imp_iff, false_imp_iff, not_true_eq_false, not_false_eq_true, true_and, and_true, implies_true, reduceIte, P_6_openFrom_77, P_6_openFrom_93, F_6_openFrom_77, F_6_openFrom_93]
      have keep : dstW u s L r (sH s + h) i = false → ∀ M', Kp (fun c j => c = 1586 ∨ c = 1611 ∨ c = 1612) M M' → (∀ t, rd M' 1611 t = rd M2 1611 t) → (∀ t, rd M' 1612 t = rd M2 1612 t) → _ := fun hd M' k1 k2 k3 => ih M' ⟨k1, fun t => by rw [k2]; exact h11 t, fun t ht => by rw [k3]; exact h12 t ht, fun d hdM => by
        rw [k3, hb d hdM]
        by_cases e : d = i
        · subst e; rw [hd]; simp
        · have : decide (d < i + 1) = decide (d < i) := decide_eq_decide.mpr (by omega)
          rw [this]⟩
      by_cases cF : uF u i = r
      · cases cO : opn u s L i (sH s + h)
        · have := keep (by unfold dstW; rw [cO]; simp) M3 hK3 g11 g12
          simpa [cF] using this
        · have hg := ih (wr M3 1612 h (rd M3 1612 h ||| bi i)) ⟨hK3.w (Or.inr (Or.inr rfl)), fun t => by rw [rd_c (by decide), g11]; exact h11 t, fun t ht => by rw [rd_i ht, g12]; exact h12 t ht, fun d hdM => by
            rw [rd_s, b_or, g12, hb d hdM, b_bi (by omega)]
            by_cases e : d = i
            · subst e
              have : dstW u s L r (sH s + h) d = true := by unfold dstW; rw [cO]; simp [cF]
              rw [this]; simp
            · have : decide (d < i + 1) = decide (d < i) := decide_eq_decide.mpr (by omega)
              rw [this, decide_eq_false e, Bool.or_false]⟩
          simpa [cF] using hg
      · have := keep (by unfold dstW; simp [cF]) M2 hK2 (fun _ => rfl) (fun _ => rfl)
        simpa [cF] using this
    · rintro n M2 ⟨hK2, h11, h12, hb⟩
      try dsimp only
      have hv2 : CV u s L M2 := hv.k hK2 (fun c j z => by omega)
      have q1 : nI (uM u) ≤ nI (uM u) := nI_le (Nat.le_refl _) (by omega)
      rw [P_6_openFrom_38, F_6_openFrom_38, hv2.1.2.2.1]
      simp only [q1, v2, nI_clamp (n := h) (by omega), if_true, if_false, true_imp_iff, false_imp_iff, not_true_eq_false, not_false_eq_true, true_and, and_true, implies_true, reduceIte]
      have hbd : ∀ d, d < uM u → bt (rd M2 1612 h) d = (bt (rd M 1612 h) d || dstW u s L r (sH s + h) d) := fun d hd => by rw [hb d hd, decide_eq_true hd, Bool.true_and]
      refine ⟨_, M2, rfl, res M2 (fun d hd hF => ?_), fun t ht d hd => ?_, hK2⟩
      · rw [hbd d hd, hO h hh d hd, hF, ck, Bool.false_and, Bool.false_or]
        unfold dstW
        simp [hF]
      · rw [h11]
        by_cases e : t = h
        · subst e
          rw [if_pos rfl, hbd d hd, hO t ht d hd, b_or, b_bi (by omega)]
          unfold dstW
          by_cases c : uF u d = r
          · simp [c, ck]
          · simp [c]
        · rw [if_neg e, h12 t e]; exact hO t ht d hd
  · simp only [Bool.true_eq_false, if_true, if_false, true_imp_iff, false_imp_iff, not_true_eq_false, not_false_eq_true, true_and, and_true, implies_true, reduceIte]
    exact ⟨_, M, rfl, res M (fun d hd hF => by rw [hO h hh d hd, hF, ck, Bool.true_and]), hO, Kp.rf⟩
theorem c_pick {p : Nat → Bool} {D : Int32} {n0 k : Nat} {M : Mem} (hn24 : n0 ≤ 24) (hD : ∀ d, bt D d = (decide (d < n0) && p d)) (hk : k < cnt p n0) : P_6_pick_0 M D (nI k) ∧ F_6_pick_0 M D (nI k) = nI (kth p n0 k) := by
  have hcl := cnt_le p n0
  rw [P_6_pick_0, F_6_pick_0]
  refine lq (S := Int32) (F := fun n i q => F_6_pick_4 M n (nI k) q i) (P := fun n i q => P_6_pick_4 M n (nI k) q i) (Q := fun z => z = nI (kth p n0 k)) (k) (fun i q => ∀ d, bt q d = true ↔ d < n0 ∧ p d = true ∧ i ≤ cnt p d) ?_ ?_ FU 0 D (fun d => by rw [hD, Bool.and_eq_true, decide_eq_true_eq]; simp) (Nat.zero_le _) (FU_ge (by omega))
  · intro m i x hi hI ih
    try dsimp only at ih ⊢
    have q1 : ¬ nI k ≤ nI i := nI_ge hi (by omega)
    rw [P_6_pick_4, F_6_pick_4]
    simp only [q1, if_true, if_false, true_imp_iff, false_imp_iff, not_true_eq_false, not_false_eq_true, true_and, and_true, implies_true, reduceIte]
    refine ih _ (fun d => ?_)
    rw [b_rest, hI]
    constructor
    · rintro ⟨⟨h1, h2, h3⟩, j, h4, h5⟩
      have h6 := (hI j).mp h5
      have := cnt_lt2 h4 h6.2.1
      exact ⟨h1, h2, by omega⟩
    · rintro ⟨h1, h2, h3⟩
      obtain ⟨j, h4, h5, h6⟩ := cnt_hit (p := p) (k := i) d (by omega)
      exact ⟨⟨h1, h2, by omega⟩, j, h4, (hI j).mpr ⟨by omega, h5, by omega⟩⟩
  · intro m x hI
    try dsimp only
    have q1 : nI k ≤ nI k := nI_le (Nat.le_refl _) (by omega)
    rw [P_6_pick_4, F_6_pick_4]
    simp only [q1, if_true, if_false, true_imp_iff, false_imp_iff, not_true_eq_false, not_false_eq_true, true_and, and_true, implies_true, reduceIte]
    obtain ⟨d, h1, h2, h3⟩ := cnt_hit n0 hk
    rw [kth_is h1 h2 h3]
    refine lowest_eq M (by omega) ((hI d).mpr ⟨h1, h2, by omega⟩) (fun j hj => ?_)
    apply Bool.eq_false_iff.mpr
    intro z
    have h4 := (hI j).mp z
    have := cnt_lt2 hj h4.2.1
    omega
theorem c_sleep {u : MU} {s : SU} {L : List Int32} {M : Mem} (hv : CV u s L M) (hO : OC u s L M) (x : Int32) {a m : Nat} (ha : a < uN u) (hm96 : m ≤ 96) : P_6_sleep_0 x (nI a) (nI m) M ∧ ∃ M', F_6_sleep_0 x (nI a) (nI m) M = M' ∧ rd M' 1610 6 = nI (slK u s L x a m).2.1 ∧ rd M' 1610 7 = (slK u s L x a m).2.2.1 ∧ rd M' 1610 8 = nI (slK u s L x a m).2.2.2 ∧ OC u s L M' ∧ Kp cZ M M' := by
  have hu := hv.1.1
  have hn := hu.1
  have hm := hu.2.1
  have hH := hv.2.1.1.1
  rw [P_6_sleep_0, F_6_sleep_0, bi_of]
  have k0 : Kp cZ M (wr (wr (wr (wr M 1610 5 x) 1610 6 (nI a)) 1610 7 (bi a)) 1610 8 0) := (((Kp.rf.w (Or.inr (Or.inl rfl))).w (Or.inr (Or.inl rfl))).w (Or.inr (Or.inl rfl))).w (Or.inr (Or.inl rfl))
  have r5 : rd (wr (wr (wr (wr M 1610 5 x) 1610 6 (nI a)) 1610 7 (bi a)) 1610 8 0) 1610 5 = x := by rw [rd_i (by decide), rd_i (by decide), rd_i (by decide), rd_s]
  have r6 : rd (wr (wr (wr (wr M 1610 5 x) 1610 6 (nI a)) 1610 7 (bi a)) 1610 8 0) 1610 6 = nI a := by rw [rd_i (by decide), rd_i (by decide), rd_s]
  have r7 : rd (wr (wr (wr (wr M 1610 5 x) 1610 6 (nI a)) 1610 7 (bi a)) 1610 8 0) 1610 7 = bi a := by rw [rd_i (by decide), rd_s]
  have r8 : rd (wr (wr (wr (wr M 1610 5 x) 1610 6 (nI a)) 1610 7 (bi a)) 1610 8 0) 1610 8 = nI 0 := rd_s _ _ _ _
  have rO0 : OC u s L (wr (wr (wr (wr M 1610 5 x) 1610 6 (nI a)) 1610 7 (bi a)) 1610 8 0) := fun h hh d hd => by
    rw [rd_c (by decide), rd_c (by decide), rd_c (by decide), rd_c (by decide), rd_c (by decide), rd_c (by decide), rd_c (by decide), rd_c (by decide)]
    exact hO h hh d hd
  generalize wr (wr (wr (wr M 1610 5 x) 1610 6 (nI a)) 1610 7 (bi a)) 1610 8 0 = M0 at *
  refine lq (S := Mem) (F := fun n i q => F_6_sleep_25 n (nI m) i q) (P := fun n i q => P_6_sleep_25 n (nI m) i q) (Q := fun z => ∃ M', z = M' ∧ rd M' 1610 6 = nI (slK u s L x a m).2.1 ∧ rd M' 1610 7 = (slK u s L x a m).2.2.1 ∧ rd M' 1610 8 = nI (slK u s L x a m).2.2.2 ∧ OC u s L M' ∧ Kp cZ M M') (m) (fun k q => rd q 1610 5 = (slK u s L x a k).1 ∧ rd q 1610 6 = nI (slK u s L x a k).2.1 ∧ rd q 1610 7 = (slK u s L x a k).2.2.1 ∧ rd q 1610 8 = nI (slK u s L x a k).2.2.2 ∧ OC u s L q ∧ Kp cZ M q) ?_ ?_ FU 0 M0 ⟨r5, r6, r7, r8, rO0, k0⟩ (Nat.zero_le _) (FU_ge (by omega))
  · rintro n k M1 hk ⟨h5, h6, h7, h8, hO1, hK⟩ ih
    try dsimp only at ih ⊢
    have q1 : ¬ nI m ≤ nI k := nI_ge hk (by omega)
    have q2 : ¬ (96 : Int32) ≤ nI k := nI_ge (b := 96) (by omega) (by omega)
    have hv1 := hv.z hK
    have hin := slK_in (s := s) (L := L) (x := x) hu ha k
    obtain ⟨d1, D, M2, d2, d3, d4, d5⟩ := c_openFrom hv1 hO1 (r := (slK u s L x a k).2.1) (h := k) hin.1 (by omega)
    have hK2 : Kp cZ M M2 := hK.tr (d5.mono (fun c j z => by unfold cZ; omega))
    have g : ∀ j, rd M2 1610 j = rd M1 1610 j := fun j => d5.g (by omega)
    have hlow : ∀ i, 24 ≤ i → i < 32 → bt D i = false := fun i h1 h2 => by rw [d3, decide_eq_false (by omega)]; rfl
    have ebc : cnt (bt D) 24 = cnt (dstW u s L (slK u s L x a k).2.1 (sH s + k)) (uM u) := by
      rw [cnt_ext (p := bt D) hm (fun i h1 h2 => by rw [d3, decide_eq_false (by omega)]; rfl)]
      exact cnt_cg (fun i hi => by rw [d3, decide_eq_true hi, Bool.true_and])
    have hbc : F_6_bitCount_0f7a4_0 M2 D = nI (cnt (dstW u s L (slK u s L x a k).2.1 (sH s + k)) (uM u)) := by rw [bcount hlow, ebc]
    have hcl := cnt_le (dstW u s L (slK u s L x a k).2.1 (sH s + k)) (uM u)
    have z0 : (nI (cnt (dstW u s L (slK u s L x a k).2.1 (sH s + k)) (uM u)) ≤ 0) ↔ cnt (dstW u s L (slK u s L x a k).2.1 (sH s + k)) (uM u) = 0 := z_le (by omega)
    have hs : slK u s L x a (k + 1) = slS u s L (sH s + k) (slK u s L x a k) := rfl
    rw [slS] at hs
    rw [P_6_sleep_25, F_6_sleep_25, h6, d2]
    simp only [q1, q2, d1, if_true, if_false, true_imp_iff, false_imp_iff, not_true_eq_false, not_false_eq_true, true_and, and_true, implies_true, reduceIte, P_6_sleep_48, F_6_sleep_48, hbc, z0]
    by_cases c : cnt (dstW u s L (slK u s L x a k).2.1 (sH s + k)) (uM u) = 0
    · rw [if_pos c] at hs
      have := ih M2 ⟨by rw [g, hs]; exact h5, by rw [g, hs]; exact h6, by rw [g, hs]; exact h7, by rw [g, hs]; exact h8, d4, hK2⟩
      simpa [c, P_6_sleep_111, F_6_sleep_111] using this
    · rw [if_neg c] at hs
      have hlt := Nat.mod_lt (lotW (nxS (slK u s L x a k).1)) (Nat.pos_of_ne_zero c)
      have kin := (kth_in (u := u) (s := s) (L := L) (r := (slK u s L x a k).2.1) (h := sH s + k) (x := lotW (nxS (slK u s L x a k).1)) c).1
      have w := hu.2.2.2.2.1 _ kin
      have hne : ¬ nI (cnt (dstW u s L (slK u s L x a k).2.1 (sH s + k)) (uM u)) = 0 := nI_ne0 (by omega) (by omega)
      have erem : nI (lotW (nxS (slK u s L x a k).1)) - nI (lotW (nxS (slK u s L x a k).1)) / nI (cnt (dstW u s L (slK u s L x a k).2.1 (sH s + k)) (uM u)) * nI (cnt (dstW u s L (slK u s L x a k).2.1 (sH s + k)) (uM u)) = nI (lotW (nxS (slK u s L x a k).1) % cnt (dstW u s L (slK u s L x a k).2.1 (sH s + k)) (uM u)) := pk_rem (by unfold lotW; omega) (by omega) (by omega)
      have edraw : F_6_draw_0 M2 = (nI (lotW (nxS (slK u s L x a k).1)), wr M2 1610 5 (nxS (slK u s L x a k).1)) := by
        rw [F_6_draw_0, g, h5, lot_c]; rfl
      have hK3 : Kp cZ M (wr M2 1610 5 (nxS (slK u s L x a k).1)) := hK2.w (Or.inr (Or.inl rfl))
      obtain ⟨p1, p2⟩ := c_pick (M := wr M2 1610 5 (nxS (slK u s L x a k).1)) hm d3 hlt
      have f2 : rd (wr M2 1610 5 (nxS (slK u s L x a k).1)) 1568 (kth (dstW u s L (slK u s L x a k).2.1 (sH s + k)) (uM u) (lotW (nxS (slK u s L x a k).1) % cnt (dstW u s L (slK u s L x a k).2.1 (sH s + k)) (uM u))) = nI (uG u (kth (dstW u s L (slK u s L x a k).2.1 (sH s + k)) (uM u) (lotW (nxS (slK u s L x a k).1) % cnt (dstW u s L (slK u s L x a k).2.1 (sH s + k)) (uM u)))) := by
        have := ((hv.z hK3).1.2.2.2.2.2.1 _ kin).2.1
        simpa using this
      simp only [c, edraw, P_6_sleep_76, F_6_sleep_76, hne, erem, p1, p2, if_true, if_false, true_imp_iff, false_imp_iff, not_true_eq_false, not_false_eq_true, true_and, and_true, implies_true, reduceIte]
      generalize hd : kth (dstW u s L (slK u s L x a k).2.1 (sH s + k)) (uM u) (lotW (nxS (slK u s L x a k).1) % cnt (dstW u s L (slK u s L x a k).2.1 (sH s + k)) (uM u)) = d at *
      have v9 : vp_in (nI d) 24 := (vp_iff (by omega)).mpr (by omega)
      rw [nI_clamp (n := d) (by omega), f2]
      simp only [v9, P_6_sleep_111, F_6_sleep_111, bi_of, if_true, if_false, true_imp_iff, false_imp_iff, not_true_eq_false, not_false_eq_true, true_and, and_true, implies_true, reduceIte]
      have e7 : ∀ v, rd (wr (wr M2 1610 5 (nxS (slK u s L x a k).1)) 1610 6 v) 1610 7 = (slK u s L x a k).2.2.1 := fun v => by rw [rd_i (by decide), rd_i (by decide), g]; exact h7
      have e8 : ∀ v v', rd (wr (wr (wr M2 1610 5 (nxS (slK u s L x a k).1)) 1610 6 v) 1610 7 v') 1610 8 = nI (slK u s L x a k).2.2.2 := fun v v' => by rw [rd_i (by decide), rd_i (by decide), rd_i (by decide), g]; exact h8
      rw [e7, e8]
      refine ih _ ⟨?_, ?_, ?_, ?_, fun h hh d' hd' => ?_, ((hK3.w (Or.inr (Or.inl rfl))).w (Or.inr (Or.inl rfl))).w (Or.inr (Or.inl rfl))⟩
      · rw [rd_i (by decide), rd_i (by decide), rd_i (by decide), rd_s, hs]
      · rw [rd_i (by decide), rd_i (by decide), rd_s, hs]
      · rw [rd_i (by decide), rd_s, hs]
      · rw [rd_s, hs, nI_1]
      · rw [rd_c (by decide), rd_c (by decide), rd_c (by decide), rd_c (by decide), rd_c (by decide), rd_c (by decide), rd_c (by decide), rd_c (by decide)]
        exact d4 h hh d' hd'
  · rintro n M1 ⟨h5, h6, h7, h8, hO1, hK⟩
    try dsimp only
    have q1 : nI m ≤ nI m := nI_le (Nat.le_refl _) (by omega)
    rw [P_6_sleep_25, F_6_sleep_25]
    simp only [q1, if_true, if_false, true_imp_iff, false_imp_iff, not_true_eq_false, not_false_eq_true, true_and, and_true, implies_true, reduceIte]
    exact ⟨M1, rfl, h6, h7, h8, hO1, hK⟩
/-- spans -/
def spB (u : MU) (s : SU) (L : List Int32) (x : Int32) (a m b : Nat) (w : Int32) (k : Nat) : Bool := if w = 0 then decide ((slK u s L (x + nI k) a m).2.1 = b) else bt (slK u s L (x + nI k) a m).2.2.1 b
theorem r_span {u : MU} {s : SU} {L : List Int32} {M : Mem} (hv : RV u s L M) (x w : Int32) {a b m t : Nat} (ha : a < uN u) (hb : b < uN u) (hm96 : m ≤ 96) (ht : t ≤ 40) : P_12_span_89 FU x (nI t) (nI a) (nI m) (nI b) w 0 0 M ∧ ∃ M', F_12_span_89 FU x (nI t) (nI a) (nI m) (nI b) w 0 0 M = (nI (cnt (spB u s L x a m b w) t), M') ∧ Kp rB M M' := by
  have hu := hv.1.1
  have hn := hu.1
  refine lq (S := Int32 × Mem) (F := fun n i q => F_12_span_89 n x (nI t) (nI a) (nI m) (nI b) w q.1 i q.2) (P := fun n i q => P_12_span_89 n x (nI t) (nI a) (nI m) (nI b) w q.1 i q.2) (Q := fun z => ∃ M', z = (nI (cnt (spB u s L x a m b w) t), M') ∧ Kp rB M M') (t) (fun k q => q.1 = nI (cnt (spB u s L x a m b w) k) ∧ Kp rB M q.2) ?_ ?_ FU 0 (0, M) ⟨rfl, Kp.rf⟩ (Nat.zero_le _) (FU_ge (by omega))
  · rintro n k ⟨y, M1⟩ hk ⟨h1, hK⟩ ih
    try dsimp only at h1 hK ih ⊢
    have q1 : ¬ nI t ≤ nI k := nI_ge hk (by omega)
    obtain ⟨d1, M2, d2, d3, d4, d5⟩ := r_walksBy (hv.b hK) (x + nI k) ha hm96
    have hin := slK_in (s := s) (L := L) (x := x + nI k) hu ha m
    have e1 : (nI (slK u s L (x + nI k) a m).2.1 = nI b) ↔ (slK u s L (x + nI k) a m).2.1 = b := nI_eq (by omega) (by omega)
    have hg := ih (y + (if spB u s L x a m b w k = true then 1 else 0), M2) ⟨by rw [h1, nI_b]; rfl, hK.tr d5⟩
    rw [P_12_span_89, F_12_span_89]
    simp only [q1, d1, d2, d3, e1, b_sh (x := (slK u s L (x + nI k) a m).2.2.1) (i := b) (by omega), if_true, if_false, true_imp_iff, false_imp_iff, not_true_eq_false, not_false_eq_true, true_and, and_true, implies_true, reduceIte, P_12_span_106, P_12_span_139, F_12_span_106, F_12_span_139]
    have eb : spB u s L x a m b w k = if w = 0 then decide ((slK u s L (x + nI k) a m).2.1 = b) else bt (slK u s L (x + nI k) a m).2.2.1 b := rfl
    rw [eb] at hg
    by_cases c : w = 0
    · by_cases c2 : (slK u s L (x + nI k) a m).2.1 = b <;> simpa [c, c2] using hg
    · simpa [c] using hg
  · rintro n ⟨y, M1⟩ ⟨h1, hK⟩
    try dsimp only at h1 hK ⊢
    have q1 : nI t ≤ nI t := nI_le (Nat.le_refl _) (by omega)
    rw [P_12_span_89, F_12_span_89]
    simp only [q1, if_true, if_false, true_imp_iff, false_imp_iff, not_true_eq_false, not_false_eq_true, true_and, and_true, implies_true, reduceIte]
    exact ⟨M1, by rw [h1], hK⟩
theorem c_span {u : MU} {s : SU} {L : List Int32} {M : Mem} (hv : CV u s L M) (hO : OC u s L M) (x w : Int32) {a b m t : Nat} (ha : a < uN u) (hb : b < uN u) (hm96 : m ≤ 96) (ht : t ≤ 40) : P_11_span_43 x (nI t) (nI a) (nI m) (nI b) w M ∧ ∃ M', F_11_span_43 x (nI t) (nI a) (nI m) (nI b) w M = .inl (some (.int (nI (cnt (spB u s L x a m b w) t))), M') ∧ Kp cZ M M' := by
  have hu := hv.1.1
  have hn := hu.1
  rw [P_11_span_43, F_11_span_43]
  refine lq (S := Int32 × Mem) (F := fun n i q => F_11_span_49 n x (nI t) (nI a) (nI m) (nI b) w q.1 i q.2) (P := fun n i q => P_11_span_49 n x (nI t) (nI a) (nI m) (nI b) w q.1 i q.2) (Q := fun z => ∃ M', z = .inl (some (.int (nI (cnt (spB u s L x a m b w) t))), M') ∧ Kp cZ M M') (t) (fun k q => q.1 = nI (cnt (spB u s L x a m b w) k) ∧ OC u s L q.2 ∧ Kp cZ M q.2) ?_ ?_ FU 0 (0, M) ⟨rfl, hO, Kp.rf⟩ (Nat.zero_le _) (FU_ge (by omega))
  · rintro n k ⟨y, M1⟩ hk ⟨h1, hO1, hK⟩ ih
    try dsimp only at h1 hO1 hK ih ⊢
    have q1 : ¬ nI t ≤ nI k := nI_ge hk (by omega)
    obtain ⟨d1, M2, d2, d3, d4, d5, d6, d7⟩ := c_sleep (hv.z hK) hO1 (x + nI k) ha hm96
    have hin := slK_in (s := s) (L := L) (x := x + nI k) hu ha m
    have hg := ih (y + (if spB u s L x a m b w k = true then 1 else 0), M2) ⟨by rw [h1, nI_b]; rfl, d6, hK.tr d7⟩
    rw [P_11_span_49, F_11_span_49]
    simp only [q1, d1, d2, d3, d4, bi_of, b_sh (x := (slK u s L (x + nI k) a m).2.2.1) (i := b) (by omega), b_sh (x := bi (slK u s L (x + nI k) a m).2.1) (i := b) (by omega), b_bi (n := (slK u s L (x + nI k) a m).2.1) (by omega), if_true, if_false, true_imp_iff, false_imp_iff, not_true_eq_false, not_false_eq_true, true_and, and_true, implies_true, reduceIte, P_11_span_69, P_11_span_93, F_11_span_69, F_11_span_93]
    have eb : spB u s L x a m b w k = if w = 0 then decide ((slK u s L (x + nI k) a m).2.1 = b) else bt (slK u s L (x + nI k) a m).2.2.1 b := rfl
    rw [eb] at hg
    by_cases c : w = 0
    · have e2 : decide ((slK u s L (x + nI k) a m).2.1 = b) = decide (b = (slK u s L (x + nI k) a m).2.1) := decide_eq_decide.mpr ⟨Eq.symm, Eq.symm⟩
      simp only [c, if_true] at hg ⊢
      rw [e2] at hg
      simpa using hg
    · simpa [c] using hg
  · rintro n ⟨y, M1⟩ ⟨h1, hO1, hK⟩
    try dsimp only at h1 hK ⊢
    have q1 : nI t ≤ nI t := nI_le (Nat.le_refl _) (by omega)
    rw [P_11_span_49, F_11_span_49]
    simp only [q1, if_true, if_false, true_imp_iff, false_imp_iff, not_true_eq_false, not_false_eq_true, true_and, and_true, implies_true, reduceIte]
    exact ⟨M1, by rw [h1], hK⟩
theorem r_ones {M : Mem} {x : Int32} : P_12_ones_0 M x ∧ F_12_ones_0 M x = nI (cnt (bt x) 10) := by
  rw [P_12_ones_0, F_12_ones_0]
  refine lq (S := Int32) (F := fun n i q => F_12_ones_4 M n x q i) (P := fun n i q => P_12_ones_4 M n x q i) (Q := fun z => z = nI (cnt (bt x) 10)) (10) (fun i q => q = nI (cnt (bt x) i)) ?_ ?_ FU 0 0 rfl (Nat.zero_le _) (FU_ge (by omega))
  · intro n i y hi hI ih
    try dsimp only at ih ⊢
    have q1 : ¬ (10 : Int32) ≤ nI i := nI_ge (b := 10) hi (by omega)
    rw [P_12_ones_4, F_12_ones_4]
    simp only [q1, b_sh (x := x) (i := i) (by omega), if_true, if_false, true_imp_iff, false_imp_iff, not_true_eq_false, not_false_eq_true, true_and, and_true, implies_true, reduceIte]
    exact ih _ (by rw [hI, nI_b]; rfl)
  · intro n y hI
    try dsimp only
    rw [P_12_ones_4, F_12_ones_4]
    simp only [(by decide : (10 : Int32) ≤ nI 10), if_true, if_false, true_imp_iff, false_imp_iff, not_true_eq_false, not_false_eq_true, true_and, and_true, implies_true, reduceIte]
    exact hI
