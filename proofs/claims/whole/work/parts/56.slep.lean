/-! MATHEMATICS 26: sleepwalkers -/
def kth (p : Nat → Bool) (n k : Nat) : Nat := (fst? (fun d => p d && decide (cnt p d = k)) n 0).getD 0
theorem cnt_mono {p : Nat → Bool} {i : Nat} : ∀ j, cnt p i ≤ cnt p (i + j) := by
  intro j
  induction j with
  | zero => exact Nat.le_refl _
  | succ j ih => rw [← Nat.add_assoc, cnt]; omega
theorem cnt_lt2 {p : Nat → Bool} {i j : Nat} (h : i < j) (hp : p i = true) : cnt p i < cnt p j := by
  have := cnt_mono (p := p) (i := i + 1) (j - (i + 1))
  rw [show i + 1 + (j - (i + 1)) = j by omega, cnt, if_pos hp] at this
  omega
theorem cnt_hit {p : Nat → Bool} {k : Nat} : ∀ n, k < cnt p n → ∃ d, d < n ∧ p d = true ∧ cnt p d = k := by
  intro n
  induction n with
  | zero => intro h; exact absurd h (Nat.not_lt_zero _)
  | succ n ih =>
    intro h
    rw [cnt] at h
    by_cases c : k < cnt p n
    · obtain ⟨d, h1, h2⟩ := ih c
      exact ⟨d, by omega, h2⟩
    · by_cases c2 : p n = true
      · rw [if_pos c2] at h
        exact ⟨n, by omega, c2, by omega⟩
      · rw [if_neg c2] at h; omega
theorem kth_is {p : Nat → Bool} {n k d : Nat} (hd : d < n) (hp : p d = true) (hc : cnt p d = k) : kth p n k = d := by
  have : fst? (fun d => p d && decide (cnt p d = k)) n 0 = some d := by
    rw [fst_some]
    refine ⟨Nat.zero_le _, by omega, by simp [hp, hc], fun j _ hj => ?_⟩
    cases c : p j
    · rfl
    · have := cnt_lt2 hj c
      simp
      omega
  rw [kth, this]; rfl
def lotW (x : Int32) : Nat := (x >>> ((16 : Int32) &&& 31)).toBitVec.toNat % 2 ^ 15
theorem lot_r (x : Int32) : (x >>> ((16 : Int32) &&& 31)) &&& 32767 = nI (lotW x) := pk_and _ 15 (by decide)
theorem lot_c (x : Int32) : ((x.toUInt32 >>> ((16 : Int32).toUInt32 &&& Int32.toUInt32 31)).toInt32) &&& 32767 = nI (lotW x) := by
  rw [← lot_r]
  apply b_ext
  intro i hi
  rw [b_and, b_and]
  have h15 : ∀ i, i < 32 → bt 32767 i = decide (i < 15) := by decide +kernel
  rw [h15 i hi]
  by_cases c : i < 15
  · rw [decide_eq_true c, Bool.and_true, Bool.and_true]
    have h1 := b_sshr 16 (by omega) x hi
    rw [if_pos (by omega)] at h1
    have e16 : (nI 16 &&& 31) = ((16 : Int32) &&& 31) := rfl
    rw [e16] at h1
    rw [h1]
    unfold bt
    show (x.toUInt32 >>> ((16 : Int32).toUInt32 &&& Int32.toUInt32 31)).toBitVec.getLsbD i = _
    rw [UInt32.toBitVec_shiftRight]
    show (x.toBitVec >>> (((16 : Int32).toUInt32 &&& Int32.toUInt32 31).toBitVec % 32#32)).getLsbD i = _
    have e2 : ((16 : Int32).toUInt32 &&& Int32.toUInt32 31).toBitVec % 32#32 = 16#32 := by decide
    rw [e2]
    show (x.toBitVec >>> (16#32).toNat).getLsbD i = _
    rw [BitVec.getLsbD_ushiftRight]
    rfl
  · rw [decide_eq_false c, Bool.and_false, Bool.and_false]
def dstW (u : MU) (s : SU) (L : List Int32) (r h d : Nat) : Bool := decide (uF u d = r) && opn u s L d h
abbrev SWQ : Type := Int32 × Nat × Int32 × Nat
def nxS (x : Int32) : Int32 := x * 1103515245 + 12345
def slS (u : MU) (s : SU) (L : List Int32) (h : Nat) (q : SWQ) : SWQ :=
  if cnt (dstW u s L q.2.1 h) (uM u) = 0 then q else (nxS q.1, uG u (kth (dstW u s L q.2.1 h) (uM u) (lotW (nxS q.1) % cnt (dstW u s L q.2.1 h) (uM u))), q.2.2.1 ||| bi (uG u (kth (dstW u s L q.2.1 h) (uM u) (lotW (nxS q.1) % cnt (dstW u s L q.2.1 h) (uM u)))), q.2.2.2 + 1)
def slK (u : MU) (s : SU) (L : List Int32) (x : Int32) (a : Nat) : Nat → SWQ
  | 0 => (x, a, bi a, 0)
  | k + 1 => slS u s L (sH s + k) (slK u s L x a k)
theorem kth_in {u : MU} {s : SU} {L : List Int32} {r h : Nat} {x : Nat} (hc : ¬ cnt (dstW u s L r h) (uM u) = 0) : kth (dstW u s L r h) (uM u) (x % cnt (dstW u s L r h) (uM u)) < uM u ∧ dstW u s L r h (kth (dstW u s L r h) (uM u) (x % cnt (dstW u s L r h) (uM u))) = true ∧ cnt (dstW u s L r h) (kth (dstW u s L r h) (uM u) (x % cnt (dstW u s L r h) (uM u))) = x % cnt (dstW u s L r h) (uM u) := by
  obtain ⟨d, h1, h2, h3⟩ := cnt_hit (p := dstW u s L r h) (uM u) (Nat.mod_lt x (Nat.pos_of_ne_zero hc))
  rw [kth_is h1 h2 h3]
  exact ⟨h1, h2, h3⟩
theorem slK_in {u : MU} {s : SU} {L : List Int32} {x : Int32} {a : Nat} (hu : UW u) (ha : a < uN u) : ∀ k, (slK u s L x a k).2.1 < uN u ∧ (∀ i, bt (slK u s L x a k).2.2.1 i = true → i < uN u) ∧ (slK u s L x a k).2.2.2 ≤ k := by
  have hn := hu.1
  intro k
  induction k with
  | zero =>
    refine ⟨ha, fun i hi => ?_, Nat.le_refl _⟩
    have hi : bt (bi a) i = true := hi
    rw [b_bi (by omega), decide_eq_true_eq] at hi
    omega
  | succ k ih =>
    obtain ⟨h1, h2, h3⟩ := ih
    rw [slK, slS]
    split
    · exact ⟨h1, h2, by omega⟩
    · rename_i c
      have hd := (kth_in (x := lotW (nxS (slK u s L x a k).1)) c).1
      have w := hu.2.2.2.2.1 _ hd
      refine ⟨w.2.1, fun i hi => ?_, by show _ + 1 ≤ _; omega⟩
      have hi : bt (_ ||| _) i = true := hi
      rw [b_or, b_bi (by omega), Bool.or_eq_true, decide_eq_true_eq] at hi
      rcases hi with hi | hi
      · exact h2 i hi
      · omega
/-! the reference -/
def rB (c j : Nat) : Prop := c = 15 ∨ c = 16 ∨ (c = 0 ∧ (j = 49 ∨ j = 50))
theorem RV.b {u : MU} {s : SU} {L : List Int32} {M M' : Mem} (h : RV u s L M) (hk : Kp rB M M') : RV u s L M' := h.k hk (fun c j z => by unfold rB at z; omega)
theorem r_behindDoor {u : MU} {s : SU} {L : List Int32} {M : Mem} (hv : RV u s L M) {r h k : Nat} (hr : r < uN u) (hh : h < 4000) (hk : k < cnt (dstW u s L r h) (uM u)) : P_12_behindDoor_0 (nI r) (nI h) (nI k) M ∧ ∃ M', F_12_behindDoor_0 (nI r) (nI h) (nI k) M = (nI (uG u (kth (dstW u s L r h) (uM u) k)), M') ∧ Kp rO M M' := by
  have hu := hv.1.1
  have hn := hu.1
  have hm := hu.2.1
  have hcl := cnt_le (dstW u s L r h) (uM u)
  rw [P_12_behindDoor_0, F_12_behindDoor_0]
  refine lq (S := Mem) (F := fun n i q => F_12_behindDoor_6 n (nI r) (nI h) (nI (k - cnt (dstW u s L r h) (i.toNatClampNeg))) i q) (P := fun n i q => P_12_behindDoor_6 n (nI r) (nI h) (nI (k - cnt (dstW u s L r h) (i.toNatClampNeg))) i q) (Q := fun z => ∃ M', z = (nI (uG u (kth (dstW u s L r h) (uM u) k)), M') ∧ Kp rO M M') (uM u) (fun d q => cnt (dstW u s L r h) d ≤ k ∧ Kp rO M q) ?_ ?_ FU 0 M ⟨Nat.zero_le _, Kp.rf⟩ (Nat.zero_le _) (FU_ge (by omega))
  · rintro n d M1 hd ⟨hc, hK⟩ ih
    try dsimp only at ih ⊢
    rw [nI_1, nI_clamp (n := d + 1) (by omega)] at ih
    rw [nI_clamp (n := d) (by omega)]
    have hv1 := hv.o hK
    have w := hu.2.2.2.2.1 d hd
    obtain ⟨f1, f2, _, _⟩ := hv1.1.2.2.2.2.2.1 d hd
    have v1 : vp_in (nI d) 24 := (vp_iff (by omega)).mpr (by omega)
    have e1 : (nI (uF u d) = nI r) ↔ uF u d = r := nI_eq (by omega) (by omega)
    obtain ⟨o1, M2, o2, o3⟩ := r_open (h := h) hv1 hd hh
    have hv2 := hv1.o o3
    obtain ⟨g1, g2, _, _⟩ := hv2.1.2.2.2.2.2.1 d hd
    obtain ⟨p1, M3, p2, p3⟩ := r_open (h := h) hv2 hd hh
    have z1 : (nI (k - cnt (dstW u s L r h) d) ≤ 0) ↔ k - cnt (dstW u s L r h) d = 0 := z_le (by omega)
    have cs : cnt (dstW u s L r h) (d + 1) = cnt (dstW u s L r h) d + if dstW u s L r h d = true then 1 else 0 := rfl
    rw [P_12_behindDoor_6, F_12_behindDoor_6]
    simp only [v1, f1, f2, g1, g2, e1, o1, o2, p1, p2, cl0, cl1, ib0, z1, nI_clamp (n := d) (by omega), nI_1, if_true, if_false, true_imp_iff, false_imp_iff, not_true_eq_false, not_false_eq_true, true_and, and_true, implies_true, reduceIte, P_12_behindDoor_30, P_12_behindDoor_38, P_12_behindDoor_64, P_12_behindDoor_71, P_12_behindDoor_72, F_12_behindDoor_30, F_12_behindDoor_38, F_12_behindDoor_64, F_12_behindDoor_71, F_12_behindDoor_72]
    have sub0 : nI (k - cnt (dstW u s L r h) d) - 0 = nI (k - cnt (dstW u s L r h) d) := Int32.sub_zero _
    have no : dstW u s L r h d = false → ∀ M', Kp rO M M' → P_12_behindDoor_6 n (nI r) (nI h) (nI (k - cnt (dstW u s L r h) d)) (nI (d + 1)) M' ∧ ∃ M'', F_12_behindDoor_6 n (nI r) (nI h) (nI (k - cnt (dstW u s L r h) d)) (nI (d + 1)) M' = (nI (uG u (kth (dstW u s L r h) (uM u) k)), M'') ∧ Kp rO M M'' := by
      intro hp' M' hK'
      have ecnt : cnt (dstW u s L r h) (d + 1) = cnt (dstW u s L r h) d := by rw [cs, hp']; rfl
      have := ih M' ⟨by rw [ecnt]; exact hc, hK'⟩
      rw [ecnt] at this
      exact this
    by_cases cF : uF u d = r
    · cases cO : opn u s L d h
      · have := no (by unfold dstW; rw [cO]; simp) M3 ((hK.tr o3).tr p3)
        simpa [cF, sub0] using this
      · have hp' : dstW u s L r h d = true := by unfold dstW; rw [cO]; simp [cF]
        by_cases ck : k - cnt (dstW u s L r h) d = 0
        · simp only [cF, ck, Bool.true_eq_false, if_true, if_false, true_imp_iff, false_imp_iff, not_true_eq_false, not_false_eq_true, true_and, and_true, implies_true, reduceIte]
          exact ⟨M2, by rw [kth_is hd hp' (by omega)], hK.tr o3⟩
        · have hg := ih M3 ⟨by rw [cs, hp']; simp; omega, (hK.tr o3).tr p3⟩
          rw [cs, hp'] at hg
          have es : nI (k - cnt (dstW u s L r h) d) - 1 = nI (k - (cnt (dstW u s L r h) d + 1)) := by
            rw [show nI (k - cnt (dstW u s L r h) d) - 1 = nI (k - cnt (dstW u s L r h) d - 1) from pk_sub (b := 1) (by omega)]
            congr 1
          simpa [cF, ck, es] using hg
    · have := no (by unfold dstW; simp [cF]) M1 hK
      simpa [cF, sub0] using this
  · rintro n M1 ⟨hc, hK⟩
    omega
theorem r_walksBy {u : MU} {s : SU} {L : List Int32} {M : Mem} (hv : RV u s L M) (x : Int32) {a m : Nat} (ha : a < uN u) (hm96 : m ≤ 96) : P_12_walksBy_0 x (nI a) (nI m) M ∧ ∃ M', F_12_walksBy_0 x (nI a) (nI m) M = (nI (slK u s L x a m).2.1, M') ∧ rd M' 0 49 = (slK u s L x a m).2.2.1 ∧ rd M' 0 50 = nI (slK u s L x a m).2.2.2 ∧ Kp rB M M' := by
  have hu := hv.1.1
  have hn := hu.1
  have hH := hv.2.1.1.1
  rw [P_12_walksBy_0, F_12_walksBy_0, bi_of]
  have k0 : Kp rB M (wr (wr M 0 49 (bi a)) 0 50 0) := (Kp.rf.w (Or.inr (Or.inr ⟨rfl, Or.inl rfl⟩))).w (Or.inr (Or.inr ⟨rfl, Or.inr rfl⟩))
  refine lq (S := Int32 × Nat × Mem) (F := fun n i q => F_12_walksBy_21 n (nI m) q.1 (nI q.2.1) i q.2.2) (P := fun n i q => P_12_walksBy_21 n (nI m) q.1 (nI q.2.1) i q.2.2) (Q := fun z => ∃ M', z = (nI (slK u s L x a m).2.1, M') ∧ rd M' 0 49 = (slK u s L x a m).2.2.1 ∧ rd M' 0 50 = nI (slK u s L x a m).2.2.2 ∧ Kp rB M M') (m) (fun k q => q.1 = (slK u s L x a k).1 ∧ q.2.1 = (slK u s L x a k).2.1 ∧ rd q.2.2 0 49 = (slK u s L x a k).2.2.1 ∧ rd q.2.2 0 50 = nI (slK u s L x a k).2.2.2 ∧ Kp rB M q.2.2) ?_ ?_ FU 0 (x, a, wr (wr M 0 49 (bi a)) 0 50 0) ⟨rfl, rfl, by rw [rd_i (by decide), rd_s]; rfl, by rw [rd_s]; rfl, k0⟩ (Nat.zero_le _) (FU_ge (by omega))
  · rintro n k ⟨y, r, M1⟩ hk ⟨h1, h2, h3, h4, hK⟩ ih
    try dsimp only at h1 h2 h3 h4 hK ih ⊢
    have q1 : ¬ nI m ≤ nI k := nI_ge hk (by omega)
    have hv1 := hv.b hK
    have hin := slK_in (s := s) (L := L) (x := x) hu ha k
    have hrN : r < uN u := by rw [h2]; exact hin.1
    obtain ⟨d1, M2, d2, d3⟩ := r_doorsOf hv1 (r := r) (e := 0) (h := sH s + k) hrN (by omega) (by omega)
    have ed : dOf u s L 0 r (sH s + k) = cnt (dstW u s L r (sH s + k)) (uM u) := by
      unfold dOf
      exact cnt_cg (fun d _ => rfl)
    rw [ed] at d2
    have hcl := cnt_le (dstW u s L r (sH s + k)) (uM u)
    have hm24 := hu.2.1
    have hK2 : Kp rB M M2 := hK.tr (d3.mono (fun c j z => by unfold rO at z; unfold rB; omega))
    have hs : slK u s L x a (k + 1) = slS u s L (sH s + k) (slK u s L x a k) := rfl
    rw [slS, ← h1, ← h2, ← h3] at hs
    have e0 : (nI (cnt (dstW u s L r (sH s + k)) (uM u)) = 0) ↔ cnt (dstW u s L r (sH s + k)) (uM u) = 0 := nI_eq (b := 0) (by omega) (by omega)
    rw [P_12_walksBy_21, F_12_walksBy_21, cl55, hv1.2.1.2.2.2.2.2, nI_add, show (0 : Int32) = nI 0 from rfl]
    simp only [q1, d1, d2, if_true, if_false, true_imp_iff, false_imp_iff, not_true_eq_false, not_false_eq_true, true_and, and_true, implies_true, reduceIte, P_12_walksBy_48, F_12_walksBy_48, P_12_walksBy_115, F_12_walksBy_115]
    by_cases c : cnt (dstW u s L r (sH s + k)) (uM u) = 0
    · rw [if_pos c] at hs
      have := ih (y, r, M2) ⟨by rw [hs]; exact h1, by rw [hs]; exact h2, by rw [hs, d3.g (by unfold rO; omega)]; exact h3, by rw [hs, d3.g (by unfold rO; omega)]; exact h4, hK2⟩
      simp only [e0.mpr c, if_true, if_false, true_imp_iff, false_imp_iff, not_true_eq_false, not_false_eq_true, true_and, and_true, implies_true, reduceIte]
      exact this
    · rw [if_neg c] at hs
      have hnx : y * 1103515245 + 12345 = nxS y := rfl
      have hlt := Nat.mod_lt (lotW (nxS y)) (Nat.pos_of_ne_zero c)
      have erem : nI (lotW (nxS y)) - nI (lotW (nxS y)) / nI (cnt (dstW u s L r (sH s + k)) (uM u)) * nI (cnt (dstW u s L r (sH s + k)) (uM u)) = nI (lotW (nxS y) % cnt (dstW u s L r (sH s + k)) (uM u)) := pk_rem (by unfold lotW; omega) (by omega) (by omega)
      obtain ⟨b1, M3, b2, b3⟩ := r_behindDoor (hv1.o d3) (r := r) (h := sH s + k) hrN (by omega) hlt
      have kin := (kth_in (u := u) (s := s) (L := L) (r := r) (h := sH s + k) (x := lotW (nxS y)) c).1
      have w := hu.2.2.2.2.1 _ kin
      simp only [mt e0.mp c, hnx, lot_r, erem, b1, b2, if_true, if_false, true_imp_iff, false_imp_iff, not_true_eq_false, not_false_eq_true, true_and, and_true, implies_true, reduceIte, P_12_walksBy_90, F_12_walksBy_90, P_12_walksBy_115, F_12_walksBy_115, bi_of]
      generalize hd : kth (dstW u s L r (sH s + k)) (uM u) (lotW (nxS y) % cnt (dstW u s L r (sH s + k)) (uM u)) = d at *
      have e49 : rd M3 0 49 = (slK u s L x a k).2.2.1 := by rw [b3.g (by unfold rO; omega), d3.g (by unfold rO; omega)]; exact h3
      have e50 : rd M3 0 50 = nI (slK u s L x a k).2.2.2 := by rw [b3.g (by unfold rO; omega), d3.g (by unfold rO; omega)]; exact h4
      refine ih (nxS y, uG u d, _) ⟨by rw [hs], by rw [hs], ?_, ?_, ((hK2.tr (b3.mono (fun c j z => by unfold rO at z; unfold rB; omega))).w (Or.inr (Or.inr ⟨rfl, Or.inl rfl⟩))).w (Or.inr (Or.inr ⟨rfl, Or.inr rfl⟩))⟩
      · rw [hs]
        show rd (wr (wr M3 0 49 _) 0 50 _) 0 49 = _
        rw [rd_i (by decide), rd_s, e49, h3]
      · rw [hs]
        show rd (wr (wr M3 0 49 _) 0 50 _) 0 50 = _
        rw [rd_s, rd_i (by decide), e50, nI_1]
  · rintro n ⟨y, r, M1⟩ ⟨h1, h2, h3, h4, hK⟩
    try dsimp only at h1 h2 h3 h4 hK ⊢
    have q1 : nI m ≤ nI m := nI_le (Nat.le_refl _) (by omega)
    rw [P_12_walksBy_21, F_12_walksBy_21]
    simp only [q1, if_true, if_false, true_imp_iff, false_imp_iff, not_true_eq_false, not_false_eq_true, true_and, and_true, implies_true, reduceIte]
    exact ⟨M1, by rw [h2], h3, h4, hK⟩
