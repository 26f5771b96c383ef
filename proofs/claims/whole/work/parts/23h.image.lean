/-! image, restore: the row of Timelines -/
theorem V11_362 : okV 11 362 1 m8_copyFrom := ⟨Nat.le_of_ble_eq_true rfl, okM_m8_copyFrom, ⟨by decide +kernel, by decide +kernel, by decide +kernel⟩, inT3 (i := 118) rfl rfl, inT1 (i := 6) rfl rfl, inT3 (i := 119) rfl rfl, inT3 (i := 120) rfl rfl⟩
def tcA (q : Nat) (M : Mem) : Mem := match q with
  | 0 => F_8_copyFroma_0 M
  | 1 => F_8_copyFromb_0 M
  | _ => F_8_copyFromc_0 M
def tcAP (q : Nat) (M : Mem) : Prop := match q with
  | 0 => P_8_copyFroma_0 M
  | 1 => P_8_copyFromb_0 M
  | _ => P_8_copyFromc_0 M
def tcB (q : Nat) (M : Mem) : Mem := match q with
  | 0 => F_8_copyFromd_0 M
  | 1 => F_8_copyFrome_0 M
  | _ => F_8_copyFromf_0 M
def tcBP (q : Nat) (M : Mem) : Prop := match q with
  | 0 => P_8_copyFromd_0 M
  | 1 => P_8_copyFrome_0 M
  | _ => P_8_copyFromf_0 M
theorem C_tcA {g : Gl} : ∀ {q : Nat} (_ : q < 3) (M : Mem) (_ : tcAP q M), Ms g 2 m8_copyFrom [.ref (1615 + q), .ref 1614] M none (tcA q M)
  | 0, _, M, hp => C_8_copyFroma M hp
  | 1, _, M, hp => C_8_copyFromb M hp
  | 2, _, M, hp => C_8_copyFromc M hp
  | q + 3, h, _, _ => absurd h (by omega)
theorem C_tcB {g : Gl} : ∀ {q : Nat} (_ : q < 3) (M : Mem) (_ : tcBP q M), Ms g 2 m8_copyFrom [.ref 1614, .ref (1615 + q)] M none (tcB q M)
  | 0, _, M, hp => C_8_copyFromd M hp
  | 1, _, M, hp => C_8_copyFrome M hp
  | 2, _, M, hp => C_8_copyFromf M hp
  | q + 3, h, _, _ => absurd h (by omega)
theorem oF_T {q : Nat} (h : q < 3) : oF (1615 + q) 8 := (show ∀ q, q < 3 → (1615 + q < NC ∧ kd (1615 + q) = (0, 8)) by decide +kernel) q h
def F_11_image_0 (M : Mem) : Int32 × Mem := if rd M 1558 14 < 0 then (-1, M) else if rd M 1558 14 < 3 then (rd (tcA (rd M 1558 14).toNatClampNeg M) 1558 14 + 1, wr (tcA (rd M 1558 14).toNatClampNeg M) 1558 14 (rd (tcA (rd M 1558 14).toNatClampNeg M) 1558 14 + 1)) else (-1, M)
def P_11_image_0 (M : Mem) : Prop := ¬ rd M 1558 14 < 0 → rd M 1558 14 < 3 → vp_in (rd M 1558 14) 3 ∧ tcAP (rd M 1558 14).toNatClampNeg M
def F_11_restore_0 (M : Mem) : Int32 × Mem := if rd M 1558 14 ≤ 0 then (-1, M) else if rd M 1558 14 ≤ 3 then (rd (wr (tcB (rd M 1558 14 - 1).toNatClampNeg (wr M 1558 14 (rd M 1558 14 - 1))) 1558 5 0) 1558 14, wr (tcB (rd M 1558 14 - 1).toNatClampNeg (wr M 1558 14 (rd M 1558 14 - 1))) 1558 5 0) else (-1, M)
def P_11_restore_0 (M : Mem) : Prop := ¬ rd M 1558 14 ≤ 0 → rd M 1558 14 ≤ 3 → vp_in (rd M 1558 14 - 1) 3 ∧ tcBP (rd M 1558 14 - 1).toNatClampNeg (wr M 1558 14 (rd M 1558 14 - 1))
theorem T_11_image_m {g : Gl} {k cx : Nat} {M : Mem} : Rc g k cx m11_image 15 [some (.ref 1558)] [] M (.inl (some (.int (-1)), M)) :=
  R_blk (lv1 := [some (.ref 1558)]) (st1 := [.int (-1)]) (M1 := M) (P := True) (pc1 := 16) [.iconst (-1)] (Nat.le_of_ble_eq_true rfl) (by decide +kernel) rfl trivial rfl (R_iret (by decide +kernel) rfl)
theorem C_11_image {g : Gl} (M : Mem) (hp : P_11_image_0 M) : Ms g 3 m11_image [.ref 1558] M (some (.int (F_11_image_0 M).1)) ((F_11_image_0 M).2) := by
  refine Ms.of okM_m11_image (Nat.le_of_ble_eq_true rfl) ?_
  show Rc g 3 0 m11_image 0 [some (.ref 1558)] [] M _
  refine R_blk (lv1 := [some (.ref 1558)]) (st1 := [.int (rd M 1558 14)]) (M1 := M) (P := oF 1558 11 ∧ True) (pc1 := 4) [.aload_n 0, .getfield 29] (Nat.le_of_ble_eq_true rfl) (by decide +kernel) rfl ⟨⟨Nat.le_of_ble_eq_true rfl, rfl⟩, trivial⟩ rfl (R_if_lt (off := 11) (tgt := 15) (by decide +kernel) (by decide) (fun h => ?_) (fun h => ?_))
  · rw [F_11_image_0, if_pos h]
    exact T_11_image_m
  · refine R_blk (lv1 := [some (.ref 1558)]) (st1 := [.int 3, .int (rd M 1558 14)]) (M1 := M) (P := oF 1558 11 ∧ True) (pc1 := 12) [.aload_n 0, .getfield 29, .iconst 3] (Nat.le_of_ble_eq_true rfl) (by decide +kernel) rfl ⟨⟨Nat.le_of_ble_eq_true rfl, rfl⟩, trivial⟩ rfl (R_icmp_lt (off := 5) (tgt := 17) (by decide +kernel) (by decide) (fun h2 => ?_) (fun h2 => ?_))
    · obtain ⟨o0, hq⟩ := hp h h2
      rw [F_11_image_0, if_neg h, if_pos h2]
      refine R_blk (lv1 := [some (.ref 1558)]) (st1 := [.ref 1614, .ref (1615 + (rd M 1558 14).toNatClampNeg)]) (M1 := M) (P := oF 1558 11 ∧ oF 1558 11 ∧ (oA 5 1613 (rd M 1558 14) ∨ oA 6 1613 (rd M 1558 14) ∨ oA 7 1613 (rd M 1558 14)) ∧ oF 1558 11 ∧ True) (pc1 := 30) [.aload_n 0, .getfield 77, .aload_n 0, .getfield 29, .aaload, .aload_n 0, .getfield 68] (Nat.le_of_ble_eq_true rfl) (by decide +kernel) rfl ⟨⟨Nat.le_of_ble_eq_true rfl, rfl⟩, ⟨Nat.le_of_ble_eq_true rfl, rfl⟩, (Or.inr (Or.inr (oA_of (Nat.le_of_ble_eq_true rfl) rfl o0))), ⟨Nat.le_of_ble_eq_true rfl, rfl⟩, trivial⟩ rfl (R_callV (As := [.ref 1614]) (rest := []) (by decide +kernel) V11_362 (C_tcA (vp_lt o0) M hq) (Nat.le_of_ble_eq_true rfl) (oF_T (vp_lt o0)) rfl rfl (Nat.le_of_ble_eq_true rfl) ?_)
      generalize tcA (rd M 1558 14).toNatClampNeg M = M1
      exact R_blk (lv1 := [some (.ref 1558)]) (st1 := [.int (rd (wr M1 1558 14 (rd M1 1558 14 + 1)) 1558 14)]) (M1 := wr M1 1558 14 (rd M1 1558 14 + 1)) (P := oF 1558 11 ∧ oF 1558 11 ∧ oF 1558 11 ∧ True) (pc1 := 47) [.aload_n 0, .dup, .getfield 29, .iconst 1, .iadd, .putfield 29, .aload_n 0, .getfield 29] (Nat.le_of_ble_eq_true rfl) (by decide +kernel) rfl ⟨⟨Nat.le_of_ble_eq_true rfl, rfl⟩, ⟨Nat.le_of_ble_eq_true rfl, rfl⟩, ⟨Nat.le_of_ble_eq_true rfl, rfl⟩, trivial⟩ rfl (R_iret (by decide +kernel) rfl)
    · rw [F_11_image_0, if_neg h, if_neg h2]
      exact T_11_image_m
theorem T_11_restore_m {g : Gl} {k cx : Nat} {M : Mem} : Rc g k cx m11_restore 15 [some (.ref 1558)] [] M (.inl (some (.int (-1)), M)) :=
  R_blk (lv1 := [some (.ref 1558)]) (st1 := [.int (-1)]) (M1 := M) (P := True) (pc1 := 16) [.iconst (-1)] (Nat.le_of_ble_eq_true rfl) (by decide +kernel) rfl trivial rfl (R_iret (by decide +kernel) rfl)
theorem C_11_restore {g : Gl} (M : Mem) (hp : P_11_restore_0 M) : Ms g 3 m11_restore [.ref 1558] M (some (.int (F_11_restore_0 M).1)) ((F_11_restore_0 M).2) := by
  refine Ms.of okM_m11_restore (Nat.le_of_ble_eq_true rfl) ?_
  show Rc g 3 0 m11_restore 0 [some (.ref 1558)] [] M _
  refine R_blk (lv1 := [some (.ref 1558)]) (st1 := [.int (rd M 1558 14)]) (M1 := M) (P := oF 1558 11 ∧ True) (pc1 := 4) [.aload_n 0, .getfield 29] (Nat.le_of_ble_eq_true rfl) (by decide +kernel) rfl ⟨⟨Nat.le_of_ble_eq_true rfl, rfl⟩, trivial⟩ rfl (R_if_le (off := 11) (tgt := 15) (by decide +kernel) (by decide) (fun h => ?_) (fun h => ?_))
  · rw [F_11_restore_0, if_pos h]
    exact T_11_restore_m
  · refine R_blk (lv1 := [some (.ref 1558)]) (st1 := [.int 3, .int (rd M 1558 14)]) (M1 := M) (P := oF 1558 11 ∧ True) (pc1 := 12) [.aload_n 0, .getfield 29, .iconst 3] (Nat.le_of_ble_eq_true rfl) (by decide +kernel) rfl ⟨⟨Nat.le_of_ble_eq_true rfl, rfl⟩, trivial⟩ rfl (R_icmp_le (off := 5) (tgt := 17) (by decide +kernel) (by decide) (fun h2 => ?_) (fun h2 => ?_))
    · obtain ⟨o0, hq⟩ := hp h h2
      rw [F_11_restore_0, if_neg h, if_pos h2]
      refine R_blk (lv1 := [some (.ref 1558)]) (st1 := [.ref (1615 + (rd M 1558 14 - 1).toNatClampNeg), .ref 1614]) (M1 := wr M 1558 14 (rd M 1558 14 - 1)) (P := oF 1558 11 ∧ oF 1558 11 ∧ oF 1558 11 ∧ oF 1558 11 ∧ oF 1558 11 ∧ (oA 5 1613 (rd M 1558 14 - 1) ∨ oA 6 1613 (rd M 1558 14 - 1) ∨ oA 7 1613 (rd M 1558 14 - 1)) ∧ True) (pc1 := 40) [.aload_n 0, .dup, .getfield 29, .iconst 1, .isub, .putfield 29, .aload_n 0, .getfield 68, .aload_n 0, .getfield 77, .aload_n 0, .getfield 29, .aaload] (Nat.le_of_ble_eq_true rfl) (by decide +kernel) rfl ⟨⟨Nat.le_of_ble_eq_true rfl, rfl⟩, ⟨Nat.le_of_ble_eq_true rfl, rfl⟩, ⟨Nat.le_of_ble_eq_true rfl, rfl⟩, ⟨Nat.le_of_ble_eq_true rfl, rfl⟩, ⟨Nat.le_of_ble_eq_true rfl, rfl⟩, (Or.inr (Or.inr (oA_of (Nat.le_of_ble_eq_true rfl) rfl o0))), trivial⟩ rfl (R_callV (As := [.ref (1615 + (rd M 1558 14 - 1).toNatClampNeg)]) (rest := []) (by decide +kernel) V11_362 (C_tcB (vp_lt o0) _ hq) (Nat.le_of_ble_eq_true rfl) ⟨Nat.le_of_ble_eq_true rfl, rfl⟩ rfl rfl (Nat.le_of_ble_eq_true rfl) ?_)
      generalize tcB (rd M 1558 14 - 1).toNatClampNeg (wr M 1558 14 (rd M 1558 14 - 1)) = M1
      exact R_blk (lv1 := [some (.ref 1558)]) (st1 := [.int (rd (wr M1 1558 5 0) 1558 14)]) (M1 := wr M1 1558 5 0) (P := oF 1558 11 ∧ oF 1558 11 ∧ True) (pc1 := 52) [.aload_n 0, .iconst 0, .putfield 26, .aload_n 0, .getfield 29] (Nat.le_of_ble_eq_true rfl) (by decide +kernel) rfl ⟨⟨Nat.le_of_ble_eq_true rfl, rfl⟩, ⟨Nat.le_of_ble_eq_true rfl, rfl⟩, trivial⟩ rfl (R_iret (by decide +kernel) rfl)
    · rw [F_11_restore_0, if_neg h, if_neg h2]
      exact T_11_restore_m
