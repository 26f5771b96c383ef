/-! TEXTS: the JDK's own methods on the class's constants -/
def sLen (q : Nat) : Int32 := Int32.ofNat (lenT.getD q 0) >>> ((0 : Int32) &&& 31)
def sCh (q : Nat) (i : Int32) : Int32 := (((bytT.getD q []).getD i.toNatClampNeg 0 &&& 255).toUInt32 % 65536).toInt32
theorem T14_335 : okT 14 335 0 mJ0_coder_7d493 := ⟨Nat.le_of_ble_eq_true rfl, okM_mJ0_coder_7d493.2.2.2, ⟨by decide +kernel, by decide +kernel, by decide +kernel⟩, inT4 (i := 32) rfl rfl, inT1 (i := 19) rfl rfl⟩
theorem T14_492 : okT 14 492 0 mJ0_isLatin1_aae02 := ⟨Nat.le_of_ble_eq_true rfl, okM_mJ0_isLatin1_aae02.2.2.2, ⟨by decide +kernel, by decide +kernel, by decide +kernel⟩, inT4 (i := 42) rfl rfl, inT1 (i := 19) rfl rfl⟩
theorem T14_495 : okT 14 495 2 mJ1_charAt_3b067 := ⟨Nat.le_of_ble_eq_true rfl, okM_mJ1_charAt_3b067.2.2.2, ⟨by decide +kernel, by decide +kernel, by decide +kernel⟩, inT4 (i := 46) rfl rfl, inT1 (i := 20) rfl rfl⟩
def mJ0_checkIndex : MD := (14, ⟨"java/lang/String", "checkIndex", "(II)V"⟩, prog_23_method_155_code, 2, none)
theorem okM_checkIndex : okM mJ0_checkIndex := ⟨by decide +kernel, rfl, Nat.le_of_ble_eq_true rfl, inT4 (i := 51) rfl rfl⟩
theorem T15_9 : okT 15 9 2 mJ0_checkIndex := ⟨Nat.le_of_ble_eq_true rfl, okM_checkIndex.2.2.2, ⟨by decide +kernel, by decide +kernel, by decide +kernel⟩, inT4 (i := 49) rfl rfl, inT1 (i := 19) rfl rfl⟩
def mJ3_checkIndex : MD := (16, ⟨"jdk/internal/util/Preconditions", "checkIndex", "(IILjava/util/function/BiFunction;)I"⟩, prog_31_method_11_code, 3, some .int)
theorem T14_1059 : okT 14 1059 3 mJ3_checkIndex := ⟨Nat.le_of_ble_eq_true rfl, inT4 (i := 56) rfl rfl, ⟨by decide +kernel, by decide +kernel, by decide +kernel⟩, inT4 (i := 54) rfl rfl, inT1 (i := 21) rfl rfl⟩
theorem C_pre {g : Gl} {a b : Int32} {w : Value} {M : Mem} (hw : w.category = 1) (h0 : ¬ a < 0) (h1 : a < b) : Ms g 0 mJ3_checkIndex [.int a, .int b, w] M (some (.int a)) M := by
  intro sz
  refine Met.ofW (cc := prog_31_method_11_code) (maxL := 3) (ret := some .int) (by decide +kernel) rfl ?_
  intro p e s m sa below meth c s₁ B hml hv
  obtain ⟨rfl, hsz, hP, hK, hD0, hX⟩ := hv
  subst hsz
  have hlen : (lg_sl ([.int a, .int b, w].map (cv g.2.2.2))).length ≤ 3 := by
    rw [lg_wid]
    show (if (1 : Nat) = 2 then 2 else 1) + ((if (1 : Nat) = 2 then 2 else 1) + ((if w.category = 2 then 2 else 1) + 0)) ≤ 3
    rw [hw]
    decide
  have hl := lv_entry ([.int a, .int b, w].map (cv g.2.2.2)) (n := 3) hlen
  rw [lg_entry_eq]
  generalize (lg_sl ([.int a, .int b, w].map (cv g.2.2.2)) ++ List.replicate (3 - (lg_sl ([.int a, .int b, w].map (cv g.2.2.2))).length) Slot.unset).toArray = ls at hl ⊢
  have e0 : ls[0]? = some (.val (.int a)) := hl.2.2 (0, .int a) List.mem_cons_self
  have e1 : ls[1]? = some (.val (.int b)) := hl.2.2 (1, .int b) (List.mem_cons_of_mem _ List.mem_cons_self)
  refine lv_iload_n (k := 0) (i := 0) B.exec B.bytes (by decide +kernel) rfl e0 ?_
  refine lv_if_lt (off := 8) (tgt := 9) B.exec B.bytes (by decide +kernel) (by decide) (fun h => absurd h h0) (fun _ => ?_)
  refine lv_iload_n (k := 0) (i := 0) B.exec B.bytes (by decide +kernel) rfl e0 ?_
  refine lv_iload_n (k := 1) (i := 1) B.exec B.bytes (by decide +kernel) rfl e1 ?_
  refine lv_icmp_lt (off := 10) (tgt := 16) B.exec B.bytes (by decide +kernel) (by decide) (fun _ => ?_) (fun h => absurd h1 h)
  refine lv_iload_n (k := 0) (i := 0) B.exec B.bytes (by decide +kernel) rfl e0 ?_
  exact W.iret (v := a) B.exec B.bytes B.returns (fun t ht hW => ⟨⟨rfl, by rw [ht]; exact hP, va_K.moved hW.alike hK⟩, va_S.rf.F ht⟩) (fun q h => by cases h) (by decide +kernel) B.notSynchronized
theorem C_checkIndex {g : Gl} {a b : Int32} {M : Mem} (h0 : ¬ a < 0) (h1 : a < b) : Ms g 1 mJ0_checkIndex [.int a, .int b] M none M := by
  refine Ms.of okM_checkIndex (Nat.le_of_ble_eq_true rfl) ?_
  refine R_iload_n (n := 0) (x := a) (by decide +kernel) rfl ?_
  refine R_iload_n (n := 1) (x := b) (by decide +kernel) rfl ?_
  refine R_form rfl (by decide +kernel) ?_ ?_
  · refine R_callT (As := [.int a, .int b, .null]) (rest := []) (by decide +kernel) T14_1059 (inT4 (i := 55) rfl rfl) (C_pre rfl h0 h1) (Nat.le_refl _) rfl rfl (Nat.zero_le _) ?_
    exact R_pop (by decide +kernel) rfl (R_vret (by decide +kernel) rfl)
  · refine R_callT (As := [.int a, .int b, .ref 3000000]) (rest := []) (by decide +kernel) T14_1059 (inT4 (i := 55) rfl rfl) (C_pre rfl h0 h1) (Nat.le_refl _) rfl rfl (Nat.zero_le _) ?_
    exact R_pop (by decide +kernel) rfl (R_vret (by decide +kernel) rfl)
theorem C_coder {g : Gl} {q : Nat} {M : Mem} (hq : q < nTX) : Ms g 0 mJ0_coder_7d493 [.ref (1000000 + q)] M (some (.int 0)) M := by
  refine Ms.of okM_mJ0_coder_7d493 (Nat.le_of_ble_eq_true rfl) ?_
  refine R_comp rfl (by decide +kernel) ?_
  refine R_if_eq (off := 10) (tgt := 13) (by decide +kernel) (by decide) (fun h => absurd h (by decide)) (fun _ => ?_)
  refine R_aload_n (n := 0) (x := 1000000 + q) (by decide +kernel) rfl ?_
  refine R_strc rfl (by decide +kernel) hq ?_
  refine R_goto (off := 4) (tgt := 14) (by decide +kernel) (by decide) ?_
  exact R_nret (ty := .byte) (by decide +kernel) rfl rfl
theorem C_isLatin1 {g : Gl} {q : Nat} {M : Mem} (hq : q < nTX) : Ms g 0 mJ0_isLatin1_aae02 [.ref (1000000 + q)] M (some (.int 1)) M := by
  refine Ms.of okM_mJ0_isLatin1_aae02 (Nat.le_of_ble_eq_true rfl) ?_
  refine R_comp rfl (by decide +kernel) ?_
  refine R_if_eq (off := 14) (tgt := 17) (by decide +kernel) (by decide) (fun h => absurd h (by decide)) (fun _ => ?_)
  refine R_aload_n (n := 0) (x := 1000000 + q) (by decide +kernel) rfl ?_
  refine R_strc rfl (by decide +kernel) hq ?_
  refine R_if_ne (off := 7) (tgt := 17) (by decide +kernel) (by decide) (fun h => absurd rfl h) (fun _ => ?_)
  refine R_iconst (n := 1) (by decide +kernel) ?_
  refine R_goto (off := 4) (tgt := 18) (by decide +kernel) (by decide) ?_
  exact R_nret (ty := .boolean) (by decide +kernel) rfl rfl
theorem C_length {g : Gl} (q : Nat) (M : Mem) (hq : q < nTX) : Ms g 1 mJ0_length_8abf5 [.ref (1000000 + q)] M (some (.int (sLen q))) M := by
  refine Ms.of okM_mJ0_length_8abf5 (Nat.le_of_ble_eq_true rfl) ?_
  refine R_aload_n (n := 0) (x := 1000000 + q) (by decide +kernel) rfl ?_
  refine R_strv rfl (by decide +kernel) hq ?_
  refine R_tlen (by decide +kernel) hq ?_
  refine R_aload_n (n := 0) (x := 1000000 + q) (by decide +kernel) rfl ?_
  refine R_callVT (q := q) (As := []) (rest := [.int (Int32.ofNat (lenT.getD q 0))]) (by decide +kernel) T14_335 rfl (inT4 (i := 33) rfl rfl) (inT4 (i := 34) rfl rfl) hq (C_coder hq) (Nat.le_refl _) rfl rfl (Nat.le_of_ble_eq_true rfl) ?_
  refine R_ishr (x := Int32.ofNat (lenT.getD q 0)) (y := 0) (by decide +kernel) ?_
  exact R_iret (by decide +kernel) rfl
theorem sCh_char : ∀ q, q < nTX → ∀ j, j < lenT.getD q 0 → narrow .char (.int ((((bytT.getD q []).getD j 0 &&& 255).toUInt32 % 65536).toInt32)) = .int ((((bytT.getD q []).getD j 0 &&& 255).toUInt32 % 65536).toInt32) := by decide +kernel
theorem C_charAt1 {g : Gl} {q : Nat} {i : Int32} {M : Mem} (hq : q < nTX) (hi : vp_in i (lenT.getD q 0)) (hlt : i < Int32.ofNat (lenT.getD q 0)) : Ms g 2 mJ1_charAt_3b067 [.ref (2000000 + q), .int i] M (some (.int (sCh q i))) M := by
  refine Ms.of okM_mJ1_charAt_3b067 (Nat.le_of_ble_eq_true rfl) ?_
  refine R_iload_n (n := 1) (x := i) (by decide +kernel) rfl ?_
  refine R_aload_n (n := 0) (x := 2000000 + q) (by decide +kernel) rfl ?_
  refine R_tlen (by decide +kernel) hq ?_
  refine R_callT (As := [.int i, .int (Int32.ofNat (lenT.getD q 0))]) (rest := []) (by decide +kernel) T15_9 (inT4 (i := 50) rfl rfl) (C_checkIndex (fun h => hi (Or.inl h)) hlt) (Nat.le_refl _) rfl rfl (Nat.zero_le _) ?_
  refine R_aload_n (n := 0) (x := 2000000 + q) (by decide +kernel) rfl ?_
  refine R_iload_n (n := 1) (x := i) (by decide +kernel) rfl ?_
  refine R_tb (by decide +kernel) hq hi ?_
  refine R_sipush (n := 255) (by decide +kernel) ?_
  refine R_iand (by decide +kernel) ?_
  refine R_i2c (by decide +kernel) ?_
  exact R_nret (ty := .char) (by decide +kernel) rfl (sCh_char q hq i.toNatClampNeg (vp_lt hi))
theorem C_charAt {g : Gl} (q : Nat) (i : Int32) (M : Mem) (h : q < nTX ∧ vp_in i (lenT.getD q 0) ∧ i < Int32.ofNat (lenT.getD q 0)) : Ms g 3 mJ0_charAt_5068e [.ref (1000000 + q), .int i] M (some (.int (sCh q i))) M := by
  obtain ⟨hq, hi, hlt⟩ := h
  refine Ms.of okM_mJ0_charAt_5068e (Nat.le_of_ble_eq_true rfl) ?_
  refine R_aload_n (n := 0) (x := 1000000 + q) (by decide +kernel) rfl ?_
  refine R_callVT (q := q) (As := []) (rest := []) (by decide +kernel) T14_492 rfl (inT4 (i := 43) rfl rfl) (inT4 (i := 44) rfl rfl) hq (C_isLatin1 hq) (Nat.le_of_ble_eq_true rfl) rfl rfl (Nat.zero_le _) ?_
  refine R_if_eq (off := 12) (tgt := 16) (by decide +kernel) (by decide) (fun h => absurd h (by decide)) (fun _ => ?_)
  refine R_aload_n (n := 0) (x := 1000000 + q) (by decide +kernel) rfl ?_
  refine R_strv rfl (by decide +kernel) hq ?_
  refine R_iload_n (n := 1) (x := i) (by decide +kernel) rfl ?_
  refine R_callT (As := [.ref (2000000 + q), .int i]) (rest := []) (by decide +kernel) T14_495 (inT4 (i := 47) rfl rfl) (C_charAt1 hq hi hlt) (Nat.le_refl _) rfl rfl (Nat.zero_le _) ?_
  exact R_nret (ty := .char) (by decide +kernel) rfl (sCh_char q hq i.toNatClampNeg (vp_lt hi))
