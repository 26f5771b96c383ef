/-! MATHEMATICS 80: bytes -/
theorem b_toInt8 {x : Int32} {i : Nat} (hi : i < 32) : bt x.toInt8.toInt32 i = bt x (if i < 8 then i else 7) := by
  unfold bt
  rw [Int8.toBitVec_toInt32, Int32.toBitVec_toInt8, BitVec.getLsbD_signExtend]
  by_cases h : i < 8
  · rw [if_pos h]
    simp [h, hi, BitVec.getElem_signExtend]
  · rw [if_neg h]
    simp [h, hi, BitVec.msb_eq_getLsbD_last, BitVec.getElem_signExtend]
theorem b_ushr {x : Int32} {sh : Nat} (hs : sh < 32) {i : Nat} : bt (x.toUInt32 >>> ((nI sh).toUInt32 &&& Int32.toUInt32 31)).toInt32 i = bt x (sh + i) := by
  have e : ((nI sh).toUInt32 &&& Int32.toUInt32 31).toBitVec = BitVec.ofNat 32 sh := (by decide +kernel : ∀ s, s < 32 → ((nI s).toUInt32 &&& Int32.toUInt32 31).toBitVec = BitVec.ofNat 32 s) sh hs
  unfold bt
  show (x.toUInt32 >>> ((nI sh).toUInt32 &&& Int32.toUInt32 31)).toBitVec.getLsbD i = _
  rw [UInt32.toBitVec_shiftRight, e]
  show (x.toBitVec >>> (BitVec.ofNat 32 sh % 32#32).toNat).getLsbD i = _
  rw [show (BitVec.ofNat 32 sh % 32#32).toNat = sh from (by decide +kernel : ∀ s, s < 32 → (BitVec.ofNat 32 s % 32#32).toNat = s) sh hs, BitVec.getLsbD_ushiftRight]
theorem nar_by (z : Int32) : vp_nar .byte z.toInt8.toInt32 = z.toInt8.toInt32 := by
  unfold vp_nar narrow
  simp
def byN (x : Int32) (sh : Nat) : Nat := ((x >>> (nI sh &&& 31)) &&& 255).toNatClampNeg
theorem b_255 : ∀ i, i < 32 → bt 255 i = decide (i < 8) := by decide +kernel
theorem byN_r (x : Int32) {sh : Nat} (hs : sh ≤ 24) : byN x sh < 256 ∧ (x >>> (nI sh &&& 31)) &&& 255 = nI (byN x sh) := by
  obtain ⟨n, h1, h2⟩ := b_num (x := (x >>> (nI sh &&& 31)) &&& 255) (k := 8) (by omega) (fun i h1 h2 => by rw [b_and, b_255 i h2, decide_eq_false (by omega), Bool.and_false])
  have h1' : n < 256 := h1
  have e : byN x sh = n := by unfold byN; rw [h2, nI_clamp (by omega)]
  rw [e]
  exact ⟨h1', h2⟩
def byC (x : Int32) (sh : Nat) : Int32 := vp_nar .byte (((x.toUInt32 >>> ((nI sh).toUInt32 &&& Int32.toUInt32 31)).toInt32).toInt8.toInt32)
theorem b_byC {x : Int32} {sh : Nat} (hs : sh < 32) {i : Nat} (hi : i < 32) : bt (byC x sh) i = bt x (sh + if i < 8 then i else 7) := by
  unfold byC
  rw [nar_by, b_toInt8 hi, b_ushr hs]
theorem byC_r (x : Int32) {sh : Nat} (hs : sh ≤ 24) : byC x sh &&& 255 = nI (byN x sh) ∧ (byC x sh = 32 ↔ byN x sh = 32) := by
  obtain ⟨h1, h2⟩ := byN_r x hs
  have e1 : byC x sh &&& 255 = nI (byN x sh) := by
    rw [← h2]
    apply b_ext
    intro i hi
    rw [b_and, b_and, b_255 i hi]
    by_cases c : i < 8
    · rw [b_byC (by omega) hi, if_pos c, b_sshr sh (by omega) x hi, if_pos (by omega)]
    · rw [decide_eq_false c, Bool.and_false, Bool.and_false]
  refine ⟨e1, fun h => ?_, fun h => ?_⟩
  · rw [h] at e1
    have : (nI 32 : Int32) = nI (byN x sh) := e1
    exact ((nI_eq (by omega) (by omega)).mp this).symm
  · rw [h] at e1
    have e2 : byC x sh &&& 255 = 32 := e1
    apply b_ext
    intro i hi
    by_cases c : i < 8
    · have : bt (byC x sh &&& 255) i = bt 32 i := by rw [e2]
      rw [b_and, b_255 i hi, decide_eq_true c, Bool.and_true] at this
      exact this
    · have h7 : bt (byC x sh &&& 255) 7 = bt 32 7 := by rw [e2]
      rw [b_and, b_255 7 (by omega), decide_eq_true (by omega), Bool.and_true, b_byC (by omega) (by omega), if_pos (by omega)] at h7
      rw [b_byC (by omega) hi, if_neg c, h7]
      exact ((by decide +kernel : ∀ i, i < 32 → ¬ i < 8 → bt 32 i = bt 32 7) i hi c).symm
