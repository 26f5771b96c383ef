/-! METHODS of the reference, as the tables have them -/
def lvLe : List (Option Value) → List (Option Value) → Prop
  | [], _ => True
  | none :: r, [] => lvLe r []
  | none :: r, _ :: s => lvLe r s
  | some _ :: _, [] => False
  | some _ :: _, none :: _ => False
  | some a :: r, some b :: s => a = b ∧ lvLe r s
theorem lvLe_get : ∀ {l1 l2 : List (Option Value)}, lvLe l1 l2 → ∀ (i : Nat) (v : Value), l1[i]? = some (some v) → l2[i]? = some (some v)
  | [], _, _, i, v, h => by simp at h
  | none :: r, [], hl, i, v, h => by
    cases i with
    | zero => simp at h
    | succ i => have := lvLe_get (l1 := r) (l2 := []) hl i v (by simpa using h); simp at this
  | none :: r, x :: s, hl, i, v, h => by
    cases i with
    | zero => simp at h
    | succ i => have := lvLe_get (l1 := r) (l2 := s) hl i v (by simpa using h); simpa using this
  | some a :: r, some b :: s, hl, i, v, h => by
    cases i with
    | zero => have e := hl.1; subst e; simpa using h
    | succ i => have := lvLe_get (l1 := r) (l2 := s) hl.2 i v (by simpa using h); simpa using this
  | some _ :: _, [], hl, _, _, _ => hl.elim
  | some _ :: _, none :: _, hl, _, _, _ => hl.elim
theorem R_wk {g : Gl} {k cx : Nat} {md : MD} {pc : Nat} {lv lv1 : List (Option Value)} {st : List Value} {M : Mem} {o : Oc} (h : lvLe lv1 lv) (hn : Rc g k cx md pc lv1 st M o) : Rc g k cx md pc lv st M o :=
  fun p e s m sa below meth c H locs A ls R n1 n2 b1 b2 Q hC hP hS hl hR hQ => hn p e s m sa below meth c H locs A ls R n1 n2 b1 b2 Q hC hP hS ⟨hl.1, hl.2.1, fun i w hw => hl.2.2 i w (lvLe_get h i w hw)⟩ hR hQ
theorem lc {a b : Value} {r s : List (Option Value)} (h : a = b) (t : lvLe r s) : lvLe (some a :: r) (some b :: s) := ⟨h, t⟩
theorem ln {x : Option Value} {r s : List (Option Value)} (t : lvLe r s) : lvLe (none :: r) (x :: s) := t
theorem l0 : lvLe [] [] := trivial
theorem vp_lt {i : Int32} {n : Nat} (h : vp_in i n) : i.toNatClampNeg < n := Nat.not_le.mp fun q => h (Or.inr q)
theorem inT1 {i : Nat} {w : Cond} (h : tables_1_1[i]? = some w) (g : goodWord w = true) : w ∈ WD := List.mem_filter.mpr ⟨List.mem_append_right _ (List.mem_append_left _ (List.mem_of_getElem? h)), g⟩
theorem inT2 {i : Nat} {w : Cond} (h : tables_1_2[i]? = some w) (g : goodWord w = true) : w ∈ WD := List.mem_filter.mpr ⟨List.mem_append_right _ (List.mem_append_right _ (List.mem_append_left _ (List.mem_of_getElem? h))), g⟩
theorem inT3 {i : Nat} {w : Cond} (h : tables_1_3[i]? = some w) (g : goodWord w = true) : w ∈ WD := List.mem_filter.mpr ⟨List.mem_append_right _ (List.mem_append_right _ (List.mem_append_right _ (List.mem_append_left _ (List.mem_of_getElem? h)))), g⟩
theorem inT4 {i : Nat} {w : Cond} (h : tables_1_4[i]? = some w) (g : goodWord w = true) : w ∈ WD := List.mem_filter.mpr ⟨List.mem_append_right _ (List.mem_append_right _ (List.mem_append_right _ (List.mem_append_right _ (List.mem_append_left _ (List.mem_of_getElem? h))))), g⟩
theorem inT5 {i : Nat} {w : Cond} (h : tables_1_5[i]? = some w) (g : goodWord w = true) : w ∈ WD := List.mem_filter.mpr ⟨List.mem_append_right _ (List.mem_append_right _ (List.mem_append_right _ (List.mem_append_right _ (List.mem_append_right _ (List.mem_append_left _ (List.mem_of_getElem? h)))))), g⟩
theorem inT6 {i : Nat} {w : Cond} (h : tables_1_6[i]? = some w) (g : goodWord w = true) : w ∈ WD := List.mem_filter.mpr ⟨List.mem_append_right _ (List.mem_append_right _ (List.mem_append_right _ (List.mem_append_right _ (List.mem_append_right _ (List.mem_append_right _ (List.mem_append_left _ (List.mem_of_getElem? h))))))), g⟩
theorem inT7 {i : Nat} {w : Cond} (h : tables_1_7[i]? = some w) (g : goodWord w = true) : w ∈ WD := List.mem_filter.mpr ⟨List.mem_append_right _ (List.mem_append_right _ (List.mem_append_right _ (List.mem_append_right _ (List.mem_append_right _ (List.mem_append_right _ (List.mem_append_right _ (List.mem_append_left _ (List.mem_of_getElem? h)))))))), g⟩
theorem inT8 {i : Nat} {w : Cond} (h : tables_1_8[i]? = some w) (g : goodWord w = true) : w ∈ WD := List.mem_filter.mpr ⟨List.mem_append_right _ (List.mem_append_right _ (List.mem_append_right _ (List.mem_append_right _ (List.mem_append_right _ (List.mem_append_right _ (List.mem_append_right _ (List.mem_append_right _ (List.mem_append_left _ (List.mem_of_getElem? h))))))))), g⟩
theorem inT9 {i : Nat} {w : Cond} (h : tables_1_9[i]? = some w) (g : goodWord w = true) : w ∈ WD := List.mem_filter.mpr ⟨List.mem_append_right _ (List.mem_append_right _ (List.mem_append_right _ (List.mem_append_right _ (List.mem_append_right _ (List.mem_append_right _ (List.mem_append_right _ (List.mem_append_right _ (List.mem_append_right _ (List.mem_of_getElem? h))))))))), g⟩
theorem kdr_30 {r : Nat} (h : r < 24) : 30 + r < NC ∧ kd (30 + r) = (1, 4) := (show ∀ r, r < 24 → 30 + r < NC ∧ kd (30 + r) = (1, 4) by decide +kernel) r h
theorem kdr_54 {r : Nat} (h : r < 24) : 54 + r < NC ∧ kd (54 + r) = (1, 4) := (show ∀ r, r < 24 → 54 + r < NC ∧ kd (54 + r) = (1, 4) by decide +kernel) r h
theorem kdr_78 {r : Nat} (h : r < 160) : 78 + r < NC ∧ kd (78 + r) = (1, 2) := (show ∀ r, r < 160 → 78 + r < NC ∧ kd (78 + r) = (1, 2) by decide +kernel) r h
theorem kdr_238 {r : Nat} (h : r < 160) : 238 + r < NC ∧ kd (238 + r) = (1, 2) := (show ∀ r, r < 160 → 238 + r < NC ∧ kd (238 + r) = (1, 2) by decide +kernel) r h
theorem kdr_398 {r : Nat} (h : r < 80) : 398 + r < NC ∧ kd (398 + r) = (1, 4) := (show ∀ r, r < 80 → 398 + r < NC ∧ kd (398 + r) = (1, 4) by decide +kernel) r h
theorem kdr_478 {r : Nat} (h : r < 16) : 478 + r < NC ∧ kd (478 + r) = (1, 56) := (show ∀ r, r < 16 → 478 + r < NC ∧ kd (478 + r) = (1, 56) by decide +kernel) r h
theorem kdr_494 {r : Nat} (h : r < 3) : 494 + r < NC ∧ kd (494 + r) = (1, 953) := (show ∀ r, r < 3 → 494 + r < NC ∧ kd (494 + r) = (1, 953) by decide +kernel) r h
theorem kdr_497 {r : Nat} (h : r < 10) : 497 + r < NC ∧ kd (497 + r) = (1, 10) := (show ∀ r, r < 10 → 497 + r < NC ∧ kd (497 + r) = (1, 10) by decide +kernel) r h
theorem kdr_507 {r : Nat} (h : r < 13) : 507 + r < NC ∧ kd (507 + r) = (1, 10) := (show ∀ r, r < 13 → 507 + r < NC ∧ kd (507 + r) = (1, 10) by decide +kernel) r h
theorem kdr_520 {r : Nat} (h : r < 13) : 520 + r < NC ∧ kd (520 + r) = (1, 10) := (show ∀ r, r < 13 → 520 + r < NC ∧ kd (520 + r) = (1, 10) by decide +kernel) r h
theorem kdr_533 {r : Nat} (h : r < 1024) : 533 + r < NC ∧ kd (533 + r) = (1, 10) := (show ∀ r, r < 1024 → 533 + r < NC ∧ kd (533 + r) = (1, 10) by decide +kernel) r h
def m12_tellsNothing : MD := (12, yX12_tellsNothing, cX12_tellsNothing, 2, none)
theorem okM_m12_tellsNothing : okM m12_tellsNothing := ⟨by decide +kernel, rfl, Nat.le_of_ble_eq_true rfl, inT6 (i := 209) rfl rfl⟩
def m12_thrown : MD := (12, yX12_thrown, cX12_thrown, 1, (some .int))
theorem okM_m12_thrown : okM m12_thrown := ⟨by decide +kernel, rfl, Nat.le_of_ble_eq_true rfl, inT7 (i := 134) rfl rfl⟩
def m12_bad : MD := (12, yX12_bad, cX12_bad, 4, (some .boolean))
theorem okM_m12_bad : okM m12_bad := ⟨by decide +kernel, rfl, Nat.le_of_ble_eq_true rfl, inT7 (i := 149) rfl rfl⟩
def m12_in : MD := (12, yX12_in, cX12_in, 3, (some .boolean))
theorem okM_m12_in : okM m12_in := ⟨by decide +kernel, rfl, Nat.le_of_ble_eq_true rfl, inT7 (i := 145) rfl rfl⟩
def m12_less : MD := (12, yX12_less, cX12_less, 2, (some .int))
theorem okM_m12_less : okM m12_less := ⟨by decide +kernel, rfl, Nat.le_of_ble_eq_true rfl, inT8 (i := 67) rfl rfl⟩
def m12_more : MD := (12, yX12_more, cX12_more, 2, (some .int))
theorem okM_m12_more : okM m12_more := ⟨by decide +kernel, rfl, Nat.le_of_ble_eq_true rfl, inT8 (i := 70) rfl rfl⟩
def m12_has : MD := (12, yX12_has, cX12_has, 2, (some .boolean))
theorem okM_m12_has : okM m12_has := ⟨by decide +kernel, rfl, Nat.le_of_ble_eq_true rfl, inT8 (i := 97) rfl rfl⟩
def m12_feed : MD := (12, yX12_feed, cX12_feed, 8, (some .int))
theorem okM_m12_feed : okM m12_feed := ⟨by decide +kernel, rfl, Nat.le_of_ble_eq_true rfl, inT7 (i := 138) rfl rfl⟩
def m12_byteAt : MD := (12, yX12_byteAt, cX12_byteAt, 2, (some .int))
theorem okM_m12_byteAt : okM m12_byteAt := ⟨by decide +kernel, rfl, Nat.le_of_ble_eq_true rfl, inT7 (i := 161) rfl rfl⟩
def m12_blanks : MD := (12, yX12_blanks, cX12_blanks, 1, none)
theorem okM_m12_blanks : okM m12_blanks := ⟨by decide +kernel, rfl, Nat.le_of_ble_eq_true rfl, inT7 (i := 157) rfl rfl⟩
def m12_wrong : MD := (12, yX12_wrong, cX12_wrong, 3, none)
theorem okM_m12_wrong : okM m12_wrong := ⟨by decide +kernel, rfl, Nat.le_of_ble_eq_true rfl, inT7 (i := 187) rfl rfl⟩
def m12_isDigit : MD := (12, yX12_isDigit, cX12_isDigit, 1, (some .boolean))
theorem okM_m12_isDigit : okM m12_isDigit := ⟨by decide +kernel, rfl, Nat.le_of_ble_eq_true rfl, inT7 (i := 198) rfl rfl⟩
def m12_isSmall : MD := (12, yX12_isSmall, cX12_isSmall, 1, (some .boolean))
theorem okM_m12_isSmall : okM m12_isSmall := ⟨by decide +kernel, rfl, Nat.le_of_ble_eq_true rfl, inT7 (i := 180) rfl rfl⟩
def m12_number : MD := (12, yX12_number, cX12_number, 5, (some .int))
theorem okM_m12_number : okM m12_number := ⟨by decide +kernel, rfl, Nat.le_of_ble_eq_true rfl, inT7 (i := 195) rfl rfl⟩
def m12_wordHere : MD := (12, yX12_wordHere, cX12_wordHere, 3, (some .int))
theorem okM_m12_wordHere : okM m12_wordHere := ⟨by decide +kernel, rfl, Nat.le_of_ble_eq_true rfl, inT7 (i := 177) rfl rfl⟩
def m12_six : MD := (12, yX12_six, cX12_six, 7, (some .int))
theorem okM_m12_six : okM m12_six := ⟨by decide +kernel, rfl, Nat.le_of_ble_eq_true rfl, inT7 (i := 183) rfl rfl⟩
def m12_isWord : MD := (12, yX12_isWord, cX12_isWord, 7, (some .boolean))
theorem okM_m12_isWord : okM m12_isWord := ⟨by decide +kernel, rfl, Nat.le_of_ble_eq_true rfl, inT7 (i := 173) rfl rfl⟩
def m12_skipWord : MD := (12, yX12_skipWord, cX12_skipWord, 1, none)
theorem okM_m12_skipWord : okM m12_skipWord := ⟨by decide +kernel, rfl, Nat.le_of_ble_eq_true rfl, inT7 (i := 191) rfl rfl⟩
def m12_takes : MD := (12, yX12_takes, cX12_takes, 8, (some .boolean))
theorem okM_m12_takes : okM m12_takes := ⟨by decide +kernel, rfl, Nat.le_of_ble_eq_true rfl, inT8 (i := 3) rfl rfl⟩
def m12_sign : MD := (12, yX12_sign, cX12_sign, 2, none)
theorem okM_m12_sign : okM m12_sign := ⟨by decide +kernel, rfl, Nat.le_of_ble_eq_true rfl, inT7 (i := 207) rfl rfl⟩
def m12_takesSign : MD := (12, yX12_takesSign, cX12_takesSign, 3, (some .boolean))
theorem okM_m12_takesSign : okM m12_takesSign := ⟨by decide +kernel, rfl, Nat.le_of_ble_eq_true rfl, inT8 (i := 11) rfl rfl⟩
def m12_starts : MD := (12, yX12_starts, cX12_starts, 2, none)
theorem okM_m12_starts : okM m12_starts := ⟨by decide +kernel, rfl, Nat.le_of_ble_eq_true rfl, inT7 (i := 153) rfl rfl⟩
def m12_ends2 : MD := (12, yX12_ends2, cX12_ends2, 1, (some .int))
theorem okM_m12_ends2 : okM m12_ends2 := ⟨by decide +kernel, rfl, Nat.le_of_ble_eq_true rfl, inT7 (i := 211) rfl rfl⟩
def m12_kindHere : MD := (12, yX12_kindHere, cX12_kindHere, 1, (some .int))
theorem okM_m12_kindHere : okM m12_kindHere := ⟨by decide +kernel, rfl, Nat.le_of_ble_eq_true rfl, inT7 (i := 169) rfl rfl⟩
def m12_roomHere : MD := (12, yX12_roomHere, cX12_roomHere, 1, (some .int))
theorem okM_m12_roomHere : okM m12_roomHere := ⟨by decide +kernel, rfl, Nat.le_of_ble_eq_true rfl, inT7 (i := 203) rfl rfl⟩
def m12_clause : MD := (12, yX12_clause, cX12_clause, 4, none)
theorem okM_m12_clause : okM m12_clause := ⟨by decide +kernel, rfl, Nat.le_of_ble_eq_true rfl, inT7 (i := 165) rfl rfl⟩
def m12_museum : MD := (12, yX12_museum, cX12_museum, 2, (some .int))
theorem okM_m12_museum : okM m12_museum := ⟨by decide +kernel, rfl, Nat.le_of_ble_eq_true rfl, inT7 (i := 142) rfl rfl⟩
def m12_lays : MD := (12, yX12_lays, cX12_lays, 5, none)
theorem okM_m12_lays : okM m12_lays := ⟨by decide +kernel, rfl, Nat.le_of_ble_eq_true rfl, inT6 (i := 216) rfl rfl⟩
def m12_copies : MD := (12, yX12_copies, cX12_copies, 3, none)
theorem okM_m12_copies : okM m12_copies := ⟨by decide +kernel, rfl, Nat.le_of_ble_eq_true rfl, inT8 (i := 34) rfl rfl⟩
def m12_beginsAnew : MD := (12, yX12_beginsAnew, cX12_beginsAnew, 2, none)
theorem okM_m12_beginsAnew : okM m12_beginsAnew := ⟨by decide +kernel, rfl, Nat.le_of_ble_eq_true rfl, inT6 (i := 213) rfl rfl⟩
def m12_notes : MD := (12, yX12_notes, cX12_notes, 3, none)
theorem okM_m12_notes : okM m12_notes := ⟨by decide +kernel, rfl, Nat.le_of_ble_eq_true rfl, inT7 (i := 235) rfl rfl⟩
def m12_opensOne : MD := (12, yX12_opensOne, cX12_opensOne, 1, (some .boolean))
theorem okM_m12_opensOne : okM m12_opensOne := ⟨by decide +kernel, rfl, Nat.le_of_ble_eq_true rfl, inT7 (i := 231) rfl rfl⟩
def m12_sum : MD := (12, yX12_sum, cX12_sum, 2, none)
theorem okM_m12_sum : okM m12_sum := ⟨by decide +kernel, rfl, Nat.le_of_ble_eq_true rfl, inT7 (i := 219) rfl rfl⟩
def m12_product : MD := (12, yX12_product, cX12_product, 2, none)
theorem okM_m12_product : okM m12_product := ⟨by decide +kernel, rfl, Nat.le_of_ble_eq_true rfl, inT7 (i := 223) rfl rfl⟩
def m12_knownHere : MD := (12, yX12_knownHere, cX12_knownHere, 1, (some .int))
theorem okM_m12_knownHere : okM m12_knownHere := ⟨by decide +kernel, rfl, Nat.le_of_ble_eq_true rfl, inT7 (i := 239) rfl rfl⟩
def m12_isTo : MD := (12, yX12_isTo, cX12_isTo, 2, (some .boolean))
theorem okM_m12_isTo : okM m12_isTo := ⟨by decide +kernel, rfl, Nat.le_of_ble_eq_true rfl, inT8 (i := 7) rfl rfl⟩
def m12_one : MD := (12, yX12_one, cX12_one, 3, none)
theorem okM_m12_one : okM m12_one := ⟨by decide +kernel, rfl, Nat.le_of_ble_eq_true rfl, inT7 (i := 227) rfl rfl⟩
def m12_law : MD := (12, yX12_law, cX12_law, 2, (some .int))
theorem okM_m12_law : okM m12_law := ⟨by decide +kernel, rfl, Nat.le_of_ble_eq_true rfl, inT7 (i := 215) rfl rfl⟩
def m12_by : MD := (12, yX12_by, cX12_by, 3, (some .int))
theorem okM_m12_by : okM m12_by := ⟨by decide +kernel, rfl, Nat.le_of_ble_eq_true rfl, inT8 (i := 64) rfl rfl⟩
def m12_byLaw : MD := (12, yX12_byLaw, cX12_byLaw, 3, (some .int))
theorem okM_m12_byLaw : okM m12_byLaw := ⟨by decide +kernel, rfl, Nat.le_of_ble_eq_true rfl, inT8 (i := 61) rfl rfl⟩
def m12_stepHere : MD := (12, yX12_stepHere, cX12_stepHere, 1, (some .int))
theorem okM_m12_stepHere : okM m12_stepHere := ⟨by decide +kernel, rfl, Nat.le_of_ble_eq_true rfl, inT8 (i := 31) rfl rfl⟩
def m12_readsStep : MD := (12, yX12_readsStep, cX12_readsStep, 3, none)
theorem okM_m12_readsStep : okM m12_readsStep := ⟨by decide +kernel, rfl, Nat.le_of_ble_eq_true rfl, inT8 (i := 27) rfl rfl⟩
def m12_walk : MD := (12, yX12_walk, cX12_walk, 5, (some .int))
theorem okM_m12_walk : okM m12_walk := ⟨by decide +kernel, rfl, Nat.le_of_ble_eq_true rfl, inT8 (i := 15) rfl rfl⟩
def m12_fault : MD := (12, yX12_fault, cX12_fault, 1, (some .int))
theorem okM_m12_fault : okM m12_fault := ⟨by decide +kernel, rfl, Nat.le_of_ble_eq_true rfl, inT8 (i := 19) rfl rfl⟩
def m12_isBarred : MD := (12, yX12_isBarred, cX12_isBarred, 2, (some .boolean))
theorem okM_m12_isBarred : okM m12_isBarred := ⟨by decide +kernel, rfl, Nat.le_of_ble_eq_true rfl, inT8 (i := 53) rfl rfl⟩
def m12_isLawful : MD := (12, yX12_isLawful, cX12_isLawful, 5, (some .boolean))
theorem okM_m12_isLawful : okM m12_isLawful := ⟨by decide +kernel, rfl, Nat.le_of_ble_eq_true rfl, inT8 (i := 57) rfl rfl⟩
def m12_isOpenBy : MD := (12, yX12_isOpenBy, cX12_isOpenBy, 5, (some .boolean))
theorem okM_m12_isOpenBy : okM m12_isOpenBy := ⟨by decide +kernel, rfl, Nat.le_of_ble_eq_true rfl, inT8 (i := 50) rfl rfl⟩
def m12_isOpenIn : MD := (12, yX12_isOpenIn, cX12_isOpenIn, 4, (some .boolean))
theorem okM_m12_isOpenIn : okM m12_isOpenIn := ⟨by decide +kernel, rfl, Nat.le_of_ble_eq_true rfl, inT8 (i := 46) rfl rfl⟩
def m12_does : MD := (12, yX12_does, cX12_does, 6, (some .boolean))
theorem okM_m12_does : okM m12_does := ⟨by decide +kernel, rfl, Nat.le_of_ble_eq_true rfl, inT8 (i := 42) rfl rfl⟩
def m12_goes : MD := (12, yX12_goes, cX12_goes, 5, none)
theorem okM_m12_goes : okM m12_goes := ⟨by decide +kernel, rfl, Nat.le_of_ble_eq_true rfl, inT8 (i := 38) rfl rfl⟩
def m12_work : MD := (12, yX12_work, cX12_work, 2, (some .int))
theorem okM_m12_work : okM m12_work := ⟨by decide +kernel, rfl, Nat.le_of_ble_eq_true rfl, inT8 (i := 23) rfl rfl⟩
def m12_undo : MD := (12, yX12_undo, cX12_undo, 1, (some .int))
theorem okM_m12_undo : okM m12_undo := ⟨by decide +kernel, rfl, Nat.le_of_ble_eq_true rfl, inT8 (i := 74) rfl rfl⟩
def m12_sumOf : MD := (12, yX12_sumOf, cX12_sumOf, 4, (some .int))
theorem okM_m12_sumOf : okM m12_sumOf := ⟨by decide +kernel, rfl, Nat.le_of_ble_eq_true rfl, inT8 (i := 82) rfl rfl⟩
def m12_told : MD := (12, yX12_told, cX12_told, 4, (some .int))
theorem okM_m12_told : okM m12_told := ⟨by decide +kernel, rfl, Nat.le_of_ble_eq_true rfl, inT8 (i := 78) rfl rfl⟩
def m12_isRoom : MD := (12, yX12_isRoom, cX12_isRoom, 2, (some .boolean))
theorem okM_m12_isRoom : okM m12_isRoom := ⟨by decide +kernel, rfl, Nat.le_of_ble_eq_true rfl, inT8 (i := 90) rfl rfl⟩
def m12_isDoor : MD := (12, yX12_isDoor, cX12_isDoor, 2, (some .boolean))
theorem okM_m12_isDoor : okM m12_isDoor := ⟨by decide +kernel, rfl, Nat.le_of_ble_eq_true rfl, inT8 (i := 113) rfl rfl⟩
def m12_toursIn : MD := (12, yX12_toursIn, cX12_toursIn, 4, (some .int))
theorem okM_m12_toursIn : okM m12_toursIn := ⟨by decide +kernel, rfl, Nat.le_of_ble_eq_true rfl, inT8 (i := 101) rfl rfl⟩
def m12_doorsOf : MD := (12, yX12_doorsOf, cX12_doorsOf, 6, (some .int))
theorem okM_m12_doorsOf : okM m12_doorsOf := ⟨by decide +kernel, rfl, Nat.le_of_ble_eq_true rfl, inT8 (i := 105) rfl rfl⟩
def m12_room : MD := (12, yX12_room, cX12_room, 3, (some .int))
theorem okM_m12_room : okM m12_room := ⟨by decide +kernel, rfl, Nat.le_of_ble_eq_true rfl, inT8 (i := 86) rfl rfl⟩
def m12_door : MD := (12, yX12_door, cX12_door, 3, (some .int))
theorem okM_m12_door : okM m12_door := ⟨by decide +kernel, rfl, Nat.le_of_ble_eq_true rfl, inT8 (i := 109) rfl rfl⟩
def m12_tour : MD := (12, yX12_tour, cX12_tour, 2, (some .int))
theorem okM_m12_tour : okM m12_tour := ⟨by decide +kernel, rfl, Nat.le_of_ble_eq_true rfl, inT8 (i := 117) rfl rfl⟩
def m12_open : MD := (12, yX12_open, cX12_open, 4, (some .boolean))
theorem okM_m12_open : okM m12_open := ⟨by decide +kernel, rfl, Nat.le_of_ble_eq_true rfl, inT8 (i := 121) rfl rfl⟩
def m12_isExit : MD := (12, yX12_isExit, cX12_isExit, 2, (some .boolean))
theorem okM_m12_isExit : okM m12_isExit := ⟨by decide +kernel, rfl, Nat.le_of_ble_eq_true rfl, inT8 (i := 94) rfl rfl⟩
def m12_allRooms : MD := (12, yX12_allRooms, cX12_allRooms, 1, (some .int))
theorem okM_m12_allRooms : okM m12_allRooms := ⟨by decide +kernel, rfl, Nat.le_of_ble_eq_true rfl, inT8 (i := 133) rfl rfl⟩
def m12_behind : MD := (12, yX12_behind, cX12_behind, 4, (some .int))
theorem okM_m12_behind : okM m12_behind := ⟨by decide +kernel, rfl, Nat.le_of_ble_eq_true rfl, inT8 (i := 137) rfl rfl⟩
def m12_seen : MD := (12, yX12_seen, cX12_seen, 5, (some .int))
theorem okM_m12_seen : okM m12_seen := ⟨by decide +kernel, rfl, Nat.le_of_ble_eq_true rfl, inT8 (i := 141) rfl rfl⟩
def m12_fitsNow : MD := (12, yX12_fitsNow, cX12_fitsNow, 3, (some .int))
theorem okM_m12_fitsNow : okM m12_fitsNow := ⟨by decide +kernel, rfl, Nat.le_of_ble_eq_true rfl, inT8 (i := 129) rfl rfl⟩
def m12_fits : MD := (12, yX12_fits, cX12_fits, 1, (some .int))
theorem okM_m12_fits : okM m12_fits := ⟨by decide +kernel, rfl, Nat.le_of_ble_eq_true rfl, inT8 (i := 125) rfl rfl⟩
def m12_ends : MD := (12, yX12_ends, cX12_ends, 2, (some .boolean))
theorem okM_m12_ends : okM m12_ends := ⟨by decide +kernel, rfl, Nat.le_of_ble_eq_true rfl, inT8 (i := 145) rfl rfl⟩
def m12_isOne : MD := (12, yX12_isOne, cX12_isOne, 1, (some .boolean))
theorem okM_m12_isOne : okM m12_isOne := ⟨by decide +kernel, rfl, Nat.le_of_ble_eq_true rfl, inT8 (i := 156) rfl rfl⟩
def m12_isKnown : MD := (12, yX12_isKnown, cX12_isKnown, 5, (some .boolean))
theorem okM_m12_isKnown : okM m12_isKnown := ⟨by decide +kernel, rfl, Nat.le_of_ble_eq_true rfl, inT8 (i := 153) rfl rfl⟩
def m12_knows : MD := (12, yX12_knows, cX12_knows, 2, (some .int))
theorem okM_m12_knows : okM m12_knows := ⟨by decide +kernel, rfl, Nat.le_of_ble_eq_true rfl, inT8 (i := 149) rfl rfl⟩
def m12_laysSlips : MD := (12, yX12_laysSlips, cX12_laysSlips, 9, none)
theorem okM_m12_laysSlips : okM m12_laysSlips := ⟨by decide +kernel, rfl, Nat.le_of_ble_eq_true rfl, inT8 (i := 164) rfl rfl⟩
def m12_slips : MD := (12, yX12_slips, cX12_slips, 6, (some .int))
theorem okM_m12_slips : okM m12_slips := ⟨by decide +kernel, rfl, Nat.le_of_ble_eq_true rfl, inT8 (i := 160) rfl rfl⟩
def m12_behindIn : MD := (12, yX12_behindIn, cX12_behindIn, 5, (some .int))
theorem okM_m12_behindIn : okM m12_behindIn := ⟨by decide +kernel, rfl, Nat.le_of_ble_eq_true rfl, inT8 (i := 176) rfl rfl⟩
def m12_soonTo : MD := (12, yX12_soonTo, cX12_soonTo, 5, (some .int))
theorem okM_m12_soonTo : okM m12_soonTo := ⟨by decide +kernel, rfl, Nat.le_of_ble_eq_true rfl, inT8 (i := 172) rfl rfl⟩
def m12_soon : MD := (12, yX12_soon, cX12_soon, 3, (some .int))
theorem okM_m12_soon : okM m12_soon := ⟨by decide +kernel, rfl, Nat.le_of_ble_eq_true rfl, inT8 (i := 168) rfl rfl⟩
def m12_within : MD := (12, yX12_within, cX12_within, 5, (some .int))
theorem okM_m12_within : okM m12_within := ⟨by decide +kernel, rfl, Nat.le_of_ble_eq_true rfl, inT8 (i := 180) rfl rfl⟩
def m12_out : MD := (12, yX12_out, cX12_out, 2, (some .int))
theorem okM_m12_out : okM m12_out := ⟨by decide +kernel, rfl, Nat.le_of_ble_eq_true rfl, inT8 (i := 184) rfl rfl⟩
def m12_laysWays : MD := (12, yX12_laysWays, cX12_laysWays, 4, none)
theorem okM_m12_laysWays : okM m12_laysWays := ⟨by decide +kernel, rfl, Nat.le_of_ble_eq_true rfl, inT8 (i := 192) rfl rfl⟩
def m12_orNone : MD := (12, yX12_orNone, cX12_orNone, 1, (some .int))
theorem okM_m12_orNone : okM m12_orNone := ⟨by decide +kernel, rfl, Nat.le_of_ble_eq_true rfl, inT8 (i := 199) rfl rfl⟩
def m12_stringTo : MD := (12, yX12_stringTo, cX12_stringTo, 4, (some .int))
theorem okM_m12_stringTo : okM m12_stringTo := ⟨by decide +kernel, rfl, Nat.le_of_ble_eq_true rfl, inT8 (i := 196) rfl rfl⟩
def m12_string : MD := (12, yX12_string, cX12_string, 2, (some .int))
theorem okM_m12_string : okM m12_string := ⟨by decide +kernel, rfl, Nat.le_of_ble_eq_true rfl, inT8 (i := 188) rfl rfl⟩
def m12_longest : MD := (12, yX12_longest, cX12_longest, 5, (some .int))
theorem okM_m12_longest : okM m12_longest := ⟨by decide +kernel, rfl, Nat.le_of_ble_eq_true rfl, inT8 (i := 203) rfl rfl⟩
def m12_lost : MD := (12, yX12_lost, cX12_lost, 7, (some .int))
theorem okM_m12_lost : okM m12_lost := ⟨by decide +kernel, rfl, Nat.le_of_ble_eq_true rfl, inT8 (i := 207) rfl rfl⟩
def m12_wingOf : MD := (12, yX12_wingOf, cX12_wingOf, 4, (some .int))
theorem okM_m12_wingOf : okM m12_wingOf := ⟨by decide +kernel, rfl, Nat.le_of_ble_eq_true rfl, inT8 (i := 215) rfl rfl⟩
def m12_wing : MD := (12, yX12_wing, cX12_wing, 2, (some .int))
theorem okM_m12_wing : okM m12_wing := ⟨by decide +kernel, rfl, Nat.le_of_ble_eq_true rfl, inT8 (i := 211) rfl rfl⟩
def m12_cuts : MD := (12, yX12_cuts, cX12_cuts, 8, (some .int))
theorem okM_m12_cuts : okM m12_cuts := ⟨by decide +kernel, rfl, Nat.le_of_ble_eq_true rfl, inT8 (i := 219) rfl rfl⟩
def m12_laysRounds : MD := (12, yX12_laysRounds, cX12_laysRounds, 5, none)
theorem okM_m12_laysRounds : okM m12_laysRounds := ⟨by decide +kernel, rfl, Nat.le_of_ble_eq_true rfl, inT8 (i := 227) rfl rfl⟩
def m12_roundTo : MD := (12, yX12_roundTo, cX12_roundTo, 3, (some .int))
theorem okM_m12_roundTo : okM m12_roundTo := ⟨by decide +kernel, rfl, Nat.le_of_ble_eq_true rfl, inT8 (i := 231) rfl rfl⟩
def m12_round : MD := (12, yX12_round, cX12_round, 2, (some .int))
theorem okM_m12_round : okM m12_round := ⟨by decide +kernel, rfl, Nat.le_of_ble_eq_true rfl, inT8 (i := 223) rfl rfl⟩
def m12_last : MD := (12, yX12_last, cX12_last, 2, (some .int))
theorem okM_m12_last : okM m12_last := ⟨by decide +kernel, rfl, Nat.le_of_ble_eq_true rfl, inT8 (i := 235) rfl rfl⟩
def m12_meet : MD := (12, yX12_meet, cX12_meet, 8, (some .int))
theorem okM_m12_meet : okM m12_meet := ⟨by decide +kernel, rfl, Nat.le_of_ble_eq_true rfl, inT8 (i := 239) rfl rfl⟩
def m12_isMore : MD := (12, yX12_isMore, cX12_isMore, 8, (some .boolean))
theorem okM_m12_isMore : okM m12_isMore := ⟨by decide +kernel, rfl, Nat.le_of_ble_eq_true rfl, inT9 (i := 11) rfl rfl⟩
def m12_flowsTo : MD := (12, yX12_flowsTo, cX12_flowsTo, 6, (some .int))
theorem okM_m12_flowsTo : okM m12_flowsTo := ⟨by decide +kernel, rfl, Nat.le_of_ble_eq_true rfl, inT9 (i := 7) rfl rfl⟩
def m12_parted : MD := (12, yX12_parted, cX12_parted, 8, (some .int))
theorem okM_m12_parted : okM m12_parted := ⟨by decide +kernel, rfl, Nat.le_of_ble_eq_true rfl, inT9 (i := 3) rfl rfl⟩
def m12_quiet : MD := (12, yX12_quiet, cX12_quiet, 12, (some .long))
theorem okM_m12_quiet : okM m12_quiet := ⟨by decide +kernel, rfl, Nat.le_of_ble_eq_true rfl, inT9 (i := 15) rfl rfl⟩
def m12_way : MD := (12, yX12_way, cX12_way, 3, (some .int))
theorem okM_m12_way : okM m12_way := ⟨by decide +kernel, rfl, Nat.le_of_ble_eq_true rfl, inT9 (i := 21) rfl rfl⟩
def m12_next : MD := (12, yX12_next, cX12_next, 4, (some .int))
theorem okM_m12_next : okM m12_next := ⟨by decide +kernel, rfl, Nat.le_of_ble_eq_true rfl, inT9 (i := 25) rfl rfl⟩
def m12_loop : MD := (12, yX12_loop, cX12_loop, 4, (some .int))
theorem okM_m12_loop : okM m12_loop := ⟨by decide +kernel, rfl, Nat.le_of_ble_eq_true rfl, inT9 (i := 29) rfl rfl⟩
def m12_closed : MD := (12, yX12_closed, cX12_closed, 5, (some .int))
theorem okM_m12_closed : okM m12_closed := ⟨by decide +kernel, rfl, Nat.le_of_ble_eq_true rfl, inT9 (i := 33) rfl rfl⟩
def m12_crowded : MD := (12, yX12_crowded, cX12_crowded, 5, (some .int))
theorem okM_m12_crowded : okM m12_crowded := ⟨by decide +kernel, rfl, Nat.le_of_ble_eq_true rfl, inT9 (i := 37) rfl rfl⟩
def m12_worn : MD := (12, yX12_worn, cX12_worn, 5, (some .int))
theorem okM_m12_worn : okM m12_worn := ⟨by decide +kernel, rfl, Nat.le_of_ble_eq_true rfl, inT9 (i := 41) rfl rfl⟩
def m12_walksBy : MD := (12, yX12_walksBy, cX12_walksBy, 9, (some .int))
theorem okM_m12_walksBy : okM m12_walksBy := ⟨by decide +kernel, rfl, Nat.le_of_ble_eq_true rfl, inT9 (i := 49) rfl rfl⟩
def m12_behindDoor : MD := (12, yX12_behindDoor, cX12_behindDoor, 6, (some .int))
theorem okM_m12_behindDoor : okM m12_behindDoor := ⟨by decide +kernel, rfl, Nat.le_of_ble_eq_true rfl, inT9 (i := 54) rfl rfl⟩
def m12_ones : MD := (12, yX12_ones, cX12_ones, 3, (some .int))
theorem okM_m12_ones : okM m12_ones := ⟨by decide +kernel, rfl, Nat.le_of_ble_eq_true rfl, inT9 (i := 57) rfl rfl⟩
def m12_sleepwalk : MD := (12, yX12_sleepwalk, cX12_sleepwalk, 6, (some .int))
theorem okM_m12_sleepwalk : okM m12_sleepwalk := ⟨by decide +kernel, rfl, Nat.le_of_ble_eq_true rfl, inT9 (i := 45) rfl rfl⟩
def m12_span : MD := (12, yX12_span, cX12_span, 10, (some .int))
theorem okM_m12_span : okM m12_span := ⟨by decide +kernel, rfl, Nat.le_of_ble_eq_true rfl, inT9 (i := 61) rfl rfl⟩
def m12_puts : MD := (12, yX12_puts, cX12_puts, 4, (some .int))
theorem okM_m12_puts : okM m12_puts := ⟨by decide +kernel, rfl, Nat.le_of_ble_eq_true rfl, inT9 (i := 73) rfl rfl⟩
def m12_putsAll : MD := (12, yX12_putsAll, cX12_putsAll, 5, none)
theorem okM_m12_putsAll : okM m12_putsAll := ⟨by decide +kernel, rfl, Nat.le_of_ble_eq_true rfl, inT9 (i := 69) rfl rfl⟩
def m12_image : MD := (12, yX12_image, cX12_image, 1, (some .int))
theorem okM_m12_image : okM m12_image := ⟨by decide +kernel, rfl, Nat.le_of_ble_eq_true rfl, inT9 (i := 65) rfl rfl⟩
def m12_restore : MD := (12, yX12_restore, cX12_restore, 1, (some .int))
theorem okM_m12_restore : okM m12_restore := ⟨by decide +kernel, rfl, Nat.le_of_ble_eq_true rfl, inT9 (i := 77) rfl rfl⟩
def m12_status : MD := (12, yX12_status, cX12_status, 2, (some .int))
theorem okM_m12_status : okM m12_status := ⟨by decide +kernel, rfl, Nat.le_of_ble_eq_true rfl, inT9 (i := 81) rfl rfl⟩
def m12_count : MD := (12, yX12_count, cX12_count, 2, (some .int))
theorem okM_m12_count : okM m12_count := ⟨by decide +kernel, rfl, Nat.le_of_ble_eq_true rfl, inT9 (i := 85) rfl rfl⟩
theorem S12_135 : okS 12 135 1 m12_isDigit := ⟨okM_m12_isDigit, ⟨by decide +kernel, by decide +kernel, by decide +kernel⟩, inT7 (i := 196) rfl rfl, inT1 (i := 13) rfl rfl, inT7 (i := 197) rfl rfl⟩
theorem S12_144 : okS 12 144 3 m12_in := ⟨okM_m12_in, ⟨by decide +kernel, by decide +kernel, by decide +kernel⟩, inT7 (i := 143) rfl rfl, inT1 (i := 13) rfl rfl, inT7 (i := 144) rfl rfl⟩
theorem S12_148 : okS 12 148 1 m12_isSmall := ⟨okM_m12_isSmall, ⟨by decide +kernel, by decide +kernel, by decide +kernel⟩, inT7 (i := 178) rfl rfl, inT1 (i := 13) rfl rfl, inT7 (i := 179) rfl rfl⟩
theorem S12_155 : okS 12 155 6 m12_six := ⟨okM_m12_six, ⟨by decide +kernel, by decide +kernel, by decide +kernel⟩, inT7 (i := 181) rfl rfl, inT1 (i := 13) rfl rfl, inT7 (i := 182) rfl rfl⟩
theorem S12_199 : okS 12 199 3 m12_lays := ⟨okM_m12_lays, ⟨by decide +kernel, by decide +kernel, by decide +kernel⟩, inT6 (i := 214) rfl rfl, inT1 (i := 13) rfl rfl, inT6 (i := 215) rfl rfl⟩
theorem S12_249 : okS 12 249 2 m12_less := ⟨okM_m12_less, ⟨by decide +kernel, by decide +kernel, by decide +kernel⟩, inT8 (i := 65) rfl rfl, inT1 (i := 13) rfl rfl, inT8 (i := 66) rfl rfl⟩
theorem S12_252 : okS 12 252 2 m12_more := ⟨okM_m12_more, ⟨by decide +kernel, by decide +kernel, by decide +kernel⟩, inT8 (i := 68) rfl rfl, inT1 (i := 13) rfl rfl, inT8 (i := 69) rfl rfl⟩
theorem S12_255 : okS 12 255 3 m12_by := ⟨okM_m12_by, ⟨by decide +kernel, by decide +kernel, by decide +kernel⟩, inT8 (i := 62) rfl rfl, inT1 (i := 13) rfl rfl, inT8 (i := 63) rfl rfl⟩
theorem S12_271 : okS 12 271 2 m12_isBarred := ⟨okM_m12_isBarred, ⟨by decide +kernel, by decide +kernel, by decide +kernel⟩, inT8 (i := 51) rfl rfl, inT1 (i := 13) rfl rfl, inT8 (i := 52) rfl rfl⟩
theorem S12_299 : okS 12 299 2 m12_copies := ⟨okM_m12_copies, ⟨by decide +kernel, by decide +kernel, by decide +kernel⟩, inT8 (i := 32) rfl rfl, inT1 (i := 13) rfl rfl, inT8 (i := 33) rfl rfl⟩
theorem S12_321 : okS 12 321 2 m12_has := ⟨okM_m12_has, ⟨by decide +kernel, by decide +kernel, by decide +kernel⟩, inT8 (i := 95) rfl rfl, inT1 (i := 13) rfl rfl, inT8 (i := 96) rfl rfl⟩
theorem S12_337 : okS 12 337 1 m12_isOne := ⟨okM_m12_isOne, ⟨by decide +kernel, by decide +kernel, by decide +kernel⟩, inT8 (i := 154) rfl rfl, inT1 (i := 13) rfl rfl, inT8 (i := 155) rfl rfl⟩
theorem S12_352 : okS 12 352 1 m12_orNone := ⟨okM_m12_orNone, ⟨by decide +kernel, by decide +kernel, by decide +kernel⟩, inT8 (i := 197) rfl rfl, inT1 (i := 13) rfl rfl, inT8 (i := 198) rfl rfl⟩
theorem S12_396 : okS 12 396 1 m12_ones := ⟨okM_m12_ones, ⟨by decide +kernel, by decide +kernel, by decide +kernel⟩, inT9 (i := 55) rfl rfl, inT1 (i := 13) rfl rfl, inT9 (i := 56) rfl rfl⟩
theorem V12_104 : okV 12 104 0 m12_tellsNothing := ⟨Nat.le_of_ble_eq_true rfl, okM_m12_tellsNothing, ⟨by decide +kernel, by decide +kernel, by decide +kernel⟩, inT6 (i := 206) rfl rfl, inT1 (i := 13) rfl rfl, inT6 (i := 208) rfl rfl, inS (i := 45) rfl rfl⟩
theorem V12_107 : okV 12 107 0 m12_beginsAnew := ⟨Nat.le_of_ble_eq_true rfl, okM_m12_beginsAnew, ⟨by decide +kernel, by decide +kernel, by decide +kernel⟩, inT6 (i := 210) rfl rfl, inT1 (i := 13) rfl rfl, inT6 (i := 212) rfl rfl, inS (i := 46) rfl rfl⟩
theorem V12_122 : okV 12 122 1 m12_byteAt := ⟨Nat.le_of_ble_eq_true rfl, okM_m12_byteAt, ⟨by decide +kernel, by decide +kernel, by decide +kernel⟩, inT7 (i := 158) rfl rfl, inT1 (i := 13) rfl rfl, inT7 (i := 160) rfl rfl, inS (i := 50) rfl rfl⟩
theorem V12_132 : okV 12 132 0 m12_blanks := ⟨Nat.le_of_ble_eq_true rfl, okM_m12_blanks, ⟨by decide +kernel, by decide +kernel, by decide +kernel⟩, inT7 (i := 154) rfl rfl, inT1 (i := 13) rfl rfl, inT7 (i := 156) rfl rfl, inS (i := 49) rfl rfl⟩
theorem V12_139 : okV 12 139 2 m12_wrong := ⟨Nat.le_of_ble_eq_true rfl, okM_m12_wrong, ⟨by decide +kernel, by decide +kernel, by decide +kernel⟩, inT7 (i := 184) rfl rfl, inT1 (i := 13) rfl rfl, inT7 (i := 186) rfl rfl, inS (i := 55) rfl rfl⟩
theorem V12_151 : okV 12 151 0 m12_wordHere := ⟨Nat.le_of_ble_eq_true rfl, okM_m12_wordHere, ⟨by decide +kernel, by decide +kernel, by decide +kernel⟩, inT7 (i := 174) rfl rfl, inT1 (i := 13) rfl rfl, inT7 (i := 176) rfl rfl, inS (i := 54) rfl rfl⟩
theorem V12_159 : okV 12 159 6 m12_isWord := ⟨Nat.le_of_ble_eq_true rfl, okM_m12_isWord, ⟨by decide +kernel, by decide +kernel, by decide +kernel⟩, inT7 (i := 170) rfl rfl, inT1 (i := 13) rfl rfl, inT7 (i := 172) rfl rfl, inS (i := 53) rfl rfl⟩
theorem V12_163 : okV 12 163 0 m12_skipWord := ⟨Nat.le_of_ble_eq_true rfl, okM_m12_skipWord, ⟨by decide +kernel, by decide +kernel, by decide +kernel⟩, inT7 (i := 188) rfl rfl, inT1 (i := 13) rfl rfl, inT7 (i := 190) rfl rfl, inS (i := 56) rfl rfl⟩
theorem V12_172 : okV 12 172 2 m12_number := ⟨Nat.le_of_ble_eq_true rfl, okM_m12_number, ⟨by decide +kernel, by decide +kernel, by decide +kernel⟩, inT7 (i := 192) rfl rfl, inT1 (i := 13) rfl rfl, inT7 (i := 194) rfl rfl, inS (i := 57) rfl rfl⟩
theorem V12_176 : okV 12 176 0 m12_kindHere := ⟨Nat.le_of_ble_eq_true rfl, okM_m12_kindHere, ⟨by decide +kernel, by decide +kernel, by decide +kernel⟩, inT7 (i := 166) rfl rfl, inT1 (i := 13) rfl rfl, inT7 (i := 168) rfl rfl, inS (i := 52) rfl rfl⟩
theorem V12_179 : okV 12 179 0 m12_roomHere := ⟨Nat.le_of_ble_eq_true rfl, okM_m12_roomHere, ⟨by decide +kernel, by decide +kernel, by decide +kernel⟩, inT7 (i := 200) rfl rfl, inT1 (i := 13) rfl rfl, inT7 (i := 202) rfl rfl, inS (i := 58) rfl rfl⟩
theorem V12_182 : okV 12 182 1 m12_sign := ⟨Nat.le_of_ble_eq_true rfl, okM_m12_sign, ⟨by decide +kernel, by decide +kernel, by decide +kernel⟩, inT7 (i := 204) rfl rfl, inT1 (i := 13) rfl rfl, inT7 (i := 206) rfl rfl, inS (i := 59) rfl rfl⟩
theorem V12_186 : okV 12 186 3 m12_bad := ⟨Nat.le_of_ble_eq_true rfl, okM_m12_bad, ⟨by decide +kernel, by decide +kernel, by decide +kernel⟩, inT7 (i := 146) rfl rfl, inT1 (i := 13) rfl rfl, inT7 (i := 148) rfl rfl, inS (i := 47) rfl rfl⟩
theorem V12_190 : okV 12 190 1 m12_starts := ⟨Nat.le_of_ble_eq_true rfl, okM_m12_starts, ⟨by decide +kernel, by decide +kernel, by decide +kernel⟩, inT7 (i := 150) rfl rfl, inT1 (i := 13) rfl rfl, inT7 (i := 152) rfl rfl, inS (i := 48) rfl rfl⟩
theorem V12_193 : okV 12 193 0 m12_clause := ⟨Nat.le_of_ble_eq_true rfl, okM_m12_clause, ⟨by decide +kernel, by decide +kernel, by decide +kernel⟩, inT7 (i := 162) rfl rfl, inT1 (i := 13) rfl rfl, inT7 (i := 164) rfl rfl, inS (i := 51) rfl rfl⟩
theorem V12_196 : okV 12 196 0 m12_ends2 := ⟨Nat.le_of_ble_eq_true rfl, okM_m12_ends2, ⟨by decide +kernel, by decide +kernel, by decide +kernel⟩, inT7 (i := 208) rfl rfl, inT1 (i := 13) rfl rfl, inT7 (i := 210) rfl rfl, inS (i := 60) rfl rfl⟩
theorem V12_221 : okV 12 221 0 m12_product := ⟨Nat.le_of_ble_eq_true rfl, okM_m12_product, ⟨by decide +kernel, by decide +kernel, by decide +kernel⟩, inT7 (i := 220) rfl rfl, inT1 (i := 13) rfl rfl, inT7 (i := 222) rfl rfl, inS (i := 62) rfl rfl⟩
theorem V12_224 : okV 12 224 1 m12_takesSign := ⟨Nat.le_of_ble_eq_true rfl, okM_m12_takesSign, ⟨by decide +kernel, by decide +kernel, by decide +kernel⟩, inT8 (i := 8) rfl rfl, inT1 (i := 13) rfl rfl, inT8 (i := 10) rfl rfl, inS (i := 69) rfl rfl⟩
theorem V12_227 : okV 12 227 2 m12_notes := ⟨Nat.le_of_ble_eq_true rfl, okM_m12_notes, ⟨by decide +kernel, by decide +kernel, by decide +kernel⟩, inT7 (i := 232) rfl rfl, inT1 (i := 13) rfl rfl, inT7 (i := 234) rfl rfl, inS (i := 65) rfl rfl⟩
theorem V12_230 : okV 12 230 0 m12_one := ⟨Nat.le_of_ble_eq_true rfl, okM_m12_one, ⟨by decide +kernel, by decide +kernel, by decide +kernel⟩, inT7 (i := 224) rfl rfl, inT1 (i := 13) rfl rfl, inT7 (i := 226) rfl rfl, inS (i := 63) rfl rfl⟩
theorem V12_233 : okV 12 233 6 m12_takes := ⟨Nat.le_of_ble_eq_true rfl, okM_m12_takes, ⟨by decide +kernel, by decide +kernel, by decide +kernel⟩, inT8 (i := 0) rfl rfl, inT1 (i := 13) rfl rfl, inT8 (i := 2) rfl rfl, inS (i := 67) rfl rfl⟩
theorem V12_236 : okV 12 236 0 m12_isTo := ⟨Nat.le_of_ble_eq_true rfl, okM_m12_isTo, ⟨by decide +kernel, by decide +kernel, by decide +kernel⟩, inT8 (i := 4) rfl rfl, inT1 (i := 13) rfl rfl, inT8 (i := 6) rfl rfl, inS (i := 68) rfl rfl⟩
theorem V12_240 : okV 12 240 0 m12_opensOne := ⟨Nat.le_of_ble_eq_true rfl, okM_m12_opensOne, ⟨by decide +kernel, by decide +kernel, by decide +kernel⟩, inT7 (i := 228) rfl rfl, inT1 (i := 13) rfl rfl, inT7 (i := 230) rfl rfl, inS (i := 64) rfl rfl⟩
theorem V12_243 : okV 12 243 0 m12_sum := ⟨Nat.le_of_ble_eq_true rfl, okM_m12_sum, ⟨by decide +kernel, by decide +kernel, by decide +kernel⟩, inT7 (i := 216) rfl rfl, inT1 (i := 13) rfl rfl, inT7 (i := 218) rfl rfl, inS (i := 61) rfl rfl⟩
theorem V12_246 : okV 12 246 0 m12_knownHere := ⟨Nat.le_of_ble_eq_true rfl, okM_m12_knownHere, ⟨by decide +kernel, by decide +kernel, by decide +kernel⟩, inT7 (i := 236) rfl rfl, inT1 (i := 13) rfl rfl, inT7 (i := 238) rfl rfl, inS (i := 66) rfl rfl⟩
theorem V12_259 : okV 12 259 0 m12_stepHere := ⟨Nat.le_of_ble_eq_true rfl, okM_m12_stepHere, ⟨by decide +kernel, by decide +kernel, by decide +kernel⟩, inT8 (i := 28) rfl rfl, inT1 (i := 13) rfl rfl, inT8 (i := 30) rfl rfl, inS (i := 71) rfl rfl⟩
theorem V12_265 : okV 12 265 0 m12_readsStep := ⟨Nat.le_of_ble_eq_true rfl, okM_m12_readsStep, ⟨by decide +kernel, by decide +kernel, by decide +kernel⟩, inT8 (i := 24) rfl rfl, inT1 (i := 13) rfl rfl, inT8 (i := 26) rfl rfl, inS (i := 70) rfl rfl⟩
theorem V12_268 : okV 12 268 0 m12_byLaw := ⟨Nat.le_of_ble_eq_true rfl, okM_m12_byLaw, ⟨by decide +kernel, by decide +kernel, by decide +kernel⟩, inT8 (i := 58) rfl rfl, inT1 (i := 13) rfl rfl, inT8 (i := 60) rfl rfl, inS (i := 77) rfl rfl⟩
theorem V12_275 : okV 12 275 4 m12_isLawful := ⟨Nat.le_of_ble_eq_true rfl, okM_m12_isLawful, ⟨by decide +kernel, by decide +kernel, by decide +kernel⟩, inT8 (i := 54) rfl rfl, inT1 (i := 13) rfl rfl, inT8 (i := 56) rfl rfl, inS (i := 76) rfl rfl⟩
theorem V12_279 : okV 12 279 4 m12_isOpenBy := ⟨Nat.le_of_ble_eq_true rfl, okM_m12_isOpenBy, ⟨by decide +kernel, by decide +kernel, by decide +kernel⟩, inT8 (i := 47) rfl rfl, inT1 (i := 13) rfl rfl, inT8 (i := 49) rfl rfl, inS (i := 75) rfl rfl⟩
theorem V12_282 : okV 12 282 3 m12_isOpenIn := ⟨Nat.le_of_ble_eq_true rfl, okM_m12_isOpenIn, ⟨by decide +kernel, by decide +kernel, by decide +kernel⟩, inT8 (i := 43) rfl rfl, inT1 (i := 13) rfl rfl, inT8 (i := 45) rfl rfl, inS (i := 74) rfl rfl⟩
theorem V12_289 : okV 12 289 2 m12_goes := ⟨Nat.le_of_ble_eq_true rfl, okM_m12_goes, ⟨by decide +kernel, by decide +kernel, by decide +kernel⟩, inT8 (i := 35) rfl rfl, inT1 (i := 13) rfl rfl, inT8 (i := 37) rfl rfl, inS (i := 72) rfl rfl⟩
theorem V12_292 : okV 12 292 2 m12_does := ⟨Nat.le_of_ble_eq_true rfl, okM_m12_does, ⟨by decide +kernel, by decide +kernel, by decide +kernel⟩, inT8 (i := 39) rfl rfl, inT1 (i := 13) rfl rfl, inT8 (i := 41) rfl rfl, inS (i := 73) rfl rfl⟩
theorem V12_303 : okV 12 303 1 m12_sumOf := ⟨Nat.le_of_ble_eq_true rfl, okM_m12_sumOf, ⟨by decide +kernel, by decide +kernel, by decide +kernel⟩, inT8 (i := 79) rfl rfl, inT1 (i := 13) rfl rfl, inT8 (i := 81) rfl rfl, inS (i := 78) rfl rfl⟩
theorem V12_306 : okV 12 306 1 m12_isRoom := ⟨Nat.le_of_ble_eq_true rfl, okM_m12_isRoom, ⟨by decide +kernel, by decide +kernel, by decide +kernel⟩, inT8 (i := 87) rfl rfl, inT1 (i := 13) rfl rfl, inT8 (i := 89) rfl rfl, inS (i := 79) rfl rfl⟩
theorem V12_309 : okV 12 309 1 m12_isExit := ⟨Nat.le_of_ble_eq_true rfl, okM_m12_isExit, ⟨by decide +kernel, by decide +kernel, by decide +kernel⟩, inT8 (i := 91) rfl rfl, inT1 (i := 13) rfl rfl, inT8 (i := 93) rfl rfl, inS (i := 80) rfl rfl⟩
theorem V12_312 : okV 12 312 1 m12_toursIn := ⟨Nat.le_of_ble_eq_true rfl, okM_m12_toursIn, ⟨by decide +kernel, by decide +kernel, by decide +kernel⟩, inT8 (i := 98) rfl rfl, inT1 (i := 13) rfl rfl, inT8 (i := 100) rfl rfl, inS (i := 81) rfl rfl⟩
theorem V12_315 : okV 12 315 3 m12_doorsOf := ⟨Nat.le_of_ble_eq_true rfl, okM_m12_doorsOf, ⟨by decide +kernel, by decide +kernel, by decide +kernel⟩, inT8 (i := 102) rfl rfl, inT1 (i := 13) rfl rfl, inT8 (i := 104) rfl rfl, inS (i := 82) rfl rfl⟩
theorem V12_318 : okV 12 318 1 m12_isDoor := ⟨Nat.le_of_ble_eq_true rfl, okM_m12_isDoor, ⟨by decide +kernel, by decide +kernel, by decide +kernel⟩, inT8 (i := 110) rfl rfl, inT1 (i := 13) rfl rfl, inT8 (i := 112) rfl rfl, inS (i := 83) rfl rfl⟩
theorem V12_325 : okV 12 325 0 m12_allRooms := ⟨Nat.le_of_ble_eq_true rfl, okM_m12_allRooms, ⟨by decide +kernel, by decide +kernel, by decide +kernel⟩, inT8 (i := 130) rfl rfl, inT1 (i := 13) rfl rfl, inT8 (i := 132) rfl rfl, inS (i := 85) rfl rfl⟩
theorem V12_328 : okV 12 328 1 m12_behind := ⟨Nat.le_of_ble_eq_true rfl, okM_m12_behind, ⟨by decide +kernel, by decide +kernel, by decide +kernel⟩, inT8 (i := 134) rfl rfl, inT1 (i := 13) rfl rfl, inT8 (i := 136) rfl rfl, inS (i := 86) rfl rfl⟩
theorem V12_331 : okV 12 331 2 m12_seen := ⟨Nat.le_of_ble_eq_true rfl, okM_m12_seen, ⟨by decide +kernel, by decide +kernel, by decide +kernel⟩, inT8 (i := 138) rfl rfl, inT1 (i := 13) rfl rfl, inT8 (i := 140) rfl rfl, inS (i := 87) rfl rfl⟩
theorem V12_334 : okV 12 334 0 m12_fitsNow := ⟨Nat.le_of_ble_eq_true rfl, okM_m12_fitsNow, ⟨by decide +kernel, by decide +kernel, by decide +kernel⟩, inT8 (i := 126) rfl rfl, inT1 (i := 13) rfl rfl, inT8 (i := 128) rfl rfl, inS (i := 84) rfl rfl⟩
theorem V12_340 : okV 12 340 2 m12_isKnown := ⟨Nat.le_of_ble_eq_true rfl, okM_m12_isKnown, ⟨by decide +kernel, by decide +kernel, by decide +kernel⟩, inT8 (i := 150) rfl rfl, inT1 (i := 13) rfl rfl, inT8 (i := 152) rfl rfl, inS (i := 88) rfl rfl⟩
theorem V12_343 : okV 12 343 0 m12_laysSlips := ⟨Nat.le_of_ble_eq_true rfl, okM_m12_laysSlips, ⟨by decide +kernel, by decide +kernel, by decide +kernel⟩, inT8 (i := 161) rfl rfl, inT1 (i := 13) rfl rfl, inT8 (i := 163) rfl rfl, inS (i := 89) rfl rfl⟩
theorem V12_346 : okV 12 346 2 m12_behindIn := ⟨Nat.le_of_ble_eq_true rfl, okM_m12_behindIn, ⟨by decide +kernel, by decide +kernel, by decide +kernel⟩, inT8 (i := 173) rfl rfl, inT1 (i := 13) rfl rfl, inT8 (i := 175) rfl rfl, inS (i := 91) rfl rfl⟩
theorem V12_349 : okV 12 349 2 m12_soonTo := ⟨Nat.le_of_ble_eq_true rfl, okM_m12_soonTo, ⟨by decide +kernel, by decide +kernel, by decide +kernel⟩, inT8 (i := 169) rfl rfl, inT1 (i := 13) rfl rfl, inT8 (i := 171) rfl rfl, inS (i := 90) rfl rfl⟩
theorem V12_355 : okV 12 355 0 m12_laysWays := ⟨Nat.le_of_ble_eq_true rfl, okM_m12_laysWays, ⟨by decide +kernel, by decide +kernel, by decide +kernel⟩, inT8 (i := 189) rfl rfl, inT1 (i := 13) rfl rfl, inT8 (i := 191) rfl rfl, inS (i := 92) rfl rfl⟩
theorem V12_358 : okV 12 358 1 m12_stringTo := ⟨Nat.le_of_ble_eq_true rfl, okM_m12_stringTo, ⟨by decide +kernel, by decide +kernel, by decide +kernel⟩, inT8 (i := 193) rfl rfl, inT1 (i := 13) rfl rfl, inT8 (i := 195) rfl rfl, inS (i := 93) rfl rfl⟩
theorem V12_361 : okV 12 361 1 m12_wingOf := ⟨Nat.le_of_ble_eq_true rfl, okM_m12_wingOf, ⟨by decide +kernel, by decide +kernel, by decide +kernel⟩, inT8 (i := 212) rfl rfl, inT1 (i := 13) rfl rfl, inT8 (i := 214) rfl rfl, inS (i := 94) rfl rfl⟩
theorem V12_364 : okV 12 364 1 m12_laysRounds := ⟨Nat.le_of_ble_eq_true rfl, okM_m12_laysRounds, ⟨by decide +kernel, by decide +kernel, by decide +kernel⟩, inT8 (i := 224) rfl rfl, inT1 (i := 13) rfl rfl, inT8 (i := 226) rfl rfl, inS (i := 95) rfl rfl⟩
theorem V12_367 : okV 12 367 0 m12_roundTo := ⟨Nat.le_of_ble_eq_true rfl, okM_m12_roundTo, ⟨by decide +kernel, by decide +kernel, by decide +kernel⟩, inT8 (i := 228) rfl rfl, inT1 (i := 13) rfl rfl, inT8 (i := 230) rfl rfl, inS (i := 96) rfl rfl⟩
theorem V12_373 : okV 12 373 3 m12_isMore := ⟨Nat.le_of_ble_eq_true rfl, okM_m12_isMore, ⟨by decide +kernel, by decide +kernel, by decide +kernel⟩, inT9 (i := 8) rfl rfl, inT1 (i := 13) rfl rfl, inT9 (i := 10) rfl rfl, inS (i := 98) rfl rfl⟩
theorem V12_376 : okV 12 376 3 m12_flowsTo := ⟨Nat.le_of_ble_eq_true rfl, okM_m12_flowsTo, ⟨by decide +kernel, by decide +kernel, by decide +kernel⟩, inT9 (i := 4) rfl rfl, inT1 (i := 13) rfl rfl, inT9 (i := 6) rfl rfl, inS (i := 97) rfl rfl⟩
theorem V12_390 : okV 12 390 3 m12_behindDoor := ⟨Nat.le_of_ble_eq_true rfl, okM_m12_behindDoor, ⟨by decide +kernel, by decide +kernel, by decide +kernel⟩, inT9 (i := 51) rfl rfl, inT1 (i := 13) rfl rfl, inT9 (i := 53) rfl rfl, inS (i := 100) rfl rfl⟩
theorem V12_393 : okV 12 393 3 m12_walksBy := ⟨Nat.le_of_ble_eq_true rfl, okM_m12_walksBy, ⟨by decide +kernel, by decide +kernel, by decide +kernel⟩, inT9 (i := 46) rfl rfl, inT1 (i := 13) rfl rfl, inT9 (i := 48) rfl rfl, inS (i := 99) rfl rfl⟩
theorem V12_402 : okV 12 402 3 m12_puts := ⟨Nat.le_of_ble_eq_true rfl, okM_m12_puts, ⟨by decide +kernel, by decide +kernel, by decide +kernel⟩, inT9 (i := 70) rfl rfl, inT1 (i := 13) rfl rfl, inT9 (i := 72) rfl rfl, inS (i := 102) rfl rfl⟩
theorem V12_406 : okV 12 406 2 m12_putsAll := ⟨Nat.le_of_ble_eq_true rfl, okM_m12_putsAll, ⟨by decide +kernel, by decide +kernel, by decide +kernel⟩, inT9 (i := 66) rfl rfl, inT1 (i := 13) rfl rfl, inT9 (i := 68) rfl rfl, inS (i := 101) rfl rfl⟩
