/-! THE START'S WORDS: texts, classes, what no method changes -/
def tmL : List (String × Nat) := [("LostMuseum", 373), ("LostMuseum$Plan", 88), ("LostMuseum$Plan", 98), ("LostMuseum$Plan", 103), ("LostMuseum$Plan", 108), ("LostMuseum$Plan", 113), ("LostMuseum$Law", 98), ("LostMuseum$Law", 104), ("LostMuseum$Law", 106), ("LostMuseum$Law", 110), ("LostMuseum$Law", 112), ("LostMuseum$Law", 114), ("LostMuseum$Law", 116), ("LostMuseum$Law", 118), ("LostMuseum$Law", 120), ("LostMuseum$Work", 60), ("LostMuseum$Work", 70), ("LostMuseum$Work", 75), ("LostMuseum$Work", 83), ("LostMuseum", 376), ("LostMuseum", 378), ("LostMuseum", 263)]
def tmT (i : Nat) : Term := .string (tmL.getD i ("", 0)).1 (tmL.getD i ("", 0)).2
def fl1 : List Cond := flatC (Jvm.Cond.and given_1 narrow_1)
def ixE : List Nat := [71, 91, 100, 110, 121, 133, 148, 162, 177, 209, 227, 244, 264, 285, 308, 331, 353, 377, 431, 460, 497, 535]
def ixC : List Nat := [72, 92, 101, 111, 122, 134, 149, 163, 178, 210, 228, 245, 265, 286, 309, 332, 354, 378, 432, 461, 498, 536]
def ixA : List Nat := [73, 93, 102, 112, 123, 135, 150, 164, 179, 211, 229, 246, 266, 287, 310, 333, 355, 379, 433, 462, 499, 537]
def ixL : List Nat := [74, 94, 103, 113, 124, 136, 151, 165, 180, 212, 230, 247, 267, 288, 311, 334, 356, 380, 434, 463, 500, 538]
def ixB : List (List Nat) := [[75, 76, 77, 78, 79, 80, 81, 82, 83, 84, 85, 86, 87, 88, 89, 90], [95, 96, 97, 98], [104, 105, 106, 107], [114, 115, 116, 117], [125, 126, 127, 128], [137, 138, 139, 140, 141, 142], [152, 153, 154, 155], [166, 167, 168, 169], [181, 182, 183], [213, 214, 215, 216], [231, 232], [248, 249, 250, 251], [268, 269, 270, 271], [289, 290, 291, 292, 293], [312, 313, 314, 315], [335, 336], [357, 358, 359], [381, 382, 383, 384, 385], [435, 436, 437, 438, 439], [464, 465, 466, 467, 468, 469, 470, 471, 472, 473, 474, 475], [501, 502, 503, 504, 505, 506, 507, 508, 509, 510, 511, 512], [539, 540, 541, 542, 543, 544, 545, 546, 547, 548, 549, 550]]
def ixN : List (List Nat) := [[], [99], [108, 109], [118, 119, 120], [129, 130, 131, 132], [143, 144, 145, 146, 147], [156, 157, 158, 159, 160, 161], [170, 171, 172, 173, 174, 175, 176], [184, 185, 186, 187, 188, 189, 190, 191], [217, 218, 219, 220, 221, 222, 223, 224, 225], [233, 234, 235, 236, 237, 238, 239, 240, 241, 243], [252, 253, 254, 255, 256, 257, 258, 259, 260, 262, 263], [272, 273, 274, 275, 276, 277, 278, 279, 280, 282, 283, 284], [294, 295, 296, 297, 298, 299, 300, 301, 302, 304, 305, 306, 307], [316, 317, 318, 319, 320, 321, 322, 323, 324, 326, 327, 328, 329, 330], [337, 338, 339, 340, 341, 342, 343, 344, 345, 347, 348, 349, 350, 351, 352], [360, 361, 362, 363, 364, 365, 366, 367, 368, 370, 371, 372, 373, 374, 375, 376], [386, 387, 388, 389, 390, 391, 392, 393, 394, 396, 397, 398, 399, 400, 401, 402, 403], [440, 441, 442, 443, 444, 445, 446, 447, 448, 450, 451, 452, 453, 454, 455, 456, 457, 458], [476, 477, 478, 479, 480, 481, 482, 483, 484, 486, 487, 488, 489, 490, 491, 492, 493, 494, 496], [513, 514, 515, 516, 517, 518, 519, 520, 521, 523, 524, 525, 526, 527, 528, 529, 530, 531, 533, 534], [551, 552, 553, 554, 555, 556, 557, 558, 559, 561, 562, 563, 564, 565, 566, 567, 568, 569, 571, 572, 573]]
theorem tm_ex0 : ∀ i, i < 22 → fl1[ixE.getD i 0]? = some (Cond.exactly (tmT i) "java/lang/String") := by decide +kernel
theorem tm_co0 : ∀ i, i < 22 → fl1[ixC.getD i 0]? = some (Cond.eq (.field (tmT i) "java/lang/String" "coder" "B") (.int 0)) := by decide +kernel
theorem tm_ar0 : ∀ i, i < 22 → fl1[ixA.getD i 0]? = some (Cond.arrayOf (.field (tmT i) "java/lang/String" "value" "[B") .byte) := by decide +kernel
theorem tm_le0 : ∀ i, i < 22 → fl1[ixL.getD i 0]? = some (Cond.eq (.length (.field (tmT i) "java/lang/String" "value" "[B")) (.int (Int32.ofNat (lenT.getD i 0)))) := by decide +kernel
theorem tm_el0 : ∀ i, i < 22 → ∀ j, j < lenT.getD i 0 → fl1[(ixB.getD i []).getD j 0]? = some (Cond.eq (.elem (.field (tmT i) "java/lang/String" "value" "[B") (.int (Int32.ofNat j))) (.int ((bytT.getD i []).getD j 0))) := by decide +kernel
theorem tm_ne0 : ∀ i, i < 22 → ∀ j, j < i → fl1[(ixN.getD i []).getD j 0]? = some (Cond.not (Cond.eq (tmT j) (tmT i))) := by decide +kernel
theorem tm_ex (i : Nat) (h : i < 22) : Cond.exactly (tmT i) "java/lang/String" ∈ fl1 := List.mem_of_getElem? (tm_ex0 i h)
theorem tm_co (i : Nat) (h : i < 22) : Cond.eq (.field (tmT i) "java/lang/String" "coder" "B") (.int 0) ∈ fl1 := List.mem_of_getElem? (tm_co0 i h)
theorem tm_ar (i : Nat) (h : i < 22) : Cond.arrayOf (.field (tmT i) "java/lang/String" "value" "[B") .byte ∈ fl1 := List.mem_of_getElem? (tm_ar0 i h)
theorem tm_le (i : Nat) (h : i < 22) : Cond.eq (.length (.field (tmT i) "java/lang/String" "value" "[B")) (.int (Int32.ofNat (lenT.getD i 0))) ∈ fl1 := List.mem_of_getElem? (tm_le0 i h)
theorem tm_el (i : Nat) (h : i < 22) (j : Nat) (hj : j < lenT.getD i 0) : Cond.eq (.elem (.field (tmT i) "java/lang/String" "value" "[B") (.int (Int32.ofNat j))) (.int ((bytT.getD i []).getD j 0)) ∈ fl1 := List.mem_of_getElem? (tm_el0 i h j hj)
theorem tm_ne (i : Nat) (h : i < 22) (j : Nat) (hj : j < i) : Cond.not (Cond.eq (tmT j) (tmT i)) ∈ fl1 := List.mem_of_getElem? (tm_ne0 i h j hj)
theorem tm_nN : ∀ i, i < 22 → lenT.getD i 0 < 2 ^ 31 := by decide +kernel
theorem tm_st : ∀ q ∈ strT, Cond.stringRef q.1 q.2.1 q.2.2.1 ∈ tables_1 ∧ q.2.2.2 < 22 ∧ (tmT q.2.2.2 = .string q.1 q.2.1 ∨ Cond.eq (tmT q.2.2.2) (.string q.1 q.2.1) ∈ fl1) := by decide +kernel
theorem tm_nest : ∀ q ∈ nestT, Cond.methodLinkNest q.1 q.2.1 q.2.2.1 q.2.2.2 ∈ tables_1 := by decide +kernel
theorem tm_cast : ∀ q ∈ castT, Cond.castable q.1 q.2 ∈ tables_1 := by decide +kernel
theorem tm_decl : ∀ q ∈ declT, Cond.declares q ∈ tables_1 := by decide +kernel
theorem eq_right {args : Array Value} {s : State} {t u : Term} {v : Value} (h : (Cond.eq t u).before args s = true) (ht : t.eval args s none [] s = some v) (hv : ∃ a, v = .ref a) : u.eval args s none [] s = some v := by
  obtain ⟨a, rfl⟩ := hv
  cases hu : u.eval args s none [] s with
  | none => simp [Cond.before, Cond.holds, Cond.value, ht, hu] at h
  | some w =>
    have h2 := va_eqv h hu
    rw [ht] at h2
    exact h2.symm
theorem insOK {ci : Nat} (h : ci < 13) : Cond.instantiable (ownN ci) (nfl ci) ∈ WD := by
  match ci, h with
  | 0, _ => exact (nw_ok (o := 11) (i := 90) (ci := 0) (by decide)).2.2.1
  | 1, _ => exact (nw_ok (o := 11) (i := 81) (ci := 1) (by decide)).2.2.1
  | 2, _ => exact (nw_ok (o := 11) (i := 51) (ci := 2) (by decide)).2.2.1
  | 3, _ => exact (nw_ok (o := 11) (i := 108) (ci := 3) (by decide)).2.2.1
  | 4, _ => exact (nw_ok (o := 11) (i := 41) (ci := 4) (by decide)).2.2.1
  | 5, _ => exact (nw_ok (o := 11) (i := 32) (ci := 5) (by decide)).2.2.1
  | 6, _ => exact (nw_ok (o := 11) (i := 115) (ci := 6) (by decide)).2.2.1
  | 7, _ => exact (nw_ok (o := 8) (i := 9) (ci := 7) (by decide)).2.2.1
  | 8, _ => exact (nw_ok (o := 11) (i := 65) (ci := 8) (by decide)).2.2.1
  | 9, _ => exact (nw_ok (o := 11) (i := 99) (ci := 9) (by decide)).2.2.1
  | 10, _ => exact (nw_ok (o := 11) (i := 58) (ci := 10) (by decide)).2.2.1
  | 11, _ => exact (nw_ok (o := 16) (i := 8) (ci := 11) (by decide)).2.2.1
  | 12, _ => exact (nw_ok (o := 16) (i := 115) (ci := 12) (by decide)).2.2.1
theorem aoi_spec {args : Array Value} {s : State} (h : (Cond.arrayOver (.array .int)).before args s = true) : ∃ comp c k, s.vm.findClass (FieldType.array .int).toString = some comp ∧ s.vm.classes[c]? = some k ∧ k.kind = .array comp (.array .int) ∧ s.vm.findClass ("[" ++ (FieldType.array .int).toString) = some c := by
  simp only [Cond.before, Cond.holds, Cond.value, beq_iff_eq] at h
  cases hc : s.vm.findClass (FieldType.array .int).toString with
  | none => simp [hc] at h
  | some comp =>
    simp only [hc, Option.bind_some, Option.bind_eq_some_iff, Option.map_eq_some_iff] at h
    obtain ⟨c, hi, k, hk, hb⟩ := h
    obtain ⟨hlt, hp, -⟩ := Array.findIdx?_eq_some_iff_getElem.mp hi
    have hkk : s.vm.classes[c] = k := (Array.getElem?_eq_some_iff.mp hk).2
    rw [hkk] at hp
    cases hkind : k.kind with
    | array component ty =>
      rw [hkind] at hb hp
      simp at hb hp
      exact ⟨comp, c, k, rfl, hk, by rw [hkind, hp, hb.1], hb.2⟩
    | _ => rw [hkind] at hb; simp at hb
theorem prim_arr {args : Array Value} {s : State} {ty : FieldType} (h : (Cond.arrayClass ty).before args s = true) : ∃ c : ClassId, ArrOfT s c ty ∧ s.vm.findClass ("[" ++ ty.toString) = some c := by
  obtain ⟨c, k, comp, h1, h2, h3⟩ := Cond.arrayClass_spec h
  exact ⟨c, fun N z => ⟨(fun k h => by cases h), k, h2, comp, h3⟩, h1⟩
theorem obj_arr {args : Array Value} {s : State} {C : String} (h : (Cond.arrayOver (.object C)).before args s = true) : ∃ c : ClassId, ArrOfT s c (.object C) ∧ va_RA s c (.object C) := by
  obtain ⟨comp, c, k, h1, h2, h3, h4, h5⟩ := Cond.arrayOver_spec h
  exact ⟨c, fun N z => ⟨(fun k h => by cases h), k, h3, comp, h4⟩, k, comp, h3, h4, h1, h5⟩
theorem inTb {w : Cond} (h : w ∈ tables_1) : w ∈ lw_tbl := List.mem_append_right _ h
/-- the classes and the array classes, as the tables have them -/
theorem kn_at {args : Array Value} {s : State} (l : Launch) (ad : Nat → Nat) (hts : ∀ w ∈ lw_tbl, w.before args s = true) : ∃ (D : va_G) (ar : Nat → ClassId), va_K D classes (tyG (l, D, ar, ad)) s := by
  have hW : ∀ w ∈ WD, w.before args s = true := fun w hw => hts w (List.mem_filter.mp hw).1
  have h : ∀ ci : Nat, ∃ q : ClassId × (Nat → Nat), ∀ r : vw_C, classes[ci]? = some r → u_Kn s r.1 r.2.1 r.2.2 q.1 q.2 := by
    intro ci
    cases hc : classes[ci]? with
    | none => exact ⟨(0, fun _ => 0), fun r hr => by cases hr⟩
    | some r =>
      obtain ⟨C, T, N⟩ := r
      obtain ⟨q1, q2, -, -, -, q6⟩ := clsOK hc
      have hi := hW _ (insOK (clsOK2 hc).2.2.2)
      rw [q6] at hi
      obtain ⟨cC, iS, hK⟩ := u_known (C := C) (T := T) (N := N) hW q1 hi
      exact ⟨(cC, iS), fun r hr => by cases hr; exact hK⟩
  obtain ⟨f, hf⟩ := Classical.axiomOfChoice h
  obtain ⟨a1, b1, c1⟩ := prim_arr (hts _ (inTb (w := Cond.arrayClass .int) (List.mem_of_getElem? (i := 165) (by decide +kernel))))
  obtain ⟨a2, b2, c2⟩ := prim_arr (hts _ (inTb (w := Cond.arrayClass .byte) (List.mem_of_getElem? (i := 75) (by decide +kernel))))
  obtain ⟨a3, b3, c3⟩ := prim_arr (hts _ (inTb (w := Cond.arrayClass .boolean) (List.mem_of_getElem? (i := 367) (by decide +kernel))))
  obtain ⟨a4, b4, c4⟩ := prim_arr (hts _ (inTb (w := Cond.arrayClass .long) (List.mem_of_getElem? (i := 334) (by decide +kernel))))
  obtain ⟨p5, a5, k5, d5, e5, f5, c5⟩ := aoi_spec (hts _ (inTb (w := Cond.arrayOver (.array .int)) (List.mem_of_getElem? (i := 1405) (by decide +kernel))))
  obtain ⟨a6, b6, c6⟩ := obj_arr (hts _ (inTb (w := Cond.arrayOver (.object "LostMuseum$State")) (List.mem_of_getElem? (i := 265) (by decide +kernel))))
  obtain ⟨a7, b7, c7⟩ := obj_arr (hts _ (inTb (w := Cond.arrayOver (.object "LostMuseum$Timeline")) (List.mem_of_getElem? (i := 278) (by decide +kernel))))
  refine ⟨(fun ci => (f ci).1, fun ci => (f ci).2), fun k => [0, a1, a2, a3, a4, a5, a6, a7].getD k 0, fun ci q hq => hf ci q hq, fun k q hk => ?_⟩
  match k, hk with
  | 0, hk => cases hk; exact ⟨b1, c1⟩
  | 1, hk => cases hk; exact ⟨b2, c2⟩
  | 2, hk => cases hk; exact ⟨b3, c3⟩
  | 3, hk => cases hk; exact ⟨b4, c4⟩
  | 4, hk => cases hk; exact ⟨fun N z => ⟨(fun k h => by cases h), k5, e5, p5, f5⟩, c5⟩
  | 5, hk => cases hk; exact ⟨b6, c6⟩
  | 6, hk => cases hk; exact ⟨b7, c7⟩
  | k + 7, hk => simp [tyG] at hk
theorem xk_at {args : Array Value} {s : State} (hts : ∀ w ∈ lw_tbl, w.before args s = true) : XK s :=
  ⟨fun q hq => va_Nw.of rfl (hts _ (inTb (tm_nest q hq))), va_AO.of (hts _ (inTb (List.mem_of_getElem? (i := 265) (by decide +kernel)))), va_AO.of (hts _ (inTb (List.mem_of_getElem? (i := 278) (by decide +kernel)))), hts (Cond.arrayOver (.array .int)) (inTb (List.mem_of_getElem? (i := 1405) (by decide +kernel)))⟩
theorem strs_at {args : Array Value} {s : State} {A : Nat → Prop} (hgv : ∀ c ∈ fl1, c.before args s = true) (hA : ∀ a : Nat, a < s.heap.size → ¬ A a) : ∃ adK adV : Nat → Nat, vk_S nTX lenT bytT adK adV A s s.heap ∧ ∀ i : Nat, i < 22 → (tmT i).eval args s none [] s = some (.ref (adK i)) :=
  vk_Sof (N := 22) tm_nN (fun i hi => hgv _ (tm_ex i hi)) (fun i hi => hgv _ (tm_co i hi)) (fun i hi => hgv _ (tm_ar i hi)) (fun i hi => hgv _ (tm_le i hi)) (fun i hi j hj => hgv _ (tm_el i hi j hj)) (fun i j hi hj hne => by
    rcases Nat.lt_or_gt_of_ne hne with h | h
    · exact Or.inl (hgv _ (tm_ne j hj i h))
    · exact Or.inr (hgv _ (tm_ne i hi j h))) hA
theorem vk_S_cg {N : Nat} {len : List Nat} {byt : List (List Int32)} {adK adV aK aV : Nat → Nat} {A : Nat → Prop} {U : State} {H : Heap} (h : vk_S N len byt adK adV A U H) (h1 : ∀ i, i < N → aK i = adK i) (h2 : ∀ i, i < N → aV i = adV i) : vk_S N len byt aK aV A U H :=
  ⟨fun i hi => by rw [h1 i hi, h2 i hi]; exact h.1 i hi, fun i j hi hj e => h.2 i j hi hj (by rw [← h1 i hi, ← h1 j hj]; exact e)⟩
