/-! THE CLAIM OUT OF ONE WALK OF THE LAW'S BODY. Your part is whole_start (and what it stands on); all else here is the same for every law, but numbers. -/
def R_law : String := "LostMuseumLaw"
def lw_P (b : Addr) (xs : List Int32) (args : Array Value) (s : State) : Prop := args = #[.ref b] ∧ s.IntsAt b xs ∧ xs.length ≤ 3584 ∧ (Jvm.Cond.and given_1 narrow_1).before args s = true
def lw_Q (_ : Array Value) (s : State) (o : Outcome) (t : State) : Prop := o = .returned (some (.int 1)) ∧ Framed s o t [] 601024 7293034
def lw_Z (below : List Frame) (a : Array Value) (s : State) : State → Prop := fun t => ∃ o, t.status = .running ∧ Ended t below o ∧ lw_Q a s o t
/-- the law's own end, with 1 on the stack, nothing written that was there before, its room as the claim has it -/
theorem lw_ret {p : Program} {l : Launch} {e : Env} {s : State} {m : MethodId} {below : List Frame} {meth : Method} {c : Code} {b : Nat} (hx : p.tables.exec = Jvm.exec) (hb : c.code = code) (hr : meth.sig.returnType = ret) (hlocks : meth.locks = false) {pc : Nat} {H : Heap} {ls : Array Slot} (hdg : decode code pc = .ok (.ireturn, 1)) : W p l e room_1 s m #[Value.ref b] below meth c H [] 601024 7293034 (lw_Z below #[Value.ref b] s) (F0 m pc ls [.int 1]) := by
  intro T hT X
  obtain ⟨fs, hret, hrun, hended, hW, hframe⟩ := X.leave (v := some (.int 1)) (hlocks := hlocks) (fun h => by rw [hr] at h; cases h)
  have hmeth' : T.vm.method? m = some meth := X.method'
  refine ⟨T.setFrames fs, ?_, .returned (some (.int 1)), hrun, hended, rfl, ⟨_, rfl⟩, hW, hframe⟩
  jvm_step X.here [X.here.top, hx, hb, hdg, hmeth', hr, ret, narrow_b1]
  (try refine ⟨rfl, ?_⟩); (try refine ⟨rfl, ?_⟩)
  first | (intro acts; rw [hret _ acts rfl rfl rfl]) | rw [hret _ _ rfl rfl rfl]
  exact Steps.refl _
/-- what holds at the law's entry: the machine, the code, the tables' words (any of lw_tbl by 'hts w (by decide +kernel)'), the script of L ints xs at the cell b, what the Statement gives of the start (any of its parts by flat_of_before) -/
def lw_At (p : Program) (s : State) (m : MethodId) (meth : Method) (c : Code) (b L : Nat) (xs : Nat → Int32) : Prop :=
  p.tables.exec = Jvm.exec ∧ c.code = code ∧ meth.sig.returnType = ret ∧ c.maxLocals = 8 ∧ s.vm.findClass R_law = some m.cls ∧ (∀ w ∈ lw_tbl, w.before #[Value.ref b] s = true) ∧ va_X b L xs s s.heap ∧ b < s.heap.size ∧ meth.locks = false ∧ (Jvm.Cond.and given_1 narrow_1).before #[Value.ref b] s = true
def adR (b L : Nat) (xs : Nat → Int32) (adK adV : Nat → Nat) (fm c : Nat) : Nat := if 5000002 ≤ c then (xs (c - 5000002)).toBitVec.toNat else if c = 5000001 then L else if c = 5000000 then b else if c = 3000000 then fm else if 2000000 ≤ c then adV (c - 2000000) else adK (c - 1000000)
theorem adR_big {b0 b L : Nat} {xs : Nat → Int32} {adK adV : Nat → Nat} {fm c : Nat} (h : 1826 ≤ c) : adF b0 (adR b L xs adK adV fm) c = adR b L xs adK adV fm c := by
  rw [adF, if_neg (by omega)]
theorem ad_s0 {b0 b L : Nat} {xs : Nat → Int32} {adK adV : Nat → Nat} {fm : Nat} : adF b0 (adR b L xs adK adV fm) 5000000 = b := by
  rw [adR_big (by decide)]; rfl
theorem ad_s1 {b0 b L : Nat} {xs : Nat → Int32} {adK adV : Nat → Nat} {fm : Nat} : adF b0 (adR b L xs adK adV fm) 5000001 = L := by
  rw [adR_big (by decide)]; rfl
theorem ad_s2 {b0 b L : Nat} {xs : Nat → Int32} {adK adV : Nat → Nat} {fm j : Nat} : Int32.ofNat (adF b0 (adR b L xs adK adV fm) (5000002 + j)) = xs j := by
  rw [adR_big (by omega), adR, if_pos (by omega), show 5000002 + j - 5000002 = j by omega]
  apply Int32.toBitVec_inj.mp
  simp
theorem ad_f {b0 b L : Nat} {xs : Nat → Int32} {adK adV : Nat → Nat} {fm : Nat} : adF b0 (adR b L xs adK adV fm) 3000000 = fm := by
  rw [adR_big (by decide)]; rfl
theorem ad_K {b0 b L : Nat} {xs : Nat → Int32} {adK adV : Nat → Nat} {fm i : Nat} (h : i < 22) : adF b0 (adR b L xs adK adV fm) (1000000 + i) = adK i := by
  rw [adR_big (by omega), adR, if_neg (by omega), if_neg (by omega), if_neg (by omega), if_neg (by omega), if_neg (by omega), show 1000000 + i - 1000000 = i by omega]
theorem ad_V {b0 b L : Nat} {xs : Nat → Int32} {adK adV : Nat → Nat} {fm i : Nat} (h : i < 22) : adF b0 (adR b L xs adK adV fm) (2000000 + i) = adV i := by
  rw [adR_big (by omega), adR, if_neg (by omega), if_neg (by omega), if_neg (by omega), if_neg (by omega), if_pos (by omega), show 2000000 + i - 2000000 = i by omega]
theorem xtra_at {s : State} {b L : Nat} {xs : Nat → Int32} {l : Launch} {D : va_G} {ar : Nat → ClassId} {adK adV : Nat → Nat} {fm : Nat} (hl : l.stackTraces = false) (hts : ∀ w ∈ lw_tbl, w.before #[Value.ref b] s = true) (hg : ∀ c ∈ fl1, c.before #[Value.ref b] s = true) (hX : va_X b L xs s s.heap) (hbl : b < s.heap.size)
    (hS0 : vk_S nTX lenT bytT adK adV (fun q => s.heap.size ≤ q) s s.heap) (hS1 : ∀ i : Nat, i < 22 → (tmT i).eval #[Value.ref b] s none [] s = some (.ref (adK i))) (hfm : va_Z "jdk/internal/util/Preconditions" "SIOOBE_FORMATTER" "Ljava/util/function/BiFunction;" .null (fun q => s.heap.size ≤ q) s s.heap ∨ va_Z "jdk/internal/util/Preconditions" "SIOOBE_FORMATTER" "Ljava/util/function/BiFunction;" (.ref fm) (fun q => s.heap.size ≤ q) s s.heap) : Xtra (l, D, ar, adF s.heap.size (adR b L xs adK adV fm)) (fun q => s.heap.size ≤ q) s s.heap := by
  have hA0 : ∀ a : Nat, a < s.heap.size → ¬ (fun q : Nat => s.heap.size ≤ q) a := fun a h q => absurd h (Nat.not_lt.mpr q)
  refine ⟨hl, vk_S_cg hS0 (fun i hi => ad_K hi) (fun i hi => ad_V hi), va_Zof (hts _ (by decide +kernel)) (hts _ (by decide +kernel)) (va_eqv (u := .int 1) (hg _ (by decide +kernel)) rfl) hA0, fun q hq => ?_, vx_Zqof (hts _ (by decide +kernel)) (hts _ (by decide +kernel)) (hg _ (by decide +kernel)) hA0, vx_Zqof (hts _ (by decide +kernel)) (hts _ (by decide +kernel)) (hg _ (by decide +kernel)) hA0, fun q hq => va_Nw.of rfl (hts _ (inTb (tm_nest q hq))), fun q hq => va_Nw.of rfl (hts _ (inTb (tm_cast q hq))), fun q hq => va_Nw.of rfl (hts _ (inTb (tm_decl q hq))), va_Nc.of (hg _ (by decide +kernel)), ?_, ⟨?_, ?_, ?_⟩, nseLaw⟩
  · obtain ⟨h1, h2, h3⟩ := tm_st q hq
    show vk_R q.1 q.2.1 q.2.2.1 (adF s.heap.size (adR b L xs adK adV fm) (1000000 + q.2.2.2)) s
    rw [ad_K h2]
    refine vk_R.of (hts _ (inTb h1)) ?_
    rcases h3 with h3 | h3
    · rw [← h3]; exact hS1 _ h2
    · exact eq_right (hg _ h3) (hS1 _ h2) ⟨_, rfl⟩
  · have e1 : adF s.heap.size (adR b L xs adK adV fm) 3000000 = fm := ad_f
    rw [← e1] at hfm
    exact hfm
  · have e3 : (fun j => Int32.ofNat (adF s.heap.size (adR b L xs adK adV fm) (5000002 + j))) = xs := funext fun j => ad_s2
    show va_X (adF s.heap.size (adR b L xs adK adV fm) 5000000) (adF s.heap.size (adR b L xs adK adV fm) 5000001) (fun j => Int32.ofNat (adF s.heap.size (adR b L xs adK adV fm) (5000002 + j))) s s.heap
    rw [ad_s0, ad_s1, e3]
    exact hX
  · show adF s.heap.size (adR b L xs adK adV fm) 5000000 < s.heap.size
    rw [ad_s0]
    exact hbl
  · show ¬ s.heap.size ≤ adF s.heap.size (adR b L xs adK adV fm) 5000000
    rw [ad_s0]
    exact Nat.not_le.mpr hbl
/-- from the entry, for every script of at most 3584 ints, the law comes to its end with true -/
theorem whole_start {p : Program} {e : Env} {s : State} {m : MethodId} {below : List Frame} {meth : Method} {c : Code} (l : Launch) (hlt : l.stackTraces = false) {b L : Nat} {xs : Nat → Int32} (hL : L ≤ 3584) (C0 : lw_At p s m meth c b L xs) : W p l e room_1 s m #[Value.ref b] below meth c s.heap [] 0 0 (lw_Z below #[Value.ref b] s) (entryFrame m ([Value.ref b] : List Value).toArray 8) := by
  obtain ⟨hx, hb, hr, hml, hown, hts, hX, hbl, hlocks, hgv⟩ := C0
  have hg : ∀ c ∈ fl1, c.before #[Value.ref b] s = true := flat_of_before _ hgv
  have hA0 : ∀ a : Nat, a < s.heap.size → ¬ (fun q : Nat => s.heap.size ≤ q) a := fun a h q => absurd h (Nat.not_lt.mpr q)
  have hW : ∀ w ∈ WD, w.before #[Value.ref b] s = true := fun w hw => hts w (List.mem_filter.mp hw).1
  obtain ⟨adK, adV, hS0, hS1⟩ := strs_at (A := fun q => s.heap.size ≤ q) hg hA0
  have hfm0 := va_Zqof (C := "jdk/internal/util/Preconditions") (n := "SIOOBE_FORMATTER") (d := "Ljava/util/function/BiFunction;") (A := fun q => s.heap.size ≤ q) (hts _ (by decide +kernel)) (hts _ (by decide +kernel)) (hg _ (by decide +kernel)) hA0
  obtain ⟨fm, hfm⟩ : ∃ fm : Nat, va_Z "jdk/internal/util/Preconditions" "SIOOBE_FORMATTER" "Ljava/util/function/BiFunction;" .null (fun q => s.heap.size ≤ q) s s.heap ∨ va_Z "jdk/internal/util/Preconditions" "SIOOBE_FORMATTER" "Ljava/util/function/BiFunction;" (.ref fm) (fun q => s.heap.size ≤ q) s s.heap := by
    rcases hfm0 with h | ⟨t, h⟩
    · exact ⟨0, Or.inl h⟩
    · exact ⟨t, Or.inr h⟩
  obtain ⟨D, ar, hK⟩ := kn_at l (adF s.heap.size (adR b L xs adK adV fm)) hts
  have hXt := xtra_at (D := D) (ar := ar) hlt hts hg hX hbl hS0 hS1 hfm
  have hCK : CxK (l, D, ar, adF s.heap.size (adR b L xs adK adV fm)) mL_law_ p s m #[Value.ref b] meth c := ⟨hx, hb, hml, hown, hW, hK, fun h => absurd h (by decide), xk_at hts⟩
  have hk := (krun_ok (g := (l, D, ar, adF s.heap.size (adR b L xs adK adV fm))) (b := s.heap.size) (a := b) 1500 6 mL_law_ 7 kS0 kS1 (by decide) krun_1).1.trans (krun_ok 1500 6 mL_law_ 23 kS1 kS2 (by decide) krun_2).1
  have hl := lv_entry ([.ref b]) (n := 8) (Nat.le_of_ble_eq_true rfl)
  rw [lg_entry_eq]
  generalize (lg_sl ([.ref b]) ++ List.replicate (8 - (lg_sl ([.ref b])).length) Slot.unset).toArray = ls at hl ⊢
  have hl0 : lvh (gb (l, D, ar, adF s.heap.size (adR b L xs adK adV fm)) s.heap.size b) 8 ls (ent 8 [.ref 1000000]) := by
    refine ⟨hl.1, hl.2.1, fun i v hv => ?_⟩
    have h9 := ent_args (adB s.heap.size b) [.ref 1000000] 8 0 i v hv
    rw [Nat.zero_add] at h9
    exact hl.2.2 _ h9
  refine hk.2 p e s m #[Value.ref b] below meth c s.heap [] (fun q => s.heap.size ≤ q) ls room_1 _ hCK (fun q h => h) (fun k q h => by simp [kS0, sqW] at h) rfl va_S.rf hl0 ⟨by decide, by decide, by decide, by decide, ?_⟩ ?_
  · show (kL1 ++ kL2).length < 1000000
    rw [kLs_len]; decide
  intro ls H locs hP hz hS hl
  have hPw : va_P D classes (wld (l, D, ar, adF s.heap.size (adR b L xs adK adV fm)) M0) H := wld_at hP
  obtain ⟨hp, M', hM⟩ := l_run (g := (l, D, ar, adF s.heap.size (adR b L xs adK adV fm))) (by show adF s.heap.size (adR b L xs adK adV fm) 5000001 ≤ 3584; rw [ad_s1]; exact hL) 515 0 d00 M0 RI00 CI00 (by omega) (by omega)
  have hR := T__law__23 (g := (l, D, ar, adF s.heap.size (adR b L xs adK adV fm))) 516 (nI 0) M0 hp
  have hM : F__law__23 (l, D, ar, adF s.heap.size (adR b L xs adK adV fm)) 516 (nI 0) M0 = .inl (some (.int 1), M') := hM
  rw [hM] at hR
  have hCF : CxF (l, D, ar, adF s.heap.size (adR b L xs adK adV fm)) mL_law_ p s m #[Value.ref b] meth c (fun q => s.heap.size ≤ q) := ⟨hx, hb, hr, hml, hown, hW, hK, wld_ap (fun q h => h), fun q h => h, hlocks, hXt⟩
  have hl1 : lvh (l, D, ar, adF s.heap.size (adR b L xs adK adV fm)) 8 ls [some (.ref 5000000), some (.ref 1558), some (.ref 0), some (.ref 1557), some (.int (nI 0)), none, none, none] := by
    refine ⟨hl.1, hl.2.1, fun i v hv => ?_⟩
    match i, hv with
    | 0, hv =>
      cases hv
      have h9 := hl.2.2 0 _ rfl
      show ls[0]? = some (.val (.ref (adF s.heap.size (adR b L xs adK adV fm) 5000000)))
      rw [ad_s0]
      exact h9
    | 1, hv =>
      cases hv
      exact hl.2.2 1 _ rfl
    | 2, hv =>
      cases hv
      exact hl.2.2 2 _ rfl
    | 3, hv =>
      cases hv
      exact hl.2.2 3 _ rfl
    | 4, hv =>
      cases hv
      exact hl.2.2 4 _ rfl
    | 5, hv => cases hv
    | 6, hv => cases hv
    | 7, hv => cases hv
    | i + 8, hv => simp at hv
  refine hR p e s m #[Value.ref b] below meth c H locs (fun q => s.heap.size ≤ q) ls room_1 _ _ 601024 7293034 _ hCF hPw hS hl1 ⟨by decide, by decide, by decide, by decide, by decide, by decide⟩ ?_
  intro pc ls H locs n1 n2 h1 h2 hS hP
  refine ⟨fun x ty hv ht hx' hd => ?_, fun x hv => (by cases hv), fun hv => (by cases hv)⟩
  cases hv
  exact va_forget (fun q hq => hS.2.2 q hq) (W.widen h1 h2 (lw_ret hx hb hr hlocks hd))
set_option maxHeartbeats 4000000 in
theorem lw_walk (l : Launch) (hlt : l.stackTraces = false) (b : Addr) (xs : List Int32) : MetFree l x (headSpec (Jvm.Cond.code x code maxLocals ret :: tables_1) room_1) (lw_P b xs) (fun _ _ _ _ _ => True) lw_Q := by
  refine MetFree.of_bodyS (code := code) (maxLocals := maxLocals) (ret := ret) (by decide) ?_ ?_
  · intro args s m h hn
    obtain ⟨meth, c, h1, h2, h3, h4, h5, h6, -, -⟩ := Cond.code_spec hn (atoms_spec (ws := Jvm.Cond.code x code maxLocals ret :: tables_1) h _ List.mem_cons_self)
    exact ⟨meth, c, h1, h2, h3, h4, h5, h6⟩
  · intro p e s m args below meth c s₁ B hml0 hP _
    obtain ⟨rfl, hx, hbd, hgv⟩ := hP
    obtain ⟨scr, harrAt, hlist, hof, hsmall⟩ := hx
    obtain ⟨hcb, hkn, -, -⟩ := State.arrayAt?_spec harrAt
    have hown : s.vm.findClass R_law = some m.cls := findClass_of_methodNamed B.named
    have hts0 : ∀ c ∈ (Jvm.Cond.code x code maxLocals ret :: tables_1), c.before #[Value.ref b] s = true := atoms_spec (ws := Jvm.Cond.code x code maxLocals ret :: tables_1) B.pre
    have hts : ∀ w ∈ lw_tbl, w.before #[Value.ref b] s = true := k2_hts_sels lw_privs (fun w hw => hts0 w (List.mem_cons_of_mem _ hw)) lw_privs_ok
    have hml : c.maxLocals = 8 := B.maxLocals_eq (hts0 _ List.mem_cons_self)
    have X₀ : Stand p l e room_1 s m #[Value.ref b] below meth c s₁ [] 0 0 := Stand.of_body B
    have hh0 : s₁.heap = s.heap := by rw [B.state]; rfl
    have hsz : scr.slots.size = xs.length := by rw [← Array.length_toList, hlist, List.length_map]
    have hval : ∀ j : Nat, j < xs.length → scr.slots[j]? = some (.int (xs.getD j 0)) := fun j hj => by
      rw [← Array.getElem?_toList, hlist]
      simp [hj]
    have hbl : b < s.heap.size := (Array.getElem?_eq_some_iff.mp hcb).1
    have hX : va_X b xs.length (fun j => xs.getD j 0) s s.heap := ⟨scr, hcb, hof, hkn, hsz, hval⟩
    have K : W p l e room_1 s m #[Value.ref b] below meth c s₁.heap [] 0 0 (lw_Z below #[Value.ref b] s) (entryFrame m ([Value.ref b] : List Value).toArray 8) := by
      rw [hh0]
      exact whole_start l hlt hbd ⟨B.exec, B.bytes, B.returns, hml, hown, hts, hX, hbl, B.notSynchronized, hgv⟩
    obtain ⟨t, a1, o, b1, b2, b3⟩ := K s₁ rfl X₀
    exact ⟨t, o, a1, b1, b2, b3⟩
theorem lw_pre_spec {args : Array Value} {s : State} (h : (Jvm.Cond.and given_1 narrow_1).before args s = true) (hr : rest_1_c.before args s = true) : ∃ (b : Addr) (xs : List Int32), lw_P b xs args s := by
  have hs := flat_of_before _ h
  have hq := flat_of_before _ hr
  have hc : (Cond.count 1).before args s = true := hs _ (by decide +kernel)
  have harr : (Cond.arrayOf (.arg 0) .int).before args s = true := hs _ (by decide +kernel)
  have hle : (Cond.le (.length (.arg 0)) (.int 3584)).before args s = true := hs _ (by decide +kernel)
  have hlen : (Cond.isInt (.length (.arg 0))).before args s = true := hq _ (by decide +kernel)
  have hall : (Cond.all (.arg 0) (.isInt (.elem (.arg 0) (.index 0)))).before args s = true := hq _ (by decide +kernel)
  obtain ⟨b, xs, hb, hx⟩ := State.ints_of_pre rfl harr hlen hall
  have hsm : xs.length < 2 ^ 31 := hx.choose_spec.2.2.2
  have hev : (Term.length (.arg 0)).eval args s none [] s = some (.int xs.length.toInt32) := hx.length_eval hb
  have hv := Cond.le_ints hev (show (Term.int 3584).eval args s none [] s = some (.int 3584) from rfl)
  have hd : xs.length.toInt32 ≤ 3584 := by
    simpa [Cond.before, Cond.holds, hv] using hle
  have hN : xs.length ≤ 3584 := (Int32.ofNat_le_ofNat hsm (by decide)).mp (show Int32.ofNat xs.length ≤ Int32.ofNat 3584 from hd)
  exact ⟨b, xs, Cond.one_arg hc (show args[0]? = some (.ref b) from hb), hx, hN, h⟩
theorem lw_comes (l : Launch) (hlt : l.stackTraces = false) : Comes l x (Jvm.Cond.code x code maxLocals ret :: tables_1) room_1 (fun tb e args s => Calls_1 tb e args s ∧ rest_1 tb e args s ∧ Pre_1 tb e args s)
    (fun _ _ args s o t => lw_Q args s o t) := by
  intro p e ha hc hk s m args below hf hfit hheap happ hpre
  obtain ⟨b, xs, hP⟩ := lw_pre_spec hpre.2.2 hpre.2.1
  obtain ⟨k, o, h1, h2, h3, hQ⟩ := lw_walk l hlt b xs p e ha hc hk s m args below hf ((Spec.applies_iff_loose hf).mp happ).1 hP trivial
  exact ⟨k, o, h1, h2, h3, hQ⟩
theorem lw_frame {s t : State} {o : Outcome} {args : Array Value} (h : Framed s o t [] 601024 7293034) :
    Framed s o t (fieldLocs frame_1_writes args s ++ arrayLocs frame_1_arrays args s ++ staticLocs frame_1_statics s) 601024 7293034 := h
theorem lw_limb (L : Cond) (hL : ∀ (args : Array Value) (s t : State), L.after args s (.returned (some (.int 1))) t = true) :
    ArmFor flags0 classFile x code maxLocals ret World_1 tables_1 room_1 Calls_1 rest_1 Pre_1
      (fun tb e a s o t => postC L tb e a s o t ∧ Framed s o t (fieldLocs frame_1_writes a s ++ arrayLocs frame_1_arrays a s ++ staticLocs frame_1_statics s) 601024 7293034) := by
  intro l hfl _ _ p e ha hc hk s m args below hf hfit hheap happ hpre
  have hlt : l.stackTraces = false := by
    unfold Launch.stackTraces
    rw [hfl]
    decide
  obtain ⟨k, o, h1, h2, h3, rfl, hF⟩ := lw_comes l hlt p e ha hc hk s m args below hf hfit hheap happ hpre
  exact ⟨k, _, h1, h2, h3, hL args s _, lw_frame hF⟩
theorem i_vc : Claimed_1_1 ∧ Claimed_1_2 := ⟨lw_limb limb_1_1 (fun args s t => by simp [limb_1_1, Cond.after, Cond.holds, Cond.value]), lw_limb limb_1_2 (fun args s t => Cond.after_iff.mpr (by
  first | (rw [show limb_1_2 = Cond.eq .result (.int 1) from rfl, Cond.eq_ints (x := 1) (y := 1) rfl rfl]; simp; done) | (simp [limb_1_2, Cond.value, Term.eval]; done)))⟩
