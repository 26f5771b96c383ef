/-! MATHEMATICS 3: what the memory shows: a plan u, a state s, a law L, a walk w -/
abbrev MU : Type := Nat × Nat × Nat × Int32 × (Nat → Nat) × (Nat → Nat) × (Nat → Nat) × (Nat → Nat) × (Nat → Nat) × (Nat → Nat)
def uN (u : MU) : Nat := u.1
def uM (u : MU) : Nat := u.2.1
def uT (u : MU) : Nat := u.2.2.1
def uX (u : MU) : Int32 := u.2.2.2.1
def uF (u : MU) : Nat → Nat := u.2.2.2.2.1
def uG (u : MU) : Nat → Nat := u.2.2.2.2.2.1
def uO (u : MU) : Nat → Nat := u.2.2.2.2.2.2.1
def uS (u : MU) : Nat → Nat := u.2.2.2.2.2.2.2.1
def uE (u : MU) : Nat → Nat := u.2.2.2.2.2.2.2.2.1
def uL (u : MU) : Nat → Nat := u.2.2.2.2.2.2.2.2.2
def UW (u : MU) : Prop := uN u ≤ 10 ∧ uM u ≤ 24 ∧ uT u ≤ 6 ∧ (∀ i, uN u ≤ i → bt (uX u) i = false) ∧ (∀ d, d < uM u → uF u d < uN u ∧ uG u d < uN u ∧ uF u d ≠ uG u d ∧ uO u d ≤ uS u d ∧ uS u d < 24) ∧ (∀ r, r < uN u → uE u r < 8 ∧ uL u r ≤ 16)
abbrev SU : Type := Nat × Int32 × (Nat → Bool) × (Nat → Int32) × (Nat → Nat)
def sH (s : SU) : Nat := s.1
def sM (s : SU) : Int32 := s.2.1
def sB (s : SU) : Nat → Bool := s.2.2.1
def sU (s : SU) : Nat → Int32 := s.2.2.2.1
def sP (s : SU) : Nat → Nat := s.2.2.2.2
def SW (u : MU) (s : SU) : Prop := sH s ≤ 960 ∧ ∀ t, t < uT u → sP s t < uN u
/-- the reference's plan -/
def RP (u : MU) (M : Mem) : Prop := UW u ∧ rd M 4 0 = nI (uN u) ∧ rd M 4 1 = nI (uM u) ∧ rd M 4 2 = nI (uT u) ∧ rd M 4 3 = uX u ∧ (∀ d, d < uM u → rd M (54 + d) 0 = nI (uF u d) ∧ rd M (54 + d) 1 = nI (uG u d) ∧ rd M (54 + d) 2 = nI (uO u d) ∧ rd M (54 + d) 3 = nI (uS u d)) ∧ (∀ r, r < uN u → rd M 6 r = nI (uE u r) ∧ rd M 8 r = nI (uL u r))
/-- a row of the reference: a state -/
def RR (u : MU) (s : SU) (f : Nat → Int32) : Prop := SW u s ∧ (∀ t, t < uT u → f t = nI (sP s t)) ∧ (∀ d, d < uM u → f (6 + d) = if sB s d = true then 1 else 0) ∧ (∀ d, d < uM u → f (30 + d) = sU s d) ∧ f 54 = sM s ∧ f 55 = nI (sH s)
/-- the class's plan, its cells from c on -/
def CP (c : Nat) (u : MU) (M : Mem) : Prop := UW u ∧ rd M c 0 = nI (uN u) ∧ rd M c 1 = nI (uM u) ∧ rd M c 2 = nI (uT u) ∧ rd M c 3 = uX u ∧ (∀ d, d < uM u → rd M (c + 6) d = nI (uF u d) ∧ rd M (c + 7) d = nI (uG u d) ∧ rd M (c + 8) d = nI (uO u d) ∧ rd M (c + 9) d = nI (uS u d)) ∧ (∀ r, r < uN u → rd M (c + 1) r = nI (uE u r) ∧ rd M (c + 2) r = nI (uL u r) ∧ (∀ d, bt (rd M (c + 3) r) d = (decide (d < uM u) && decide (uF u d = r))) ∧ (∀ d, bt (rd M (c + 4) r) d = (decide (d < uM u) && decide (uG u d = r)))) ∧ (∀ v, v < 8 → ∀ r, bt (rd M (c + 5) v) r = (decide (r < uN u) && decide (uE u r = v)))
/-- the class's state, its cells from c on -/
def CR (c : Nat) (u : MU) (s : SU) (M : Mem) : Prop := SW u s ∧ rd M c 0 = nI (sH s) ∧ rd M c 1 = sM s ∧ (∀ d, bt (rd M c 2) d = (decide (d < uM u) && sB s d)) ∧ (∀ d, d < uM u → rd M (c + 1) d = sU s d) ∧ (∀ d, uM u ≤ d → d < 24 → rd M (c + 1) d = 0) ∧ (∀ t, t < uT u → rd M (c + 2) t = nI (sP s t))
/-! the law -/
def jn (c a b : Int32) : Int32 := F_2_join_0 z0 c a b
def ap2 (c : Int32) : List Int32 → List Int32
  | b :: a :: r => jn c a b :: r
  | st => st
def stpL (kn : Nat → Int32) (c : Int32) (st : List Int32) : List Int32 := if c ≤ -9 then ap2 c st else if c < 0 then kn (-1 - c).toNatClampNeg :: st else c :: st
def ev (kn : Nat → Int32) : List Int32 → List Int32 → Int32
  | [], st => st.headD 0
  | c :: cs, st => ev kn cs (stpL kn c st)
theorem ev_j (kn : Nat → Int32) {c : Int32} (cs : List Int32) (b a : Int32) (r : List Int32) (h : c ≤ -9) : ev kn (c :: cs) (b :: a :: r) = ev kn cs (jn c a b :: r) := by rw [ev, stpL, if_pos h]; rfl
theorem ev_k (kn : Nat → Int32) {c : Int32} (cs st : List Int32) (h : ¬ c ≤ -9) (h0 : c < 0) : ev kn (c :: cs) st = ev kn cs (kn (-1 - c).toNatClampNeg :: st) := by rw [ev, stpL, if_neg h, if_pos h0]
theorem ev_n (kn : Nat → Int32) {c : Int32} (cs st : List Int32) (h : ¬ c ≤ -9) (h0 : ¬ c < 0) : ev kn (c :: cs) st = ev kn cs (c :: st) := by rw [ev, stpL, if_neg h, if_neg h0]
/-- six that are open hold three values each at most -/
def okCode : List Int32 → Nat → Prop
  | [], h => h = 1
  | c :: cs, h => (-15 ≤ c ∧ c ≤ 999) ∧ (c ≤ -9 → 2 ≤ h ∧ okCode cs (h - 1)) ∧ (¬ c ≤ -9 → h < 48 ∧ okCode cs (h + 1))
def prC (c : Int32) : Int32 × Int32 := if c = -9 then (7, 0) else if c = -10 then (8, 0) else if c ≤ -9 then (-9 - c, 0) else if c < 0 then (1, -1 - c) else (0, c)
def LW (L : List Int32) : Prop := L.length ≤ 150 ∧ okCode L 0
def CL (L : List Int32) (M : Mem) : Prop := LW L ∧ rd M 1583 3 = nI L.length ∧ ∀ i, i < L.length → rd M 1584 i = L.getD i 0
def RL (L : List Int32) (M : Mem) : Prop := LW L ∧ ((rd M 0 21 = 0 ∧ L = [-1]) ∨ (0 < L.length ∧ rd M 0 21 = nI L.length ∧ ∀ i, i < L.length → rd M (78 + i) 0 = (prC (L.getD i 0)).1 ∧ rd M (78 + i) 1 = (prC (L.getD i 0)).2))
/-- what a law may ask, for a door at an hour -/
def kn (u : MU) (s : SU) (d h : Nat) (k : Nat) : Int32 := match k with
  | 0 => if uO u d ≤ h % 24 ∧ h % 24 ≤ uS u d then 1 else 0
  | 1 => nI (h % 24)
  | 2 => nI (h / 24)
  | 3 => nI d
  | 4 => nI (uF u d)
  | 5 => nI (uG u d)
  | 6 => nI (uE u (uG u d))
  | _ => sU s d
def opn (u : MU) (s : SU) (L : List Int32) (d h : Nat) : Bool := !sB s d && decide (0 < ev (kn u s d h) L [])
/-! a walk -/
abbrev WU : Type := Nat × (Nat → Nat)
def WW (w : WU) : Prop := w.1 ≤ 12 ∧ ∀ k, k < w.1 → w.2 k < 8
def RK (w : WU) (M : Mem) : Prop := WW w ∧ rd M 0 35 = nI w.1 ∧ ∀ k, k < w.1 → rd M 17 k = nI (w.2 k)
def CK (w : WU) (M : Mem) : Prop := WW w ∧ rd M 1592 7 = nI w.1 ∧ ∀ k, k < w.1 → rd M 1593 k = nI (w.2 k)
/-! keeping -/
theorem RP.k {p : Nat → Nat → Prop} {u : MU} {M M' : Mem} (h : RP u M) (hk : Kp p M M') (hp : ∀ c j, p c j → c ≠ 4 ∧ ¬ (54 ≤ c ∧ c < 78) ∧ c ≠ 6 ∧ c ≠ 8) : RP u M' := by
  have g4 : ∀ j, rd M' 4 j = rd M 4 j := fun j => hk.g (fun z => (hp _ _ z).1 rfl)
  have g6 : ∀ j, rd M' 6 j = rd M 6 j := fun j => hk.g (fun z => (hp _ _ z).2.2.1 rfl)
  have g8 : ∀ j, rd M' 8 j = rd M 8 j := fun j => hk.g (fun z => (hp _ _ z).2.2.2 rfl)
  have hM := h.1.2.1
  obtain ⟨h0, h1, h2, h3, h4, h5, h6⟩ := h
  refine ⟨h0, by rw [g4]; exact h1, by rw [g4]; exact h2, by rw [g4]; exact h3, by rw [g4]; exact h4, fun d hd => ?_, fun r hr => ?_⟩
  · have gd : ∀ j, rd M' (54 + d) j = rd M (54 + d) j := fun j => hk.g (fun z => (hp _ _ z).2.1 ⟨by omega, by omega⟩)
    rw [gd, gd, gd, gd]
    exact h5 d hd
  · rw [g6, g8]
    exact h6 r hr
theorem Kp.row {p : Nat → Nat → Prop} {M M' : Mem} (hk : Kp p M M') {c : Nat} (hp : ∀ j, ¬ p c j) : rd M' c = rd M c := funext (fun j => hk.g (hp j))
theorem CP.k {p : Nat → Nat → Prop} {c : Nat} {u : MU} {M M' : Mem} (h : CP c u M) (hk : Kp p M M') (hp : ∀ a j, p a j → a < c ∨ c + 9 < a) : CP c u M' := by
  have g : ∀ i, i ≤ 9 → ∀ j, rd M' (c + i) j = rd M (c + i) j := fun i hi j => hk.g (fun z => by have := hp _ _ z; omega)
  have g0 : ∀ j, rd M' c j = rd M c j := fun j => g 0 (by omega) j
  obtain ⟨h0, h1, h2, h3, h4, h5, h6, h7⟩ := h
  refine ⟨h0, by rw [g0]; exact h1, by rw [g0]; exact h2, by rw [g0]; exact h3, by rw [g0]; exact h4, fun d hd => ?_, fun r hr => ?_, fun v hv r => ?_⟩
  · rw [g 6 (by omega), g 7 (by omega), g 8 (by omega), g 9 (by omega)]
    exact h5 d hd
  · rw [g 1 (by omega), g 2 (by omega), g 3 (by omega), g 4 (by omega)]
    exact h6 r hr
  · rw [g 5 (by omega)]
    exact h7 v hv r
theorem CR.k {p : Nat → Nat → Prop} {c : Nat} {u : MU} {s : SU} {M M' : Mem} (h : CR c u s M) (hk : Kp p M M') (hp : ∀ a j, p a j → a < c ∨ c + 2 < a) : CR c u s M' := by
  have g : ∀ i, i ≤ 2 → rd M' (c + i) = rd M (c + i) := fun i hi => hk.row (fun j z => by have := hp _ _ z; omega)
  have g0 : rd M' c = rd M c := g 0 (by omega)
  unfold CR
  rw [g0, g 1 (by omega), g 2 (by omega)]
  exact h
theorem CL.k {p : Nat → Nat → Prop} {L : List Int32} {M M' : Mem} (h : CL L M) (hk : Kp p M M') (hp : ∀ a j, p a j → a ≠ 1583 ∧ a ≠ 1584) : CL L M' := by
  have g1 : rd M' 1583 = rd M 1583 := hk.row (fun j z => (hp _ _ z).1 rfl)
  have g2 : rd M' 1584 = rd M 1584 := hk.row (fun j z => (hp _ _ z).2 rfl)
  unfold CL
  rw [g1, g2]
  exact h
theorem RL.k {p : Nat → Nat → Prop} {L : List Int32} {M M' : Mem} (h : RL L M) (hk : Kp p M M') (hp : ∀ a j, p a j → ¬ (a = 0 ∧ j = 21) ∧ ¬ (78 ≤ a ∧ a < 238)) : RL L M' := by
  have g1 : rd M' 0 21 = rd M 0 21 := hk.g (fun z => (hp _ _ z).1 ⟨rfl, rfl⟩)
  obtain ⟨h0, h⟩ := h
  refine ⟨h0, ?_⟩
  rw [g1]
  refine h.imp id (fun ⟨a, b, c⟩ => ⟨a, b, fun i hi => ?_⟩)
  have hl := h0.1
  have g2 : rd M' (78 + i) = rd M (78 + i) := hk.row (fun j z => (hp _ _ z).2 ⟨by omega, by omega⟩)
  rw [g2]
  exact c i hi
theorem RK.k {p : Nat → Nat → Prop} {w : WU} {M M' : Mem} (h : RK w M) (hk : Kp p M M') (hp : ∀ a j, p a j → ¬ (a = 0 ∧ j = 35) ∧ a ≠ 17) : RK w M' := by
  have g1 : rd M' 0 35 = rd M 0 35 := hk.g (fun z => (hp _ _ z).1 ⟨rfl, rfl⟩)
  have g2 : rd M' 17 = rd M 17 := hk.row (fun j z => (hp _ _ z).2 rfl)
  unfold RK
  rw [g1, g2]
  exact h
theorem CK.k {p : Nat → Nat → Prop} {w : WU} {M M' : Mem} (h : CK w M) (hk : Kp p M M') (hp : ∀ a j, p a j → ¬ (a = 1592 ∧ j = 7) ∧ a ≠ 1593) : CK w M' := by
  have g1 : rd M' 1592 7 = rd M 1592 7 := hk.g (fun z => (hp _ _ z).1 ⟨rfl, rfl⟩)
  have g2 : rd M' 1593 = rd M 1593 := hk.row (fun j z => (hp _ _ z).2 rfl)
  unfold CK
  rw [g1, g2]
  exact h
