/-! A PROGRAM -/
abbrev PG : Type := (Nat × Nat × Nat × Nat) × (Nat → Nat → Nat) × (Nat → Nat → Nat)
def pS (P : PG) : Nat := P.1.1
def pG (P : PG) : Nat := P.1.2.1
def pR (P : PG) : Nat := P.1.2.2.1
def pK (P : PG) : Nat := P.1.2.2.2
def rp (P : PG) (r : Nat) : Nat := P.2.1 r 0
def rg (P : PG) (r : Nat) : Nat := P.2.1 r 1
def rt (P : PG) (r : Nat) : Nat := P.2.1 r 2
def rn (P : PG) (r : Nat) : Nat := P.2.1 r 3
def ra (P : PG) (r : Nat) : Nat := P.2.1 r 4
def rb (P : PG) (r : Nat) : Nat := P.2.1 r 5
def rc (P : PG) (r : Nat) : Nat := P.2.1 r 6
def kp (P : PG) (k : Nat) : Nat := P.2.2 k 0
def kn (P : PG) (k : Nat) : Nat := P.2.2 k 1
def km (P : PG) (k : Nat) : Nat := P.2.2 k 2
def ks (P : PG) (k i : Nat) : Nat := P.2.2 k (3 + i)
def WP (P : PG) : Prop := pS P ≤ 5 ∧ pG P ≤ 6 ∧ pR P ≤ 14 ∧ pK P ≤ 4 ∧
  (∀ r, r < pR P → rp P r < pS P ∧ rg P r < pG P ∧ rt P r < pS P ∧ rn P r ≤ 2 ∧ (1 ≤ rn P r → ra P r < pG P) ∧ (2 ≤ rn P r → rb P r < pG P) ∧ 1 ≤ rc P r ∧ rc P r ≤ 99) ∧
  (∀ k, k < pK P → kp P k < pS P ∧ kn P k ≤ 3 ∧ km P k ≤ 1 ∧ ∀ i, i < kn P k → ks P k i < pG P)
/-- a rule's cell -/
def clR (P : PG) (r c : Nat) : Int32 := if c = 4 ∧ rn P r = 0 ∨ c = 5 ∧ rn P r ≤ 1 then -1 else nI (P.2.1 r c)
def RowR (P : PG) (row : Nat → Int32) : Prop := ∀ r, r < pR P → ∀ c, c < 7 → row (7 * r + c) = clR P r c
def RowK (P : PG) (row : Nat → Int32) : Prop := ∀ k, k < pK P → ∀ c, c < 3 + kn P k → row (6 * k + c) = nI (P.2.2 k c)
/-- the class's program at 4 or 13 -/
def PgC (M : MM) (a : Nat) (P : PG) : Prop := (a = 4 ∨ a = 13) ∧ mI M a 4 = nI (pS P) ∧ mI M a 5 = nI (pG P) ∧ mI M a 6 = nI (pR P) ∧ mI M a 7 = nI (pK P) ∧ RowR P (mI M (a + 6)) ∧ RowK P (mI M (a + 8))
def rin (P : PG) (o r : Nat) : Bool := decide (r < pR P) && !o.testBit r
def rfor (P : PG) (o r p g : Nat) : Bool := rin P o r && (decide (rp P r = p) && decide (rg P r = g))
section PGC
variable {M : MM} {a : Nat} {P : PG}
theorem PgC.s (h : PgC M a P) : mI M a 4 = nI (pS P) := h.2.1
theorem PgC.g (h : PgC M a P) : mI M a 5 = nI (pG P) := h.2.2.1
theorem PgC.r (h : PgC M a P) : mI M a 6 = nI (pR P) := h.2.2.2.1
theorem PgC.k (h : PgC M a P) : mI M a 7 = nI (pK P) := h.2.2.2.2.1
theorem PgC.rr (h : PgC M a P) : RowR P (mI M (a + 6)) := h.2.2.2.2.2.1
theorem PgC.kk (h : PgC M a P) : RowK P (mI M (a + 8)) := h.2.2.2.2.2.2
theorem PgC.o (w : Wl M) (h : PgC M a P) {β : Type} {o : Option β} : aO M a 7 o = o := by
  rcases h.1 with rfl | rfl
  · exact aO_4 w
  · exact aO_13 w
theorem S7_ofRule (w : Wl M) (h : PgC M a P) {r c : Nat} (hr : r < pR P) (hc : c < 7) (hp : WP P) : f7_ofRule M a (nI r) (nI c) = some (clR P r c, M) := by
  have h1 := h.rr r hr c hc
  have hp14 := hp.2.2.1
  unfold f7_ofRule
  rw [h.o w, lit_7, nI_mulN, nI_add]
  rcases h.1 with rfl | rfl
  · rw [r_4_2 w, aO_9 w, g_9 w, cI_some, gI_in (by omega) (by omega), Nat.mul_comm, h1]
  · rw [r_13_2 w, aO_18 w, g_18 w, cI_some, gI_in (by omega) (by omega), Nat.mul_comm, h1]
theorem S7_ofGoal (w : Wl M) (h : PgC M a P) {k c : Nat} (hk : k < pK P) (hc : c < 3 + kn P k) (hp : WP P) : f7_ofGoal M a (nI k) (nI c) = some (nI (P.2.2 k c), M) := by
  have h1 := h.kk k hk c hc
  have hp4 := hp.2.2.2.1
  have h3 := (hp.2.2.2.2.2 k hk).2.1
  unfold f7_ofGoal
  rw [h.o w, lit_6, nI_mulN, nI_add]
  rcases h.1 with rfl | rfl
  · rw [r_4_3 w, aO_11 w, g_11 w, cI_some, gI_in (by omega) (by omega), Nat.mul_comm, h1]
  · rw [r_13_3 w, aO_20 w, g_20 w, cI_some, gI_in (by omega) (by omega), Nat.mul_comm, h1]
theorem S7_or0 (w : Wl M) (h : PgC M a P) {r : Nat} (hr : r < pR P) (hp : WP P) : f7_ofRule M a (nI r) 0 = some (nI (rp P r), M) := S7_ofRule w h hr (c := 0) (by omega) hp
theorem S7_or1 (w : Wl M) (h : PgC M a P) {r : Nat} (hr : r < pR P) (hp : WP P) : f7_ofRule M a (nI r) 1 = some (nI (rg P r), M) := S7_ofRule w h hr (c := 1) (by omega) hp
theorem S7_or2 (w : Wl M) (h : PgC M a P) {r : Nat} (hr : r < pR P) (hp : WP P) : f7_ofRule M a (nI r) 2 = some (nI (rt P r), M) := S7_ofRule w h hr (c := 2) (by omega) hp
theorem S7_or3 (w : Wl M) (h : PgC M a P) {r : Nat} (hr : r < pR P) (hp : WP P) : f7_ofRule M a (nI r) 3 = some (nI (rn P r), M) := S7_ofRule w h hr (c := 3) (by omega) hp
theorem S7_or6 (w : Wl M) (h : PgC M a P) {r : Nat} (hr : r < pR P) (hp : WP P) : f7_ofRule M a (nI r) 6 = some (nI (rc P r), M) := S7_ofRule w h hr (c := 6) (by omega) hp
theorem S7_or4 (w : Wl M) (h : PgC M a P) {r : Nat} (hr : r < pR P) (hp : WP P) : f7_ofRule M a (nI r) 4 = some (if rn P r = 0 then -1 else nI (ra P r), M) := by
  refine (S7_ofRule w h hr (c := 4) (by omega) hp).trans ?_
  simp [clR, ra]
theorem S7_or5 (w : Wl M) (h : PgC M a P) {r : Nat} (hr : r < pR P) (hp : WP P) : f7_ofRule M a (nI r) 5 = some (if rn P r ≤ 1 then -1 else nI (rb P r), M) := by
  refine (S7_ofRule w h hr (c := 5) (by omega) hp).trans ?_
  simp [clR, rb]
/-- whether an int is a number below another -/
def ibx (n : Nat) (x : Int32) : Bool := !decide (x < 0) && !decide (nI n ≤ x)
theorem ibx_nI {n i : Nat} (hn : n < 2 ^ 31) (hi : i < 2 ^ 31) : ibx n (nI i) = decide (i < n) := by
  unfold ibx
  by_cases h : i < n
  · simp [c_lt0 hi, c_le hn hi, h, Nat.not_le.mpr h]
  · simp [c_lt0 hi, c_le hn hi, h, Nat.not_lt.mp h]
theorem ibx_out {n : Nat} {x : Int32} (h : ibx n x = true) (hn : n < 2 ^ 31) : ∃ i, i < n ∧ x = nI i := by
  unfold ibx at h
  simp at h
  obtain ⟨j, hj, rfl⟩ := nI_of (by exact Int32.not_lt.mpr h.1 : ¬ x < 0)
  exact ⟨j, (Nat.lt_of_not_le fun q => (Int32.not_le.mpr h.2) (nI_le q hj)), rfl⟩
theorem S7_hasRule (w : Wl M) (h : PgC M a P) (x : Int32) : f7_hasRule M a x = some (bI (ibx (pR P) x), M) := by
  unfold f7_hasRule ibx
  rw [h.o w, h.r]
  by_cases h1 : x < 0
  · simp [h1, bI]
  · by_cases h2 : nI (pR P) ≤ x <;> simp [h1, h2, bI]
theorem S7_hasState (w : Wl M) (h : PgC M a P) (x : Int32) : f7_hasState M a x = some (bI (ibx (pS P) x), M) := by
  unfold f7_hasState ibx
  rw [h.o w, h.s]
  by_cases h1 : x < 0
  · simp [h1, bI]
  · by_cases h2 : nI (pS P) ≤ x <;> simp [h1, h2, bI]
theorem S7_hasSign (w : Wl M) (h : PgC M a P) (x : Int32) : f7_hasSign M a x = some (bI (ibx (pG P) x), M) := by
  unfold f7_hasSign ibx
  rw [h.o w, h.g]
  by_cases h1 : x < 0
  · simp [h1, bI]
  · by_cases h2 : nI (pG P) ≤ x <;> simp [h1, h2, bI]
theorem S7_isIn (w : Wl M) (h : PgC M a P) (hp : WP P) {r o : Nat} (hr : r < 32) (ho : o < 2 ^ 31) : f7_isIn M a (nI r) (nI o) = some (bI (rin P o r), M) := by
  have hp14 := hp.2.2.1
  unfold f7_isIn rin
  rw [h.o w, S7_hasRule w h, cI_some, ibx_nI (by omega) (by omega), bU (by omega) hr]
  by_cases h1 : r < pR P <;> by_cases h2 : o.testBit r <;> simp [h1, h2, bI]
theorem S7_isFor (w : Wl M) (h : PgC M a P) (hp : WP P) {r o p g : Nat} (hr : r < 32) (ho : o < 2 ^ 31) (h3 : p < 2 ^ 31) (h4 : g < 2 ^ 31) : f7_isFor M a (nI r) (nI p) (nI g) (nI o) = some (bI (rfor P o r p g), M) := by
  unfold f7_isFor rfor
  rw [h.o w, S7_isIn w h hp hr ho, cI_some, h.o w]
  by_cases h1 : rin P o r = true
  · have hr2 : r < pR P := by unfold rin at h1; simp at h1; exact h1.1
    have hw := hp.2.2.2.2.1 r hr2
    have h5 := hp.1
    have h6 := hp.2.1
    rw [h1, bI_t, if_neg (by decide), S7_or0 w h hr2 hp, cI_some, h.o w, S7_or1 w h hr2 hp, cI_some]
    simp only [c_eq (show rp P r < 2 ^ 31 by omega) h3, c_eq (show rg P r < 2 ^ 31 by omega) h4]
    by_cases e1 : rp P r = p <;> by_cases e2 : rg P r = g <;> simp [e1, e2, bI]
  · simp at h1
    rw [h1, bI_f, if_pos rfl]
    rfl
end PGC
/-- whether some rule is for a head -/
def hasFor (P : PG) (o p g : Nat) : Bool := (List.range (pR P)).any fun r => rfor P o r p g
