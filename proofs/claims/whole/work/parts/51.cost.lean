/-! THE CLASS'S SUMS -/
theorem lN_ex (x : Int64) : ∃ n, n < 2 ^ 64 ∧ x = lN n := ⟨x.toUInt64.toNat, x.toUInt64.toNat_lt, by
  show x = Int64.ofNat x.toUInt64.toNat
  have : x = x.toUInt64.toInt64 := rfl
  exact this.trans (by rw [Int64.ofNat]; congr 1; simp)⟩
def lR (E : Nat → Nat) : Nat → Int64 := fun i => lN (E i)
theorem lR_ex (row : Nat → Int64) : ∃ E, row = lR E := ⟨fun i => (lN_ex (row i)).choose, funext fun i => (lN_ex (row i)).choose_spec.2⟩
theorem lR_upx (E : Nat → Nat) (k v : Nat) : upx (lR E) k (lN v) = lR (upx E k v) := by
  funext i
  unfold lR
  rw [upx_e, upx_e]
  split <;> rfl
def Bd (K : Nat) (E : Nat → Nat) : Prop := ∀ i, i < K → E i ≤ FARN
theorem FARN_lt : FARN < 2 ^ 63 := by decide
theorem le63 {a : Nat} (h : a ≤ FARN) : a < 2 ^ 63 := Nat.lt_of_le_of_lt h FARN_lt
theorem litF : (1000000000000001 : Int64) = lN FARN := rfl
theorem litC : (1000000000000000 : Int64) = lN CAPN := rfl
theorem litJ0 : (0 : Int64) = lN 0 := rfl
theorem S4_sum {M : MM} {a b : Nat} (ha : a ≤ FARN) (hb : b ≤ FARN) : f4_sum M (lN a) (lN b) = some (lN (cp a b), M) := by
  have h1 := le63 ha
  have h2 := le63 hb
  have h3 : a + b < 2 ^ 63 := by unfold FARN at ha hb; omega
  unfold f4_sum cp
  rw [litF, litC, lN_add]
  simp only [lN_leN FARN_lt h1, lN_ltN h2 FARN_lt, lN_leN h3 (show CAPN < 2 ^ 63 by decide)]
  by_cases c1 : FARN ≤ a
  · rw [if_pos c1, if_pos (.inl c1)]
  · by_cases c2 : b < FARN
    · have c0 : ¬ (FARN ≤ a ∨ FARN ≤ b) := fun q => q.elim c1 (fun z => by omega)
      rw [if_neg c1, if_pos c2, if_neg c0]
      by_cases c3 : a + b ≤ CAPN
      · rw [if_pos c3, if_neg (by omega)]
      · rw [if_neg c3, if_pos (by omega)]
    · rw [if_neg c1, if_neg c2, if_pos (.inr (by omega))]
theorem mnL_N {a b : Nat} (ha : a < 2 ^ 63) (hb : b < 2 ^ 63) : mnL (lN a) (lN b) = lN (min a b) := by
  show (if lN b < lN a then lN b else lN a) = _
  by_cases h : b < a
  · rw [if_pos ((lN_ltN hb ha).2 h), Nat.min_eq_right (by omega)]
  · rw [if_neg (fun q => h ((lN_ltN hb ha).1 q)), Nat.min_eq_left (by omega)]
def CoA (a : Nat) : Prop := a = 32 ∨ a = 37
def nrw (a : Nat) : Nat := if a = 32 then 2115 else 615
theorem nrw_lt (a : Nat) : nrw a ≤ 2115 := by unfold nrw; split <;> omega
def lowE (E : Nat → Nat) (k v : Nat) : Nat → Nat := if v < E k then upx E k v else E
section COC
variable {M : MM} {a : Nat}
theorem Co.o (w : Wl M) (h : CoA a) {β : Type} {o : Option β} : aO M a 1 o = o := by
  rcases h with rfl | rfl
  · exact aO_32 w
  · exact aO_37 w
theorem Co.o1 (w : Wl M) (h : CoA a) {β : Type} {o : Option β} : aO M (a + 1) 4 o = o := by
  rcases h with rfl | rfl
  · exact aO_33 w
  · exact aO_38 w
theorem Co.o3 (w : Wl M) (h : CoA a) {β : Type} {o : Option β} : aO M (a + 3) 4 o = o := by
  rcases h with rfl | rfl
  · exact aO_35 w
  · exact aO_40 w
theorem Co.r0 (w : Wl M) (h : CoA a) : mR M a 0 = a + 1 := by
  rcases h with rfl | rfl
  · exact r_32_0 w
  · exact r_37_0 w
theorem Co.r1 (w : Wl M) (h : CoA a) : mR M a 1 = a + 3 := by
  rcases h with rfl | rfl
  · exact r_32_1 w
  · exact r_37_1 w
theorem Co.get (w : Wl M) (h : CoA a) (x : Int32) : f4_get M (a + 1) x = some (gJ (mJ M (a + 2)) 1350 x, M) := by
  rcases h with rfl | rfl
  · exact g_33 w x
  · exact g_38 w x
theorem Co.set (w : Wl M) (h : CoA a) (x : Int32) (v : Int64) : f4_set M (a + 1) x v = some (uJ M (a + 2) (pJ (mJ M (a + 2)) 1350 x v)) := by
  rcases h with rfl | rfl
  · exact s_33 w x v
  · exact s_38 w x v
theorem Co.fill (w : Wl M) (h : CoA a) (v : Int64) : f4_fill M (a + 1) v = some (uJ M (a + 2) (fun k => if k < 1350 then v else mJ M (a + 2) k)) := by
  rcases h with rfl | rfl
  · exact S4_fill (i_33 w) (by omega) v
  · exact S4_fill (i_38 w) (by omega) v
theorem Co.getR (w : Wl M) (h : CoA a) (x : Int32) : f4_get M (a + 3) x = some (gJ (mJ M (a + 4)) (nrw a) x, M) := by
  rcases h with rfl | rfl
  · exact g_35 w x
  · exact g_40 w x
theorem Co.setR (w : Wl M) (h : CoA a) (x : Int32) (v : Int64) : f4_set M (a + 3) x v = some (uJ M (a + 4) (pJ (mJ M (a + 4)) (nrw a) x v)) := by
  rcases h with rfl | rfl
  · exact s_35 w x v
  · exact s_40 w x v
theorem ix15 {y g x : Nat} : (nI y * 6 + nI g) * 15 + nI x = nI (ix 15 y g x) := by
  rw [lit_6, lit_15, nI_mulN, nI_add, nI_mulN, nI_add]
  unfold ix
  rw [Nat.mul_comm y 6]
theorem ix15_lt {y g x : Nat} (hy : y < 15) (hg : g < 6) (hx : x < 15) : ix 15 y g x < 1350 := by
  unfold ix
  omega
theorem S1_edge (w : Wl M) (h : CoA a) {y g x : Nat} (hy : y < 15) (hg : g < 6) (hx : x < 15) : f1_edge M a (nI y) (nI g) (nI x) = some (mJ M (a + 2) (ix 15 y g x), M) := by
  unfold f1_edge
  rw [Co.o w h, Co.r0 w h, Co.o1 w h, ix15, Co.get w h, cJ_some, gJ_in (ix15_lt hy hg hx) (by omega)]
theorem S1_left (w : Wl M) (h : CoA a) {k x : Nat} (hx : k * 15 + x < nrw a) : f1_left M a (nI k) (nI x) = some (mJ M (a + 4) (k * 15 + x), M) := by
  have := nrw_lt a
  unfold f1_left
  rw [Co.o w h, Co.r1 w h, Co.o3 w h, lit_15, nI_mulN, nI_add, Co.getR w h, cJ_some, gJ_in hx (by omega)]
theorem S1_aimN (w : Wl M) (h : CoA a) {R : Nat → Nat} {x : Nat} (hx : x < 15) : f1_aimAtNothing (uJ M (a + 4) (lR R)) a (nI x) = some (uJ M (a + 4) (lR (upx R x 0))) := by
  have : nrw a ≥ 615 := by unfold nrw; split <;> omega
  have h2 := nrw_lt a
  have w' : Wl (uJ M (a + 4) (lR R)) := w
  unfold f1_aimAtNothing
  rw [Co.o w' h, Co.r1 w' h, Co.o3 w' h, Co.setR w' h, cV_some, pJ_in (by omega) (by omega), mJ_uJ, if_pos rfl, uJ_uJ, litJ0, lR_upx]
theorem S1_lower (w : Wl M) (h : CoA a) {E : Nat → Nat} (hE : Bd 1350 E) {y g x v : Nat} (hy : y < 15) (hg : g < 6) (hx : x < 15) (hv : v ≤ FARN) :
    f1_lower (uJ M (a + 2) (lR E)) a (nI y) (nI g) (nI x) (lN v) = some (bI (decide (v < E (ix 15 y g x))), uJ M (a + 2) (lR (lowE E (ix 15 y g x) v))) := by
  have w' : Wl (uJ M (a + 2) (lR E)) := w
  have hi := ix15_lt hy hg hx
  unfold f1_lower lowE
  rw [ix15, bW_e, Co.o w' h, Co.r0 w' h, Co.o1 w' h, Co.get w' h, cJ_some, gJ_in hi (by omega), mJ_uJ, if_pos rfl, Co.o w' h, Co.r0 w' h, Co.o1 w' h, Co.set w' h, cV_some, pJ_in hi (by omega), mJ_uJ, if_pos rfl, uJ_uJ, lR_upx]
  show (if lN v < lN (E (ix 15 y g x)) then _ else _) = _
  simp only [lN_ltN (le63 hv) (le63 (hE _ hi))]
  by_cases c : v < E (ix 15 y g x)
  · rw [if_pos c, if_pos c, decide_eq_true c]
    rfl
  · rw [if_neg c, if_neg c, decide_eq_false c]
    rfl
theorem lowE_le {E : Nat → Nat} {k v : Nat} (i : Nat) : lowE E k v i ≤ E i := by
  unfold lowE
  split
  · rw [upx_e]
    split
    · subst i
      omega
    · exact Nat.le_refl _
  · exact Nat.le_refl _
theorem lowE_at {E : Nat → Nat} {k v : Nat} : lowE E k v k ≤ v := by
  unfold lowE
  split
  · rw [upx_e, if_pos rfl]
    exact Nat.le_refl _
  · omega
theorem lowE_ne {E : Nat → Nat} {k v i : Nat} (h : i ≠ k) : lowE E k v i = E i := by
  unfold lowE
  split
  · rw [upx_e, if_neg h]
  · rfl
theorem lowE_no {E : Nat → Nat} {k v : Nat} (h : ¬ v < E k) : lowE E k v = E := if_neg h
theorem lowE_ge {E : Nat → Nat} {k v m : Nat} (i : Nat) (h1 : m ≤ E i) (h2 : i = k → m ≤ v) : m ≤ lowE E k v i := by
  unfold lowE
  split
  · rw [upx_e]
    split
    · exact h2 (by assumption)
    · exact h1
  · exact h1
theorem Bd.low {K : Nat} {E : Nat → Nat} (h : Bd K E) {k v : Nat} : Bd K (lowE E k v) := fun i hi => Nat.le_trans (lowE_le i) (h i hi)
/-- the least of some -/
def mnf (f : Nat → Nat) : Nat → Nat
  | 0 => FARN
  | k + 1 => min (mnf f k) (f k)
theorem mnf_far (f : Nat → Nat) : ∀ k, mnf f k ≤ FARN
  | 0 => Nat.le_refl _
  | k + 1 => Nat.le_trans (Nat.min_le_left _ _) (mnf_far f k)
theorem mnf_le (f : Nat → Nat) : ∀ k i, i < k → mnf f k ≤ f i
  | 0, i, h => absurd h (Nat.not_lt_zero i)
  | k + 1, i, h => by
    rcases Nat.lt_or_ge i k with q | q
    · exact Nat.le_trans (Nat.min_le_left _ _) (mnf_le f k i q)
    · have : i = k := by omega
      subst this
      exact Nat.min_le_right _ _
theorem mnf_ge {f : Nat → Nat} {m : Nat} : ∀ k, m ≤ FARN → (∀ i, i < k → m ≤ f i) → m ≤ mnf f k
  | 0, h, _ => h
  | k + 1, h, q => Nat.le_min.mpr ⟨mnf_ge k h (fun i hi => q i (by omega)), q k (by omega)⟩
theorem mnf_ex (f : Nat → Nat) : ∀ k, mnf f k = FARN ∨ ∃ i, i < k ∧ mnf f k = f i
  | 0 => .inl rfl
  | k + 1 => by
    show min (mnf f k) (f k) = FARN ∨ ∃ i, i < k + 1 ∧ min (mnf f k) (f k) = f i
    rcases Nat.le_total (mnf f k) (f k) with q | q
    · rw [Nat.min_eq_left q]
      rcases mnf_ex f k with h | ⟨i, hi, h⟩
      · exact .inl h
      · exact .inr ⟨i, by omega, h⟩
    · rw [Nat.min_eq_right q]
      exact .inr ⟨k, by omega, rfl⟩
theorem mnf_congr {f g : Nat → Nat} : ∀ k, (∀ i, i < k → f i = g i) → mnf f k = mnf g k
  | 0, _ => rfl
  | k + 1, h => by
    show min (mnf f k) (f k) = min (mnf g k) (g k)
    rw [mnf_congr k (fun i hi => h i (by omega)), h k (by omega)]
theorem L1_leftBy (w : Wl M) (h : CoA a) {E R : Nat → Nat} (hE : mJ M (a + 2) = lR E) (hR : mJ M (a + 4) = lR R) (bE : Bd 1350 E) (bR : Bd (nrw a) R) {k x g : Nat} (hk : k * 15 + 15 ≤ nrw a) (hx : x < 15) (hg : g < 6) :
    ∀ (d j : Nat), j + d = 15 → ∀ f, d < f → LP7 f1_leftBy_b8_body f M a (nI k) (nI x) (nI g) (lN (mnf (fun y => cp (E (ix 15 x g y)) (R (k * 15 + y))) j)) (nI j) = some (lN (mnf (fun y => cp (E (ix 15 x g y)) (R (k * 15 + y))) 15), M)
  | 0, j, hj, f + 1, _ => by
    show f1_leftBy_b8_body _ _ _ _ _ _ _ _ = _
    unfold f1_leftBy_b8_body
    have e : j = 15 := by omega
    subst e
    rw [lit_15, if_pos (nI_le (Nat.le_refl _) (by omega))]
  | d + 1, j, hj, f + 1, hf => by
    have ih := L1_leftBy w h hE hR bE bR hk hx hg d (j + 1) (by omega) f (by omega)
    show f1_leftBy_b8_body _ _ _ _ _ _ _ _ = _
    unfold f1_leftBy_b8_body f1_leftBy_b52
    have hi := ix15_lt hx hg (show j < 15 by omega)
    have b1 := bE _ hi
    have b2 := bR (k * 15 + j) (by omega)
    have b3 := mnf_far (fun y => cp (E (ix 15 x g y)) (R (k * 15 + y))) j
    rw [lit_15, if_neg (nI_ge (by omega) (by omega)), Co.o w h, S1_edge w h hx hg (by omega), cJ_some, hE, nI_1, Co.o w h, S1_left w h (by omega), cJ_some, hR]
    show (if lN _ ≤ lN (E (ix 15 x g j)) then _ else cJ (f4_sum M (lN (E (ix 15 x g j))) (lN (R (k * 15 + j)))) _) = _
    rw [S4_sum b1 b2, cJ_some, bW_e, mnL_N (le63 b3) (le63 (cp_far _ _))]
    simp only [lN_leN (le63 b3) (le63 b1)]
    by_cases c : mnf (fun y => cp (E (ix 15 x g y)) (R (k * 15 + y))) j ≤ E (ix 15 x g j)
    · have e : mnf (fun y => cp (E (ix 15 x g y)) (R (k * 15 + y))) (j + 1) = mnf (fun y => cp (E (ix 15 x g y)) (R (k * 15 + y))) j := Nat.min_eq_left (Nat.le_trans c (cp_geL b1))
      rw [if_pos c, ← e]
      exact ih
    · rw [if_neg c]
      exact ih
theorem S1_leftBy (w : Wl M) (h : CoA a) {E R : Nat → Nat} (hE : mJ M (a + 2) = lR E) (hR : mJ M (a + 4) = lR R) (bE : Bd 1350 E) (bR : Bd (nrw a) R) {k x g : Nat} (hk : k * 15 + 15 ≤ nrw a) (hx : x < 15) (hg : g < 6) :
    f1_leftBy M a (nI k) (nI x) (nI g) = some (lN (mnf (fun y => cp (E (ix 15 x g y)) (R (k * 15 + y))) 15), M) :=
  L1_leftBy w h hE hR bE bR hk hx hg 15 0 (by omega) FU (FU_big (by omega))
end COC
