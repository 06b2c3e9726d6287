/-! HOW HIGH THE STACK CAN GROW -/
/-- the most that a rule tells, over the states below j -/
def mxR (P : PG) (cn : Nat → Nat → Nat → Bool) (c : Nat → Nat) (r : Nat) : Nat → Nat
  | 0 => if rn P r = 0 then 1 else c (6 * rt P r + ra P r) + (rn P r - 1)
  | j + 1 => if rn P r = 2 ∧ cn (rt P r) (ra P r) j = true then max (mxR P cn c r j) (c (6 * j + rb P r)) else mxR P cn c r j
def nwR (P : PG) (cn : Nat → Nat → Nat → Bool) (c : Nat → Nat) (r : Nat) : Nat := min (mxR P cn c r (pS P)) 31
def Rg (c : Nat → Nat) : Prop := ∀ h, h < 30 → 1 ≤ c h ∧ c h ≤ 31
def toM (x : Nat) : Nat := if x = 31 then 1000 else x
theorem toM_lt {x y : Nat} (hx : x ≤ 31) (hy : y ≤ 31) : toM x < toM y ↔ x < y := by
  unfold toM
  split <;> split <;> omega
theorem toM_max (x y : Nat) (hx : x ≤ 31) (hy : y ≤ 31) : max (toM x) (toM y) = toM (max x y) := by
  unfold toM
  split <;> split <;> split <;> omega
def smR (c : Nat → Nat) : Nat → Nat
  | 0 => 0
  | k + 1 => smR c k + c k
theorem smR_le {c : Nat → Nat} : ∀ k, (∀ h, h < k → c h ≤ 31) → smR c k ≤ 31 * k
  | 0, _ => Nat.le_refl _
  | k + 1, h => by
    have := smR_le k (fun i hi => h i (by omega))
    have := h k (by omega)
    show smR c k + c k ≤ 31 * (k + 1)
    omega
theorem smR_mono {c c' : Nat → Nat} : ∀ k, (∀ h, h < k → c h ≤ c' h) → smR c k ≤ smR c' k
  | 0, _ => Nat.le_refl _
  | k + 1, h => by
    have := smR_mono k (fun i hi => h i (by omega))
    have := h k (by omega)
    show smR c k + c k ≤ smR c' k + c' k
    omega
theorem smR_lt {c c' : Nat → Nat} : ∀ k, (∀ h, h < k → c h ≤ c' h) → (∃ h, h < k ∧ c h < c' h) → smR c k < smR c' k
  | 0, _, ⟨h, hh, _⟩ => absurd hh (Nat.not_lt_zero h)
  | k + 1, h, ⟨i, hi, hlt⟩ => by
    have h0 := smR_mono k (fun i hi => h i (by omega))
    have h1 := h k (by omega)
    show smR c k + c k < smR c' k + c' k
    by_cases e : i = k
    · rw [e] at hlt
      omega
    · have := smR_lt k (fun i hi => h i (by omega)) ⟨i, by omega, hlt⟩
      omega
theorem c_eq2 {a : Nat} (h : a < 2 ^ 31) : (nI a = 2) = (a = 2) := by
  rw [eq_iff_iff, lit_2, nI_eq h (by omega)]
section RISES
variable {P : PG} {o a1 : Nat} {cn : Nat → Nat → Nat → Bool}
theorem mxR_ge (hp : WP P) {c : Nat → Nat} (hc : Rg c) {r : Nat} (hr : r < pR P) : ∀ j, j ≤ 5 → 1 ≤ mxR P cn c r j ∧ mxR P cn c r j ≤ 32
  | 0, _ => by
    have t5 := hp.t5 hr
    have n2 := hp.n2 hr
    unfold mxR
    split
    · omega
    · have a6 := hp.a6 hr (by omega)
      have := hc (6 * rt P r + ra P r) (by omega)
      omega
  | j + 1, hj => by
    have ih := mxR_ge hp hc hr j (by omega)
    by_cases q : rn P r = 2 ∧ cn (rt P r) (ra P r) j = true
    · have b6 := hp.b6 hr (by omega)
      have := hc (6 * j + rb P r) (by omega)
      have e : mxR P cn c r (j + 1) = max (mxR P cn c r j) (c (6 * j + rb P r)) := if_pos q
      rw [e]
      omega
    · have e : mxR P cn c r (j + 1) = mxR P cn c r j := if_neg q
      rw [e]
      exact ih
theorem mxI_N {a b : Nat} (ha : a < 2 ^ 31) (hb : b < 2 ^ 31) : mxI (nI a) (nI b) = nI (max a b) := by
  show (if nI a < nI b then nI b else nI a) = _
  simp only [c_lt ha hb]
  by_cases c : a < b
  · rw [if_pos c, Nat.max_eq_right (by omega)]
  · rw [if_neg c, Nat.max_eq_left (by omega)]
theorem mnI_N {a b : Nat} (ha : a < 2 ^ 31) (hb : b < 2 ^ 31) : mnI (nI a) (nI b) = nI (min a b) := by
  show (if nI b < nI a then nI b else nI a) = _
  simp only [c_lt hb ha]
  by_cases c : b < a
  · rw [if_pos c, Nat.min_eq_right (by omega)]
  · rw [if_neg c, Nat.min_eq_left (by omega)]
/-- a rule's turn -/
def stR (P : PG) (cn : Nat → Nat → Nat → Bool) (c : Nat → Nat) (r : Nat) : Nat → Nat := if c (hdR P r) < nwR P cn c r then upx c (hdR P r) (nwR P cn c r) else c
theorem stR_rg (hp : WP P) {c : Nat → Nat} (hc : Rg c) {r : Nat} (hr : r < pR P) : Rg (stR P cn c r) := by
  intro h hh
  have := mxR_ge (cn := cn) hp hc hr (pS P) hp.1
  unfold stR
  split
  · rw [upx_e]
    split
    · unfold nwR
      omega
    · exact hc h hh
  · exact hc h hh
theorem stR_le {c : Nat → Nat} {r : Nat} (h : Nat) : c h ≤ stR P cn c r h := by
  unfold stR
  split
  · rw [upx_e]
    split
    · next q => rw [q]; omega
    · exact Nat.le_refl _
  · exact Nat.le_refl _
theorem L2_raise4 {M : MM} {g : Nat → Int32} {c : Nat → Nat} (hd : HdC (uI M 50 (nR 30 c g)) a1 P o cn) (hp : WP P) (hc : Rg c) {r : Nat} (hr : r < pR P) : ∀ (d j : Nat), j + d = pS P → ∀ f, d < f →
    LP5 f2_raisesBy_b4_body f (uI M 50 (nR 30 c g)) 48 (nI r) (nI (mxR P cn c r j)) (nI j) = some (bI (decide (c (hdR P r) < nwR P cn c r)), uI M 50 (nR 30 (stR P cn c r) g))
  | 0, j, hj, f + 1, _ => by
    obtain ⟨w, h1, h2, h3, -⟩ := id hd
    have hl := hd_lt hp hr
    have e : j = pS P := by omega
    have p5 := hp.1
    have b := mxR_ge (cn := cn) hp hc hr (pS P) p5
    have bc := hc _ hl
    rw [e]
    show f2_raisesBy_b4_body _ _ _ _ _ _ = _
    generalize LP5 f2_raisesBy_b4_body f = K
    have row : mI (uI M 50 (nR 30 c g)) 50 = nR 30 c g := by rw [mI_uI, if_pos rfl]
    unfold f2_raisesBy_b4_body
    rw [aO_48 w, h1, h2.o w, h2.s, if_pos (nI_le (Nat.le_refl _) (by omega)), lit_31, mnI_N (by omega) (by omega), bW_e, aO_48 w, aO_48 w, S2_headOfRule hd hp hr, cI_some, r_48_0 w, aO_49 w, g_49 w, cI_some, gI_in hl (by omega), row, nR_at hl]
    show (if nI (c (hdR P r)) < nI (nwR P cn c r) then _ else _) = _
    have b2 : nwR P cn c r ≤ 31 := Nat.min_le_right _ _
    simp only [c_lt (show c (hdR P r) < 2 ^ 31 by omega) (show nwR P cn c r < 2 ^ 31 by omega)]
    unfold stR
    by_cases q : c (hdR P r) < nwR P cn c r
    · rw [if_pos q, aO_48 w, aO_48 w, S2_headOfRule hd hp hr, cI_some, r_48_0 w, aO_49 w, s_49 w, cV_some, pI_in hl (by omega), row, uI_uI, if_pos q, decide_eq_true q]
      show some (1, uI M 50 (upx (nR 30 c g) (hdR P r) (nI (nwR P cn c r)))) = _
      rw [nR_upx hl]
      rfl
    · rw [if_neg q, if_neg q, decide_eq_false q]
      rfl
  | d + 1, j, hj, f + 1, hf => by
    obtain ⟨w, h1, h2, h3, -⟩ := id hd
    have ih := L2_raise4 hd hp hc hr d (j + 1) (by omega) f (by omega)
    have p5 := hp.1
    have b := mxR_ge (cn := cn) hp hc hr j (by omega)
    have row : mI (uI M 50 (nR 30 c g)) 50 = nR 30 c g := by rw [mI_uI, if_pos rfl]
    show f2_raisesBy_b4_body _ _ _ _ _ _ = _
    generalize LP5 f2_raisesBy_b4_body f = K at ih ⊢
    unfold f2_raisesBy_b4_body f2_raisesBy_b49 f2_raisesBy_b68
    rw [aO_48 w, h1, h2.o w, h2.s, if_neg (nI_ge (by omega) (by omega)), aO_48 w, S2_beh hd hp hr (by omega), cI_some, nI_1]
    by_cases q : rn P r = 2 ∧ cn (rt P r) (ra P r) j = true
    · have b6 := hp.b6 hr (by omega)
      have bc := hc (6 * j + rb P r) (by omega)
      rw [if_pos q, if_neg (nI_neM (by omega)), if_neg (nI_neM (by omega)), aO_48 w, r_48_0 w, aO_49 w, g_49 w, cI_some, gI_in (by omega) (by omega), row, nR_at (by omega), nI_add0, mxI_N (by omega) (by omega), bW_e]
      have e : mxR P cn c r (j + 1) = max (mxR P cn c r j) (c (6 * j + rb P r)) := if_pos q
      rw [← e]
      exact ih
    · rw [if_neg q, if_pos rfl]
      have e : mxR P cn c r (j + 1) = mxR P cn c r j := if_neg q
      rw [← e]
      exact ih
theorem S2_raisesBy {M : MM} {g : Nat → Int32} {c : Nat → Nat} (hd : HdC (uI M 50 (nR 30 c g)) a1 P o cn) (hp : WP P) (hc : Rg c) {r : Nat} (hr : r < pR P) :
    f2_raisesBy (uI M 50 (nR 30 c g)) 48 (nI r) = some (bI (decide (c (hdR P r) < nwR P cn c r)), uI M 50 (nR 30 (stR P cn c r) g)) := by
  obtain ⟨w, h1, h2, h3, -⟩ := id hd
  have p5 := hp.1
  have t5 := hp.t5 hr
  have n2 := hp.n2 hr
  have row : mI (uI M 50 (nR 30 c g)) 50 = nR 30 c g := by rw [mI_uI, if_pos rfl]
  obtain ⟨n, hn⟩ : ∃ n, FU = n + 1 := ⟨FU - 1, by have : (8 : Nat) < FU := FU_big (by omega); omega⟩
  have q := L2_raise4 hd hp hc hr (pS P) 0 (by omega) n (by have : (8 : Nat) < FU := FU_big (by omega); omega)
  unfold f2_raisesBy f2_raisesBy_b4
  rw [hn]
  show f2_raisesBy_b4_body _ _ _ _ _ _ = _
  generalize LP5 f2_raisesBy_b4_body n = K at q ⊢
  unfold f2_raisesBy_b4_body f2_raisesBy_b49 f2_raisesBy_b68
  rw [aO_48 w, h1, h2.o w, h2.s, if_neg (show ¬ nI (pS P) ≤ -1 from nI_leM (by omega)), aO_48 w, S2_behTop hd hp hr, cI_some, nI_M1]
  by_cases c0 : rn P r = 0
  · rw [if_pos c0, if_pos rfl]
    have e : mxR P cn c r 0 = 1 := if_pos c0
    rw [e] at q
    exact q
  · have a6 := hp.a6 hr (by omega)
    have bc := hc (6 * rt P r + ra P r) (by omega)
    rw [if_neg c0, if_neg (nI_neM (by omega)), if_pos rfl, aO_48 w, h1, h2.o w, S7_or3 w h2 hr hp, cI_some, aO_48 w, r_48_0 w, aO_49 w, g_49 w, cI_some, gI_in (by omega) (by omega), row, nR_at (by omega), nI_sub1 (by omega), nI_add, lit_1, mxI_N (by omega) (by omega), bW_e]
    have e : mxR P cn c r 0 = c (6 * rt P r + ra P r) + (rn P r - 1) := if_neg c0
    rw [e] at q
    rw [Nat.max_eq_right (by omega)]
    exact q
/-! the reference -/
theorem SM_greater {M : MM} {a b : Nat} (ha : a < 2 ^ 31) (hb : b < 2 ^ 31) : f12_greater M (nI a) (nI b) = some (nI (max a b), M) := by
  unfold f12_greater
  simp only [c_le ha hb]
  by_cases c : a ≤ b
  · rw [if_pos c, Nat.max_eq_right c]
  · rw [if_neg c, Nat.max_eq_left (by omega)]
def mmR (P : PG) (cn : Nat → Nat → Nat → Bool) (m : Nat → Nat) (r : Nat) : Nat → Nat
  | 0 => m (6 * rt P r + ra P r) + rn P r - 1
  | j + 1 => if rn P r = 2 ∧ cn (rt P r) (ra P r) j = true then max (mmR P cn m r j) (m (6 * j + rb P r)) else mmR P cn m r j
theorem toM_le {x : Nat} (h : x ≤ 31) : toM x ≤ 1000 := by
  unfold toM
  split <;> omega
theorem mmR_le (hp : WP P) {m : Nat → Nat} (hm : ∀ h, h < 30 → m h ≤ 1000) {r : Nat} (hr : r < pR P) (h1 : 1 ≤ rn P r) : ∀ j, j ≤ 5 → mmR P cn m r j ≤ 1001
  | 0, _ => by
    have t5 := hp.t5 hr
    have n2 := hp.n2 hr
    have a6 := hp.a6 hr (by omega)
    have := hm (6 * rt P r + ra P r) (by omega)
    show m (6 * rt P r + ra P r) + rn P r - 1 ≤ 1001
    omega
  | j + 1, hj => by
    have ih := mmR_le hp hm hr h1 j (by omega)
    by_cases q : rn P r = 2 ∧ cn (rt P r) (ra P r) j = true
    · have b6 := hp.b6 hr (by omega)
      have := hm (6 * j + rb P r) (by omega)
      have e : mmR P cn m r (j + 1) = max (mmR P cn m r j) (m (6 * j + rb P r)) := if_pos q
      rw [e]
      omega
    · have e : mmR P cn m r (j + 1) = mmR P cn m r j := if_neg q
      rw [e]
      exact ih
theorem LM_riseBy42 {M : MM} {g : Nat → Int32} {m : Nat → Nat} (hd : HdM (uI M 105 (nR 30 m g)) P o cn) (hp : WP P) (hm : ∀ h, h < 30 → m h ≤ 1000) {r : Nat} (hr : r < pR P) (h1 : 1 ≤ rn P r) : ∀ (d j : Nat), j + d = pS P → ∀ f, d < f →
    LP6 f12_riseBy_b42_body f (uI M 105 (nR 30 m g)) 86 (nI r) (nI (rn P r)) (nI (mmR P cn m r j)) (nI j) = some (nI (mmR P cn m r (pS P)), uI M 105 (nR 30 m g))
  | 0, j, hj, f + 1, _ => by
    obtain ⟨w, h2, -⟩ := id hd
    have p5 := hp.1
    have e : j = pS P := by omega
    rw [e]
    show f12_riseBy_b42_body _ _ _ _ _ _ _ = _
    generalize LP6 f12_riseBy_b42_body f = K
    unfold f12_riseBy_b42_body
    rw [aO_86 w, SM_states w h2, cI_some, if_pos (nI_le (Nat.le_refl _) (by omega))]
  | d + 1, j, hj, f + 1, hf => by
    obtain ⟨w, h2, -⟩ := id hd
    have p5 := hp.1
    have t5 := hp.t5 hr
    have n2 := hp.n2 hr
    have a6 := hp.a6 hr h1
    have row : mI (uI M 105 (nR 30 m g)) 105 = nR 30 m g := by rw [mI_uI, if_pos rfl]
    have ih := LM_riseBy42 hd hp hm hr h1 d (j + 1) (by omega) f (by omega)
    have bm := mmR_le (cn := cn) hp hm hr h1 j (by omega)
    show f12_riseBy_b42_body _ _ _ _ _ _ _ = _
    generalize LP6 f12_riseBy_b42_body f = K at ih ⊢
    unfold f12_riseBy_b42_body f12_riseBy_b102 f12_head
    rw [aO_86 w, SM_states w h2, cI_some, if_neg (nI_ge (by omega) (by omega)), aO_86 w, SM_r2 w h2 hp hr, cI_some, aO_86 w, SM_r4 w h2 hp hr, cI_some, if_neg (show ¬ rn P r = 0 by omega), aO_86 w, SM_canPop hd t5 a6 (by omega), cI_some, nI_1]
    simp only [c_eq2 (show rn P r < 2 ^ 31 by omega)]
    by_cases c2 : rn P r = 2
    · rw [if_pos c2]
      have b6 := hp.b6 hr (by omega)
      by_cases q : cn (rt P r) (ra P r) j = true
      · have bj := hm (6 * j + rb P r) (by omega)
        rw [q, bI_t, if_neg (by decide), aO_86 w, aO_86 w, SM_r5 w h2 hp hr, cI_some, if_neg (by omega), aO_86 w, cI_some, hd_e', r_86_37 w, aA_105 w (by omega), nI_clamp (by omega), row, nR_at (by omega), SM_greater (by omega) (by omega), cI_some]
        have e : mmR P cn m r (j + 1) = max (mmR P cn m r j) (m (6 * j + rb P r)) := if_pos ⟨c2, q⟩
        rw [← e]
        exact ih
      · have e : mmR P cn m r (j + 1) = mmR P cn m r j := if_neg (fun z => q z.2)
        rw [Bool.not_eq_true] at q
        rw [q, bI_f, if_pos rfl, ← e]
        exact ih
    · rw [if_neg c2]
      have e : ∀ k, mmR P cn m r k = mmR P cn m r 0 := fun k => by
        induction k with
        | zero => rfl
        | succ k ihk =>
          refine Eq.trans ?_ ihk
          exact if_neg (fun z => c2 z.1)
      rw [e j, e (pS P)]
theorem mmR_toM (hp : WP P) {c : Nat → Nat} (hc : Rg c) {r : Nat} (hr : r < pR P) (h1 : 1 ≤ rn P r) : ∀ j, j ≤ 5 → (mmR P cn (fun h => toM (c h)) r j ≤ 30 → mmR P cn (fun h => toM (c h)) r j = mxR P cn c r j) ∧ (30 < mmR P cn (fun h => toM (c h)) r j ↔ 30 < mxR P cn c r j)
  | 0, _ => by
    have t5 := hp.t5 hr
    have n2 := hp.n2 hr
    have a6 := hp.a6 hr (by omega)
    have bc := hc (6 * rt P r + ra P r) (by omega)
    have e : mxR P cn c r 0 = c (6 * rt P r + ra P r) + (rn P r - 1) := if_neg (by omega)
    rw [e]
    show (toM (c (6 * rt P r + ra P r)) + rn P r - 1 ≤ 30 → toM (c (6 * rt P r + ra P r)) + rn P r - 1 = _) ∧ (30 < toM (c (6 * rt P r + ra P r)) + rn P r - 1 ↔ _)
    unfold toM
    split <;> omega
  | j + 1, hj => by
    have ih := mmR_toM hp hc hr h1 j (by omega)
    by_cases q : rn P r = 2 ∧ cn (rt P r) (ra P r) j = true
    · have b6 := hp.b6 hr (by omega)
      have bc := hc (6 * j + rb P r) (by omega)
      have e1 : mxR P cn c r (j + 1) = max (mxR P cn c r j) (c (6 * j + rb P r)) := if_pos q
      have e2 : mmR P cn (fun h => toM (c h)) r (j + 1) = max (mmR P cn (fun h => toM (c h)) r j) (toM (c (6 * j + rb P r))) := if_pos q
      rw [e1, e2]
      generalize mmR P cn (fun h => toM (c h)) r j = x at *
      generalize mxR P cn c r j = y at *
      unfold toM
      split <;> omega
    · have e1 : mxR P cn c r (j + 1) = mxR P cn c r j := if_neg q
      have e2 : mmR P cn (fun h => toM (c h)) r (j + 1) = mmR P cn (fun h => toM (c h)) r j := if_neg q
      rw [e1, e2]
      exact ih
theorem SM_rise35 {M : MM} {g : Nat → Int32} {c : Nat → Nat} (hd : HdM (uI M 105 (nR 30 (fun h => toM (c h)) g)) P o cn) (hp : WP P) (ho : o < 2 ^ 31) (hc : Rg c) {K27 : MM → Nat → Int32 → Option MM} {r : Nat} (hr : r < pR P) (ch : Bool) (f : Nat) :
    LP4 (f12_layRise_b35_body K27) (f + 1) (uI M 105 (nR 30 (fun h => toM (c h)) g)) 86 (bI ch) (nI r) = LP4 (f12_layRise_b35_body K27) f (uI M 105 (nR 30 (fun h => toM ((if rin P o r = true then stR P cn c r else c) h)) g)) 86 (bI (ch || (rin P o r && decide (c (hdR P r) < nwR P cn c r)))) (nI (r + 1)) := by
  obtain ⟨w, h2, -⟩ := id hd
  have h14 := hp.2.2.1
  have p5 := hp.1
  have hl := hd_lt hp hr
  have bc := hc _ hl
  have hm : ∀ h, h < 30 → toM (c h) ≤ 1000 := fun h hh => toM_le (hc h hh).2
  have row : mI (uI M 105 (nR 30 (fun h => toM (c h)) g)) 105 = nR 30 (fun h => toM (c h)) g := by rw [mI_uI, if_pos rfl]
  show f12_layRise_b35_body _ _ _ _ _ _ = _
  generalize LP4 (f12_layRise_b35_body K27) f = K
  -- with a value that is told
  have e99 : ∀ v : Nat, v < 2 ^ 31 → f12_layRise_b99 K (uI M 105 (nR 30 (fun h => toM (c h)) g)) 86 (bI ch) (nI r) (nI (hdR P r)) (nI v) = if v ≤ toM (c (hdR P r)) then K (uI M 105 (nR 30 (fun h => toM (c h)) g)) 86 (bI ch) (nI (r + 1)) else K (uI M 105 (nR 30 (upx (fun h => toM (c h)) (hdR P r) v) g)) 86 1 (nI (r + 1)) := fun v hv => by
    have := hm _ hl
    unfold f12_layRise_b99 f12_layRise_b122
    rw [aO_86 w, r_86_37 w, aA_105 w hl, nI_clamp (by omega), row, nR_at hl, aO_86 w, aA_105 w hl, bM_e, sI_e, row, uI_uI, nR_upx hl, nI_1]
    simp only [c_le hv (show toM (c (hdR P r)) < 2 ^ 31 by omega)]
  have fin : ∀ v : Nat, v < 2 ^ 31 → (v = 0 ∨ ∃ x, x ≤ 31 ∧ 1 ≤ x ∧ v = toM x) → f12_layRise_b82 K (uI M 105 (nR 30 (fun h => toM (c h)) g)) 86 (bI ch) (nI r) (nI (hdR P r)) (nI v) = (if v ≤ toM (c (hdR P r)) then K (uI M 105 (nR 30 (fun h => toM (c h)) g)) 86 (bI ch) (nI (r + 1)) else K (uI M 105 (nR 30 (upx (fun h => toM (c h)) (hdR P r) v) g)) 86 1 (nI (r + 1))) := fun v hv hx => by
    unfold f12_layRise_b82
    rw [lit_30, lit_1000]
    simp only [c_le hv (show 30 < 2 ^ 31 by omega)]
    rw [e99 v hv, e99 1000 (by omega)]
    by_cases q : v ≤ 30
    · rw [if_pos q]
    · have : v = 1000 := by
        rcases hx with e | ⟨x, x1, x2, e⟩
        · omega
        · unfold toM at e
          split at e <;> omega
      rw [if_neg q, this]
  unfold f12_layRise_b35_body f12_head
  rw [aO_86 w, r_86_1 w, lit_2, aA_87 w (by omega), nI_clamp (by omega), h2.r, if_neg (nI_ge (by omega) (by omega)), aO_86 w, SM_r0 w h2 hp hr, cI_some, aO_86 w, SM_r1 w h2 hp hr, cI_some, aO_86 w, cI_some, hd_e', show 6 * rp P r + rg P r = hdR P r from rfl, aO_86 w, h2.oo, SM_isOf ho (by omega), cI_some]
  have zero : f12_layRise_b82 K (uI M 105 (nR 30 (fun h => toM (c h)) g)) 86 (bI ch) (nI r) (nI (hdR P r)) 0 = K (uI M 105 (nR 30 (fun h => toM (c h)) g)) 86 (bI ch) (nI (r + 1)) := (fin 0 (by omega) (.inl rfl)).trans (if_pos (Nat.zero_le _))
  by_cases ci : rin P o r = true
  · have ho2 : o.testBit r = false := by
      unfold rin at ci
      simp at ci
      exact ci.2
    rw [ho2, bI_f, if_pos rfl, aO_86 w, if_pos ci, ci, Bool.true_and]
    unfold f12_riseBy f12_head
    rw [aO_86 w, SM_r3 w h2 hp hr, cI_some]
    have n2 := hp.n2 hr
    simp only [c_eq0 (show rn P r < 2 ^ 31 by omega)]
    by_cases c0 : rn P r = 0
    · rw [if_pos c0, cI_some]
      refine zero.trans ?_
      have e : ∀ j, mxR P cn c r j = 1 := fun j => by
        induction j with
        | zero => exact if_pos c0
        | succ j ihj => exact (if_neg (fun z => by omega)).trans ihj
      have : ¬ c (hdR P r) < nwR P cn c r := by
        unfold nwR
        rw [e]
        omega
      rw [decide_eq_false this, Bool.or_false]
      unfold stR
      rw [if_neg this]
    · have t5 := hp.t5 hr
      have a6 := hp.a6 hr (by omega)
      have ba := hm (6 * rt P r + ra P r) (by omega)
      have mt := mmR_toM (cn := cn) hp hc hr (by omega) (pS P) p5
      have mle := mmR_le (cn := cn) hp hm hr (show 1 ≤ rn P r by omega) (pS P) p5
      have q := LM_riseBy42 hd hp hm hr (show 1 ≤ rn P r by omega) (pS P) 0 (by omega) FU (FU_big (by omega))
      have q' : f12_riseBy_b42 (uI M 105 (nR 30 (fun h => toM (c h)) g)) 86 (nI r) (nI (rn P r)) (nI (toM (c (6 * rt P r + ra P r)) + rn P r - 1)) 0 = some (nI (mmR P cn (fun h => toM (c h)) r (pS P)), uI M 105 (nR 30 (fun h => toM (c h)) g)) := q
      rw [if_neg c0, aO_86 w, aO_86 w, SM_r2 w h2 hp hr, cI_some, aO_86 w, SM_r4 w h2 hp hr, cI_some, if_neg c0, aO_86 w, cI_some, hd_e', r_86_37 w, aA_105 w (by omega), nI_clamp (by omega), row, nR_at (by omega), nI_add, nI_sub1 (by omega), bW_e, q', cI_some]
      -- the value behind
      have nwe : ∃ x, x = nwR P cn c r ∧ 1 ≤ x ∧ x ≤ 31 := ⟨_, rfl, by unfold nwR; have := mxR_ge (cn := cn) hp hc hr (pS P) p5; omega, Nat.min_le_right _ _⟩
      obtain ⟨x, hx, x1, x31⟩ := nwe
      have step : f12_layRise_b82 K (uI M 105 (nR 30 (fun h => toM (c h)) g)) 86 (bI ch) (nI r) (nI (hdR P r)) (nI (mmR P cn (fun h => toM (c h)) r (pS P))) = (if toM x ≤ toM (c (hdR P r)) then K (uI M 105 (nR 30 (fun h => toM (c h)) g)) 86 (bI ch) (nI (r + 1)) else K (uI M 105 (nR 30 (upx (fun h => toM (c h)) (hdR P r) (toM x)) g)) 86 1 (nI (r + 1))) := by
        by_cases q30 : mmR P cn (fun h => toM (c h)) r (pS P) ≤ 30
        · have e1 := mt.1 q30
          have e2 : x = mmR P cn (fun h => toM (c h)) r (pS P) := by
            rw [hx]
            unfold nwR
            omega
          have e3 : mmR P cn (fun h => toM (c h)) r (pS P) = toM x := by
            rw [← e2]
            unfold toM
            rw [if_neg (by omega)]
          rw [e3]
          exact fin _ (by have := toM_le x31; omega) (.inr ⟨x, x31, x1, rfl⟩)
        · have e1 := mt.2.mp (by omega)
          have e2 : x = 31 := by
            rw [hx]
            unfold nwR
            omega
          have e3 : toM x = 1000 := by
            rw [e2]
            rfl
          rw [e3]
          unfold f12_layRise_b82
          rw [lit_30, lit_1000]
          simp only [c_le (show mmR P cn (fun h => toM (c h)) r (pS P) < 2 ^ 31 by omega) (show 30 < 2 ^ 31 by omega)]
          rw [if_neg q30]
          exact e99 1000 (by omega)
      rw [step, ← hx]
      have lt := toM_lt (bc.2) x31
      by_cases qq : c (hdR P r) < x
      · rw [if_neg (by have := lt.mpr qq; omega), decide_eq_true qq, Bool.or_true, bI_t]
        congr 2
        congr 1
        funext h
        unfold stR
        rw [← hx, if_pos qq, upx_e, upx_e]
        by_cases e : h = hdR P r
        · rw [if_pos e, if_pos e]
        · rw [if_neg e, if_neg e]
      · rw [if_pos (by have := lt.mp; omega), decide_eq_false qq, Bool.or_false]
        unfold stR
        rw [← hx, if_neg qq]
  · rw [if_neg ci]
    have ho2 : o.testBit r = true := by
      unfold rin at ci
      simp [hr] at ci
      exact ci
    rw [Bool.not_eq_true] at ci
    rw [ho2, bI_t, if_neg (by decide), ci, Bool.false_and, Bool.or_false]
    exact zero
end RISES
