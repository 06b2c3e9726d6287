/-! THE REFERENCE: what its small methods answer -/
/-- the reference's program and the rules that are out -/
def PgM (M : MM) (P : PG) (o : Nat) : Prop := mI M 86 5 = nI o ∧ mI M 87 0 = nI (pS P) ∧ mI M 87 1 = nI (pG P) ∧ mI M 87 2 = nI (pR P) ∧ mI M 87 3 = nI (pK P) ∧ RowR P (mI M 89) ∧ RowK P (mI M 90)
section PGM
variable {M : MM} {P : PG} {o : Nat}
theorem PgM.oo (h : PgM M P o) : mI M 86 5 = nI o := h.1
theorem PgM.s (h : PgM M P o) : mI M 87 0 = nI (pS P) := h.2.1
theorem PgM.g (h : PgM M P o) : mI M 87 1 = nI (pG P) := h.2.2.1
theorem PgM.r (h : PgM M P o) : mI M 87 2 = nI (pR P) := h.2.2.2.1
theorem PgM.k (h : PgM M P o) : mI M 87 3 = nI (pK P) := h.2.2.2.2.1
theorem PgM.rr (h : PgM M P o) : RowR P (mI M 89) := h.2.2.2.2.2.1
theorem PgM.kk (h : PgM M P o) : RowK P (mI M 90) := h.2.2.2.2.2.2
theorem clamp0 : (0 : Int32).toNatClampNeg = 0 := rfl
theorem clamp1 : (1 : Int32).toNatClampNeg = 1 := rfl
theorem SM_states (w : Wl M) (h : PgM M P o) : f12_states M 86 = some (nI (pS P), M) := by
  unfold f12_states
  rw [aO_86 w, r_86_1 w, lit_0, aA_87 w (by omega), nI_clamp (by omega), h.s]
theorem SM_signs (w : Wl M) (h : PgM M P o) : f12_signs M 86 = some (nI (pG P), M) := by
  unfold f12_signs
  rw [aO_86 w, r_86_1 w, lit_1, aA_87 w (by omega), nI_clamp (by omega), h.g]
theorem S12_ruleOf (w : Wl M) (h : PgM M P o) (hp : WP P) {r c : Nat} (hr : r < pR P) (hc : c < 7) : f12_ruleOf M 86 (nI r) (nI c) = some (clR P r c, M) := by
  have h14 := hp.2.2.1
  unfold f12_ruleOf
  rw [aO_86 w, r_86_3 w, lit_7, nI_mulN, nI_add, aA_89 w (by omega), nI_clamp (by omega), h.rr r hr c hc]
theorem SM_r0 (w : Wl M) (h : PgM M P o) (hp : WP P) {r : Nat} (hr : r < pR P) : f12_ruleOf M 86 (nI r) 0 = some (nI (rp P r), M) := S12_ruleOf w h hp hr (c := 0) (by omega)
theorem SM_r1 (w : Wl M) (h : PgM M P o) (hp : WP P) {r : Nat} (hr : r < pR P) : f12_ruleOf M 86 (nI r) 1 = some (nI (rg P r), M) := S12_ruleOf w h hp hr (c := 1) (by omega)
theorem SM_r2 (w : Wl M) (h : PgM M P o) (hp : WP P) {r : Nat} (hr : r < pR P) : f12_ruleOf M 86 (nI r) 2 = some (nI (rt P r), M) := S12_ruleOf w h hp hr (c := 2) (by omega)
theorem SM_r3 (w : Wl M) (h : PgM M P o) (hp : WP P) {r : Nat} (hr : r < pR P) : f12_ruleOf M 86 (nI r) 3 = some (nI (rn P r), M) := S12_ruleOf w h hp hr (c := 3) (by omega)
theorem SM_r6 (w : Wl M) (h : PgM M P o) (hp : WP P) {r : Nat} (hr : r < pR P) : f12_ruleOf M 86 (nI r) 6 = some (nI (rc P r), M) := S12_ruleOf w h hp hr (c := 6) (by omega)
theorem SM_r4 (w : Wl M) (h : PgM M P o) (hp : WP P) {r : Nat} (hr : r < pR P) : f12_ruleOf M 86 (nI r) 4 = some (if rn P r = 0 then -1 else nI (ra P r), M) := by
  refine (S12_ruleOf w h hp hr (c := 4) (by omega)).trans ?_
  simp [clR, ra]
theorem SM_r5 (w : Wl M) (h : PgM M P o) (hp : WP P) {r : Nat} (hr : r < pR P) : f12_ruleOf M 86 (nI r) 5 = some (if rn P r ≤ 1 then -1 else nI (rb P r), M) := by
  refine (S12_ruleOf w h hp hr (c := 5) (by omega)).trans ?_
  simp [clR, rb]
theorem SM_isOf {s k : Nat} (hs : s < 2 ^ 31) (hk : k < 32) : f12_isOf M (nI s) (nI k) = some (bI (s.testBit k), M) := by
  unfold f12_isOf
  rw [bS hs hk]
  cases s.testBit k <;> rfl
theorem SM_isHeadOf (w : Wl M) (h : PgM M P o) (hp : WP P) (ho : o < 2 ^ 31) {r p g : Nat} (hr : r < pR P) (h3 : p < 2 ^ 31) (h4 : g < 2 ^ 31) : f12_isHeadOf M 86 (nI r) (nI p) (nI g) = some (bI (rfor P o r p g), M) := by
  have h14 := hp.2.2.1
  have p5 := hp.p5 hr
  have g6 := hp.g6 hr
  unfold f12_isHeadOf rfor rin
  rw [aO_86 w, h.oo, SM_isOf ho (by omega), cI_some, aO_86 w, SM_r0 w h hp hr, cI_some, aO_86 w, SM_r1 w h hp hr, cI_some]
  simp only [c_eq (show rp P r < 2 ^ 31 by omega) h3, c_eq (show rg P r < 2 ^ 31 by omega) h4, bI_0]
  by_cases e0 : o.testBit r <;> by_cases e1 : rp P r = p <;> by_cases e2 : rg P r = g <;> simp [e0, e1, e2, hr, bI]
theorem SM_in (x lo hi : Int32) : f12_in M x lo hi = some (bI (!decide (x < lo) && !decide (hi < x)), M) := by
  unfold f12_in
  by_cases h1 : x < lo <;> by_cases h2 : hi < x <;> simp [h1, h2, bI]
theorem ib_pred {n : Nat} (hn : n < 2 ^ 31) (x : Int32) : (!decide (x < 0) && !decide (nI n - 1 < x)) = ibx n x := by
  unfold ibx
  by_cases h1 : x < 0
  · simp [h1]
  · obtain ⟨j, hj, rfl⟩ := nI_of h1
    rcases n with _ | n
    · rw [nI_01]
      simp only [c_Mlt hj, c_le (show (0 : Nat) < 2 ^ 31 by omega) hj, h1]
      simp
    · rw [nI_sub1 (by omega)]
      simp only [c_lt (show n + 1 - 1 < 2 ^ 31 by omega) hj, c_le hn hj, h1]
      simp
      omega
theorem SM_isState (w : Wl M) (h : PgM M P o) (hp : WP P) (x : Int32) : f12_isState M 86 x = some (bI (ibx (pS P) x), M) := by
  have h5 := hp.1
  unfold f12_isState
  rw [aO_86 w, SM_states w h, cI_some, SM_in, cI_some, gd_e (bI_gd _), ib_pred (by omega)]
theorem SM_isSign (w : Wl M) (h : PgM M P o) (hp : WP P) (x : Int32) : f12_isSign M 86 x = some (bI (ibx (pG P) x), M) := by
  have h6 := hp.2.1
  unfold f12_isSign
  rw [aO_86 w, SM_signs w h, cI_some, SM_in, cI_some, gd_e (bI_gd _), ib_pred (by omega)]
theorem SM_isRule (w : Wl M) (h : PgM M P o) (hp : WP P) (x : Int32) : f12_isRule M 86 x = some (bI (ibx (pR P) x), M) := by
  have h14 := hp.2.2.1
  unfold f12_isRule
  rw [aO_86 w, r_86_1 w, lit_2, aA_87 w (by omega), nI_clamp (by omega), h.r, SM_in, cI_some, gd_e (bI_gd _), ib_pred (by omega)]
end PGM
/-! sums of the reference -/
def mjv (e : Nat) : Int64 := if CAPN < e then -1 else lN e
theorem litJm : (-1 : Int64) < lN 0 := by decide
theorem mjv_lt0 {a : Nat} (h : a ≤ FARN) : (mjv a < 0) = (a = FARN) := by
  unfold mjv
  by_cases c : CAPN < a
  · rw [if_pos c]
    exact eq_iff_iff.mpr ⟨fun _ => by unfold FARN CAPN at *; omega, fun _ => by decide⟩
  · rw [if_neg c]
    exact eq_iff_iff.mpr ⟨fun q => absurd q (lN_ltM (le63 h)), fun q => absurd q (by unfold FARN CAPN at *; omega)⟩
theorem mjv_0le {a : Nat} (h : a ≤ FARN) : (0 ≤ mjv a) = (a ≠ FARN) := by
  have e := mjv_lt0 h
  by_cases c : a = FARN
  · have : mjv a < 0 := by rw [e]; exact c
    exact eq_iff_iff.mpr ⟨fun q => absurd this (Int64.not_lt.mpr q), fun q => absurd c q⟩
  · refine eq_iff_iff.mpr ⟨fun _ => c, fun _ => Int64.not_lt.mp (fun q => c (by rw [← e]; exact q))⟩
theorem mjv_inj {a b : Nat} (ha : a ≤ FARN) (hb : b ≤ FARN) : (mjv a = mjv b) = (a = b) := by
  refine eq_iff_iff.mpr ⟨fun q => ?_, fun q => by rw [q]⟩
  by_cases ca : a = FARN
  · have h1 : mjv a < 0 := by rw [mjv_lt0 ha]; exact ca
    rw [q, mjv_lt0 hb] at h1
    omega
  · by_cases cb : b = FARN
    · have h1 : mjv b < 0 := by rw [mjv_lt0 hb]; exact cb
      rw [← q, mjv_lt0 ha] at h1
      omega
    · unfold mjv at q
      rw [if_neg (by unfold FARN CAPN at *; omega), if_neg (by unfold FARN CAPN at *; omega)] at q
      exact (lN_eqN (le63 ha) (le63 hb)).mp q
theorem mjv_small {a : Nat} (h : a ≤ CAPN) : mjv a = lN a := if_neg (by omega)
theorem mjv_far : mjv FARN = -1 := if_pos (by decide)
theorem SM_sum {M : MM} {a b : Nat} (ha : a ≤ FARN) (hb : b ≤ FARN) : f12_sum M (mjv a) (mjv b) = some (mjv (cp a b), M) := by
  unfold f12_sum f12_sum_b12 f12_sum_b21
  simp only [mjv_lt0 ha, mjv_0le hb]
  have hm : ((-1 : Int64) ≤ 1000000000000000) := by decide
  by_cases ca : a = FARN
  · rw [if_pos ca, if_pos hm, ca, cp_F', mjv_far]
  · rw [if_neg ca]
    by_cases cb : b = FARN
    · rw [if_neg (fun q => q cb), if_pos hm, cb, cp_F, mjv_far]
    · have h1 : a ≤ CAPN := by unfold FARN CAPN at *; omega
      have h2 : b ≤ CAPN := by unfold FARN CAPN at *; omega
      have h3 : a + b < 2 ^ 63 := by unfold CAPN at *; omega
      rw [if_pos cb, mjv_small h1, mjv_small h2, lN_add, litC]
      simp only [lN_leN h3 (show CAPN < 2 ^ 63 by decide)]
      have hc : ¬ (FARN ≤ a ∨ FARN ≤ b) := by unfold FARN CAPN at *; omega
      unfold cp
      rw [if_neg hc]
      by_cases c : a + b ≤ CAPN
      · rw [if_pos c, if_neg (by omega), mjv_small c]
      · rw [if_neg c, if_pos (by omega), mjv_small (Nat.le_refl _)]
theorem SM_lesser {M : MM} {a b : Nat} (ha : a ≤ FARN) (hb : b ≤ FARN) : f12_lesser M (mjv a) (mjv b) = some (mjv (min a b), M) := by
  unfold f12_lesser f12_lesser_b22
  simp only [mjv_lt0 hb, mjv_0le ha]
  by_cases ca : a = FARN
  · rw [if_neg (fun q => q ca), Nat.min_eq_right (by omega)]
  · rw [if_pos ca]
    by_cases cb : b = FARN
    · rw [if_pos cb, Nat.min_eq_left (by omega)]
    · rw [if_neg cb, mjv_small (by unfold FARN CAPN at *; omega), mjv_small (by unfold FARN CAPN at *; omega)]
      simp only [lN_leN (le63 hb) (le63 ha)]
      by_cases c : b ≤ a
      · rw [if_pos c, Nat.min_eq_right c, mjv_small (by unfold FARN CAPN at *; omega)]
      · rw [if_neg c, Nat.min_eq_left (by omega), mjv_small (by unfold FARN CAPN at *; omega)]
def mjR (E : Nat → Nat) (g : Nat → Int64) : Nat → Int64 := fun i => if i < 630 then mjv (E i) else g i
theorem mjR_upx {E : Nat → Nat} {g : Nat → Int64} {k v : Nat} (hk : k < 630) : upx (mjR E g) k (mjv v) = mjR (upx E k v) g := by
  funext i
  rw [upx_e]
  unfold mjR
  by_cases q : i = k
  · subst q
    rw [if_pos rfl, if_pos hk, upx_e, if_pos rfl]
  · rw [if_neg q, upx_e, if_neg q]
def OfA (oa : Nat) : Prop := oa = 99 ∨ oa = 100
/-- where the reference's nodes go on -/
def gtM (M : MM) (y g : Nat) : Int32 := if nI ((y - 5) % 4) = mI M 96 ((y - 5) / 4) then (if mI M 97 ((y - 5) / 4) = 1 then nI y else -1) else if mI M 96 ((y - 5) / 4) ≤ nI ((y - 5) % 4) then -1 else if mI M 98 (3 * ((y - 5) / 4) + (y - 5) % 4) = nI g then nI (y + 1) else -1
def DM (M : MM) (y g x : Nat) : Bool := decide (gtM M y g = nI x)
/-- the sizes of targets, told and old -/
def SzM (M : MM) : Prop := ∀ k, k < 4 → ∃ n, n ≤ 3 ∧ mI M 96 k = nI n
section TGM
variable {M : MM} {P : PG} {o oa : Nat}
theorem Of.a (w : Wl M) (h : OfA oa) {β : Type} {q : Option β} {i : Nat} (hi : i < 630) : aA M oa 1 (nI i) q = q := by
  rcases h with rfl | rfl
  · exact aA_99 w hi
  · exact aA_100 w hi
theorem SM_goesTo (w : Wl M) (hs : SzM M) {y g : Nat} (hy : 5 ≤ y) (hy2 : y < 21) : f12_goesTo M 86 (nI y) (nI g) = some (gtM M y g, M) := by
  obtain ⟨n, hn, en⟩ := hs ((y - 5) / 4) (by omega)
  unfold f12_goesTo gtM
  rw [lit_4, lit_5, nI_subN hy, gd_e (by decide), nI_div (by omega) (by omega) (by omega), bW_e, gd_e (by decide), nI_mulN, nI_subN (Nat.div_mul_le_self _ _), bW_e, aO_86 w, r_86_25 w, aA_96 w (by omega), nI_clamp (by omega), show y - 5 - (y - 5) / 4 * 4 = (y - 5) % 4 by omega, aO_86 w, r_86_26 w, aA_97 w (by omega), aO_86 w, aA_96 w (by omega), en]
  by_cases c1 : nI ((y - 5) % 4) = nI n
  · rw [if_pos c1, if_pos c1]
    split <;> rfl
  · rw [if_neg c1, if_neg c1]
    by_cases c2 : nI n ≤ nI ((y - 5) % 4)
    · rw [if_pos c2, if_pos c2]
    · rw [if_neg c2, if_neg c2]
      have c3 : (y - 5) % 4 < n := Nat.lt_of_not_le fun q => c2 (nI_le q (by omega))
      rw [aO_86 w, r_86_27 w, lit_3, nI_mulN, nI_add, aA_98 w (by omega), nI_clamp (by omega), nI_1]
      split <;> rfl
theorem ix21 {p g x : Nat} : (21 : Int32) * (6 * nI p + nI g) + nI x = nI (ix 21 p g x) := by
  rw [lit_6, lit_21, nI_mulN, nI_add, nI_mulN, nI_add]
  unfold ix
  rw [Nat.mul_comm 21]
theorem ix21_lt {p g x : Nat} (hp : p < 5) (hg : g < 6) (hx : x < 21) : ix 21 p g x < 630 := ix_lt hp hg hx
theorem SM_cell {p g x : Nat} : f12_cell M 86 (nI p) (nI g) (nI x) = some (nI (ix 21 p g x), M) := by
  unfold f12_cell
  rw [ix21]
theorem SM_costOf (w : Wl M) (ha : OfA oa) {p g x : Nat} (hp : p < 5) (hg : g < 6) (hx : x < 21) : f12_costOf M 86 oa (nI p) (nI g) (nI x) = some (mJ M oa (ix 21 p g x), M) := by
  have := ix21_lt hp hg hx
  unfold f12_costOf
  rw [aO_86 w, SM_cell, cI_some, Of.a w ha this, nI_clamp (by omega)]
theorem SM_onBy (w : Wl M) (ha : OfA oa) (hs : SzM M) {E : Nat → Nat} {gg : Nat → Int64} (hE : mJ M oa = mjR E gg) {y g x : Nat} (hy : y < 21) (hg : g < 6) (hx : x < 21) : f12_onBy M 86 oa (nI y) (nI g) (nI x) = some (mjv (onw 21 (DM M) E y g x), M) := by
  unfold f12_onBy onw
  rw [lit_5]
  by_cases c : y < 5
  · rw [if_neg (nI_ge c (by omega)), if_pos c, aO_86 w, SM_costOf w ha c hg hx, cJ_some, hE]
    unfold mjR
    rw [if_pos (ix21_lt c hg hx)]
  · rw [if_pos (nI_le (by omega) (by omega)), if_neg c, aO_86 w, SM_goesTo w hs (by omega) hy, cI_some]
    unfold DM
    by_cases d : gtM M y g = nI x
    · rw [if_pos d, decide_eq_true d, if_pos rfl]
      rfl
    · rw [if_neg d, decide_eq_false d, if_neg (by decide), mjv_far]
/-- behind a rule, to a node -/
def byR (D : Nat → Nat → Nat → Bool) (P : PG) (E : Nat → Nat) (r x : Nat) : Nat :=
  if rn P r = 0 then (if x = rt P r then 0 else FARN) else if rn P r = 1 then E (ix 21 (rt P r) (ra P r) x) else mnf (fun y => cp (E (ix 21 (rt P r) (ra P r) y)) (onw 21 D E y (rb P r) x)) 21
theorem LM_byRule (w : Wl M) (ha : OfA oa) (hs : SzM M) (h : PgM M P o) (hp : WP P) {E : Nat → Nat} {gg : Nat → Int64} (hE : mJ M oa = mjR E gg) (bE : Bd 630 E) {r x : Nat} (hr : r < pR P) (hx : x < 21) (h2 : rn P r = 2) :
    ∀ (d j : Nat), j + d = 21 → ∀ f, d < f → LP8 f12_byRule_b64_body f M 86 oa (nI r) (nI x) (nI (rt P r)) (mjv (mnf (fun y => cp (E (ix 21 (rt P r) (ra P r) y)) (onw 21 (DM M) E y (rb P r) x)) j)) (nI j) = some (mjv (mnf (fun y => cp (E (ix 21 (rt P r) (ra P r) y)) (onw 21 (DM M) E y (rb P r) x)) 21), M)
  | 0, j, hj, f + 1, _ => by
    have e : j = 21 := by omega
    subst e
    show f12_byRule_b64_body _ _ _ _ _ _ _ _ _ = _
    generalize LP8 f12_byRule_b64_body f = K
    unfold f12_byRule_b64_body
    rw [lit_21, if_pos (nI_le (Nat.le_refl _) (by omega))]
  | d + 1, j, hj, f + 1, hf => by
    have ih := LM_byRule w ha hs h hp hE bE hr hx h2 d (j + 1) (by omega) f (by omega)
    have hj21 : j < 21 := by omega
    have t5 := hp.t5 hr
    have a6 := hp.a6 hr (by omega)
    have b6 := hp.b6 hr (by omega)
    have b1 := bE _ (ix21_lt t5 a6 hj21)
    have b2 : onw 21 (DM M) E j (rb P r) x ≤ FARN := onw_far fun q => bE _ (ix21_lt q b6 hx)
    have b3 := mnf_far (fun y => cp (E (ix 21 (rt P r) (ra P r) y)) (onw 21 (DM M) E y (rb P r) x)) j
    show f12_byRule_b64_body _ _ _ _ _ _ _ _ _ = _
    generalize LP8 f12_byRule_b64_body f = K at ih ⊢
    unfold f12_byRule_b64_body
    rw [lit_21, if_neg (nI_ge hj21 (by clear b3 b2 ih; omega)), aO_86 w, SM_r4 w h hp hr, cI_some, if_neg (by rw [h2]; decide), aO_86 w, SM_costOf w ha t5 a6 hj21, cJ_some, aO_86 w, SM_r5 w h hp hr, cI_some, if_neg (by rw [h2]; decide), aO_86 w, SM_onBy w ha hs hE hj21 b6 hx, cJ_some, hE]
    show cJ (f12_sum M (mjR E gg (ix 21 (rt P r) (ra P r) j)) _) _ = _
    rw [show mjR E gg (ix 21 (rt P r) (ra P r) j) = mjv (E (ix 21 (rt P r) (ra P r) j)) from if_pos (ix21_lt t5 a6 hj21), SM_sum b1 b2, cJ_some, SM_lesser b3 (cp_far _ _), cJ_some, nI_1]
    exact ih
theorem SM_byRule (w : Wl M) (ha : OfA oa) (hs : SzM M) (h : PgM M P o) (hp : WP P) {E : Nat → Nat} {gg : Nat → Int64} (hE : mJ M oa = mjR E gg) (bE : Bd 630 E) {r x : Nat} (hr : r < pR P) (hx : x < 21) : f12_byRule M 86 oa (nI r) (nI x) = some (mjv (byR (DM M) P E r x), M) := by
  have t5 := hp.t5 hr
  have n2 := hp.n2 hr
  unfold f12_byRule byR
  rw [aO_86 w, SM_r2 w h hp hr, cI_some, aO_86 w, SM_r3 w h hp hr, cI_some, aO_86 w, SM_r3 w h hp hr, cI_some]
  simp only [c_eq0 (show rn P r < 2 ^ 31 by omega), c_eq1 (show rn P r < 2 ^ 31 by omega), c_eq (show x < 2 ^ 31 by omega) (show rt P r < 2 ^ 31 by omega)]
  by_cases c0 : rn P r = 0
  · rw [if_pos c0, if_pos c0]
    by_cases c : x = rt P r
    · rw [if_pos c, if_pos c]
      rfl
    · rw [if_neg c, if_neg c, mjv_far]
  · rw [if_neg c0, if_neg c0]
    have a6 := hp.a6 hr (by omega)
    by_cases c1 : rn P r = 1
    · rw [if_pos c1, if_pos c1, aO_86 w, SM_r4 w h hp hr, cI_some, if_neg c0, aO_86 w, SM_costOf w ha t5 a6 hx, cJ_some, hE]
      unfold mjR
      rw [if_pos (ix21_lt t5 a6 hx)]
    · rw [if_neg c1, if_neg c1]
      have q := LM_byRule w ha hs h hp hE bE hr hx (by omega) 21 0 (by omega) FU (FU_big (by omega))
      rw [show mnf (fun y => cp (E (ix 21 (rt P r) (ra P r) y)) (onw 21 (DM M) E y (rb P r) x)) 0 = FARN from rfl, mjv_far] at q
      exact q
end TGM
