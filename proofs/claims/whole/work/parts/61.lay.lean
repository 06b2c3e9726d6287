/-! THE REFERENCE'S SEARCH FOR THE LEAST SUMS -/
def TgM (M : MM) (T : TG) : Prop := mI M 86 30 = nI (tK T) ∧ tK T ≤ 4 ∧ SzM M ∧ ∀ k, k < tK T → mI M 95 k = nI (tS T k) ∧ tS T k < 5 ∧ mI M 96 k = nI (tN T k) ∧ tN T k ≤ 3 ∧ mI M 97 k = nI (tM T k) ∧ tM T k ≤ 1 ∧ ∀ i, i < tN T k → mI M 98 (3 * k + i) = nI (tG T k i) ∧ tG T k i < 6
def EM (S : Nat → Bool) : Nat → Nat := fun i => if S i then 0 else FARN
theorem EM_bd {S : Nat → Bool} {K : Nat} : Bd K (EM S) := fun i _ => by
  unfold EM
  split
  · exact Nat.zero_le _
  · exact Nat.le_refl _
theorem EM_up {S : Nat → Bool} {k : Nat} : upx (EM S) k 0 = EM (fun i => S i || i == k) := by
  funext i
  rw [upx_e]
  unfold EM
  by_cases q : i = k
  · subst q
    simp
  · simp [q]
def zM (T : TG) (k g i : Nat) : Bool := if tN T k = 0 then decide (tM T k = 1) && i == ix 21 (tS T k) g (5 + 4 * k) else decide (tG T k 0 = g) && i == ix 21 (tS T k) g (5 + 4 * k + 1)
def initM (sg : Nat) (T : TG) (i : Nat) : Bool := (List.range (tK T)).any (fun k => (List.range sg).any (fun g => zM T k g i))
def mi (M : MM) (oa : Nat) (S : Nat → Bool) (gg : Nat → Int64) : MM := uJ M oa (mjR (EM S) gg)
section LAY
variable {M : MM} {P : PG} {o oa : Nat}
theorem mi_set {S : Nat → Bool} {gg : Nat → Int64} {k : Nat} (hk : k < 630) : sJ (mi M oa S gg) oa k 0 = mi M oa (fun i => S i || i == k) gg := by
  unfold mi
  rw [sJ_e, mJ_uJ, if_pos rfl, uJ_uJ, show (0 : Int64) = mjv 0 from rfl, mjR_upx hk, EM_up]
theorem LM_lay33 (w : Wl M) (ha : OfA oa) (h : PgM M P o) (hp : WP P) {T : TG} (hT : TgM M T) {k : Nat} (hk : k < tK T) {S : Nat → Bool} {gg : Nat → Int64} {K23 : MM → Nat → Nat → Int32 → Option MM} :
    ∀ (d j : Nat), j + d = pG P → ∀ f, d < f → LP5 (f12_lay_b33_body K23) f (mi M oa (fun i => S i || (List.range j).any (fun g => zM T k g i)) gg) 86 oa (nI k) (nI j) = K23 (mi M oa (fun i => S i || (List.range (pG P)).any (fun g => zM T k g i)) gg) 86 oa (nI (k + 1))
  | 0, j, hj, f + 1, _ => by
    have e : j = pG P := by omega
    have g6 := hp.2.1
    subst e
    have wm : ∀ {S}, Wl (mi M oa S gg) := w
    have hm : ∀ {S}, PgM (mi M oa S gg) P o := h
    show f12_lay_b33_body _ _ _ _ _ _ _ = _
    generalize LP5 (f12_lay_b33_body K23) f = K
    unfold f12_lay_b33_body
    rw [aO_86 wm, SM_signs wm hm, cI_some, if_pos (nI_le (Nat.le_refl _) (by omega)), nI_1]
  | d + 1, j, hj, f + 1, hf => by
    have g6 := hp.2.1
    have hj6 : j < 6 := by omega
    have wm : ∀ {S}, Wl (mi M oa S gg) := w
    have hm : ∀ {S}, PgM (mi M oa S gg) P o := h
    have ih := LM_lay33 w ha h hp hT hk (S := S) (gg := gg) (K23 := K23) d (j + 1) (by omega) f (by omega)
    show f12_lay_b33_body _ _ _ _ _ _ _ = _
    generalize LP5 (f12_lay_b33_body K23) f = K at ih ⊢
    obtain ⟨t1, t2, t3, t4⟩ := hT
    obtain ⟨k1, k2, k3, k4, k5, k6, k7⟩ := t4 k hk
    unfold f12_lay_b33_body f12_lay_b83 f12_lay_b124
    have hk4 : k < 4 := by omega
    rw [aO_86 wm, SM_signs wm hm, cI_some, if_neg (nI_ge (by omega) (by omega)), aO_86 wm, r_86_25 wm, aA_96 wm hk4, nI_clamp (by omega), aO_86 wm, r_86_26 wm, aA_97 wm hk4, nI_1]
    show (if mI M 96 k = 0 then if mI M 97 k = 1 then _ else _ else _) = _
    rw [k3, k5]
    simp only [c_eq0 (show tN T k < 2 ^ 31 by omega), c_eq1 (show tM T k < 2 ^ 31 by omega)]
    rw [aO_86 wm, r_86_24 wm, aA_95 wm hk4, aO_86 wm]
    have e83 : ∀ (S : Nat → Bool) (w2 : Wl (mi M oa S gg)), aO (mi M oa S gg) 86 12 (aA (mi M oa S gg) 96 0 (nI k) (if mI (mi M oa S gg) 96 k ≤ 0 then K (mi M oa S gg) 86 oa (nI k) (nI (j + 1)) else aO (mi M oa S gg) 86 12 (aA (mi M oa S gg) (mR (mi M oa S gg) 86 27) 0 (3 * nI k) (if mI (mi M oa S gg) (mR (mi M oa S gg) 86 27) (3 * nI k).toNatClampNeg = nI j then aO (mi M oa S gg) 86 12 (aA (mi M oa S gg) 95 0 (nI k) (aO (mi M oa S gg) 86 12 (cI (f12_nodeOf (mi M oa S gg) 86 (nI k) 1) fun r116 M116 => aO M116 86 12 (cI (f12_cell M116 86 (mI (mi M oa S gg) 95 k) (nI j) r116) fun r119 M119 => aA M119 oa 1 r119 (bM (sJ M119 oa r119.toNatClampNeg 0) fun M123 => K M123 86 oa (nI k) (nI (j + 1))))))) else K (mi M oa S gg) 86 oa (nI k) (nI (j + 1)))))) = if tN T k = 0 then K (mi M oa S gg) 86 oa (nI k) (nI (j + 1)) else if tG T k 0 = j then K (mi M oa (fun i => S i || i == ix 21 (tS T k) j (5 + 4 * k + 1)) gg) 86 oa (nI k) (nI (j + 1)) else K (mi M oa S gg) 86 oa (nI k) (nI (j + 1)) := by
      intro S w2
      rw [aO_86 w2, aA_96 w2 hk4, show mI (mi M oa S gg) 96 k = nI (tN T k) from k3]
      simp only [c_le0 (show tN T k < 2 ^ 31 by omega)]
      by_cases c0 : tN T k = 0
      · rw [if_pos c0, if_pos c0]
      · rw [if_neg c0, if_neg c0]
        obtain ⟨q1, q2⟩ := k7 0 (by omega)
        rw [aO_86 w2, r_86_27 w2, lit_3, nI_mulN, aA_98 w2 (by omega), nI_clamp (by omega), show mI (mi M oa S gg) 98 (3 * k) = nI (tG T k 0) from q1]
        simp only [c_eq (show tG T k 0 < 2 ^ 31 by omega) (show j < 2 ^ 31 by omega)]
        by_cases c1 : tG T k 0 = j
        · rw [if_pos c1, if_pos c1, aO_86 w2, aA_95 w2 hk4, aO_86 w2]
          unfold f12_nodeOf
          rw [lit_5, lit_4, lit_1, nI_mulN, nI_add, nI_add, cI_some, aO_86 w2, show mI (mi M oa S gg) 95 k = nI (tS T k) from k1, SM_cell, cI_some, Of.a w2 ha (ix21_lt k2 hj6 (by omega)), nI_clamp (by have := ix21_lt k2 hj6 (show 5 + 4 * k + 1 < 21 by omega); omega), bM_e, mi_set (ix21_lt k2 hj6 (by omega))]
        · rw [if_neg c1, if_neg c1]
    rw [e83 _ wm]
    by_cases c0 : tN T k = 0
    · rw [if_pos c0, if_pos c0]
      by_cases c1 : tM T k = 1
      · rw [if_pos c1]
        unfold f12_nodeOf
        rw [lit_5, lit_4, nI_mulN, nI_add, nI_add0, cI_some, aO_86 wm, show mI (mi M oa (fun i => S i || (List.range j).any (fun g => zM T k g i)) gg) 95 k = nI (tS T k) from k1, SM_cell, cI_some, Of.a wm ha (ix21_lt k2 hj6 (by omega)), nI_clamp (by have := ix21_lt k2 hj6 (show 5 + 4 * k < 21 by omega); omega), bM_e, mi_set (ix21_lt k2 hj6 (by omega)), ← ih]
        congr 2
        funext i
        rw [any_succ, ← Bool.or_assoc]
        congr 1
        unfold zM
        rw [if_pos c0, decide_eq_true c1, Bool.true_and]
      · rw [if_neg c1, ← ih]
        congr 2
        funext i
        rw [any_succ, ← Bool.or_assoc]
        have : zM T k j i = false := by
          unfold zM
          rw [if_pos c0, decide_eq_false c1, Bool.false_and]
        rw [this, Bool.or_false]
    · rw [if_neg c0, if_neg c0]
      by_cases c1 : tG T k 0 = j
      · rw [if_pos c1, ← ih]
        congr 2
        funext i
        rw [any_succ, ← Bool.or_assoc]
        congr 1
        unfold zM
        rw [if_neg c0, decide_eq_true c1, Bool.true_and]
      · rw [if_neg c1, ← ih]
        congr 2
        funext i
        rw [any_succ, ← Bool.or_assoc]
        have : zM T k j i = false := by
          unfold zM
          rw [if_neg c0, decide_eq_false c1, Bool.false_and]
        rw [this, Bool.or_false]
theorem LM_lay23 (w : Wl M) (ha : OfA oa) (h : PgM M P o) (hp : WP P) {T : TG} (hT : TgM M T) {gg : Nat → Int64} :
    ∀ (d j : Nat), j + d = tK T → ∀ f, d < f → LP4 f12_lay_b23_body f (mi M oa (fun i => (List.range j).any (fun k => (List.range (pG P)).any (fun g => zM T k g i))) gg) 86 oa (nI j) = f12_lay_b138 (mi M oa (initM (pG P) T) gg) 86 oa 1
  | 0, j, hj, f + 1, _ => by
    have e : j = tK T := by omega
    have wm : ∀ {S}, Wl (mi M oa S gg) := w
    have k4 := hT.2.1
    subst e
    show f12_lay_b23_body _ _ _ _ _ = _
    generalize LP4 f12_lay_b23_body f = K
    unfold f12_lay_b23_body
    rw [aO_86 wm]
    show (if mI M 86 30 ≤ nI (tK T) then _ else _) = _
    rw [hT.1, if_pos (nI_le (Nat.le_refl _) (by omega))]
    rfl
  | d + 1, j, hj, f + 1, hf => by
    have wm : ∀ {S}, Wl (mi M oa S gg) := w
    have k4 := hT.2.1
    have ih := LM_lay23 w ha h hp hT (gg := gg) d (j + 1) (by omega) f (by omega)
    show f12_lay_b23_body _ _ _ _ _ = _
    generalize LP4 f12_lay_b23_body f = K at ih ⊢
    unfold f12_lay_b23_body f12_lay_b33
    rw [aO_86 wm]
    show (if mI M 86 30 ≤ nI j then _ else _) = _
    rw [hT.1, if_neg (nI_ge (by omega) (by omega)), ← ih]
    have q := LM_lay33 w ha h hp hT (k := j) (by omega) (S := fun i => (List.range j).any (fun k => (List.range (pG P)).any (fun g => zM T k g i))) (gg := gg) (K23 := K) (pG P) 0 (by omega) FU (FU_big (by have := hp.2.1; omega))
    refine Eq.trans ?_ (q.trans ?_)
    · show _ = LP5 (f12_lay_b33_body K) FU _ 86 oa (nI j) (nI 0)
      rw [lit_0]
      congr 2
      funext i
      simp
    · congr 2
      funext i
      rw [any_succ]
theorem LM_lay2 (w : Wl M) (ha : OfA oa) {gg : Nat → Int64} :
    ∀ (d j : Nat), j + d = 630 → ∀ f, d < f → LP4 f12_lay_b2_body f (uJ M oa (fun i => if i < j then -1 else gg i)) 86 oa (nI j) = f12_lay_b23 (mi M oa (fun _ => false) gg) 86 oa 0
  | 0, j, hj, f + 1, _ => by
    show f12_lay_b2_body _ _ _ _ _ = _
    generalize LP4 f12_lay_b2_body f = K
    unfold f12_lay_b2_body mi
    have e : j = 630 := hj
    subst e
    rw [lit_630, if_pos (nI_le (Nat.le_refl _) (by omega))]
    congr 1
  | d + 1, j, hj, f + 1, hf => by
    have wm : ∀ {r}, Wl (uJ M oa r) := w
    have hj6 : j < 630 := by omega
    have ih := LM_lay2 w ha (gg := gg) d (j + 1) (by omega) f (by omega)
    show f12_lay_b2_body _ _ _ _ _ = _
    generalize LP4 f12_lay_b2_body f = K at ih ⊢
    unfold f12_lay_b2_body
    rw [lit_630, if_neg (nI_ge hj6 (by omega)), Of.a wm ha hj6, bM_e, nI_clamp (by omega), sJ_e, mJ_uJ, if_pos rfl, uJ_uJ, nI_1, ← ih]
    congr 2
    funext i
    rw [upx_e]
    by_cases c : i = j
    · rw [if_pos c, if_pos (by omega)]
    · by_cases c2 : i < j
      · rw [if_neg c, if_pos c2, if_pos (by omega)]
      · rw [if_neg c, if_neg c2, if_neg (by omega)]
theorem byR_far {D : Nat → Nat → Nat → Bool} {E : Nat → Nat} {r x : Nat} (hp : WP P) (hr : r < pR P) (bE : Bd 630 E) (hx : x < 21) : byR D P E r x ≤ FARN := by
  have n2 := hp.n2 hr
  unfold byR
  split
  · split
    · exact Nat.zero_le _
    · exact Nat.le_refl _
  · split
    · exact bE _ (ix21_lt (hp.t5 hr) (hp.a6 hr (by omega)) hx)
    · exact mnf_far _ _
theorem byR_step {D : Nat → Nat → Nat → Bool} {N E : Nat → Nat} {r : Nat} (hp : WP P) (hr : r < pR P) : (∀ x, x < 21 → N (ix 21 (rp P r) (rg P r) x) ≤ cp (rc P r) (byR D P E r x)) → StepR 21 D P N E r := by
  intro h
  have t5 := hp.t5 hr
  refine ⟨fun h0 => ?_, fun h1 x hx => ?_, fun h2 x hx y hy => ?_⟩
  · have q := h (rt P r) (by omega)
    unfold byR at q
    rw [if_pos h0, if_pos rfl] at q
    have c99 := hp.c99 hr
    unfold cp at q
    unfold FARN CAPN at q
    simp at q
    split at q
    · omega
    · split at q <;> omega
  · have q := h x hx
    unfold byR at q
    rw [if_neg (by omega), if_pos h1] at q
    exact q
  · have q := h x hx
    unfold byR at q
    rw [if_neg (by omega), if_neg (by omega)] at q
    exact Nat.le_trans q (cp_mono (Nat.le_refl _) (mnf_le _ 21 y hy))
theorem step_byR {D : Nat → Nat → Nat → Bool} {N : Nat → Nat} {r : Nat} (hp : WP P) (hr : r < pR P) (bN : ∀ e, e < 30 * 21 → N e ≤ FARN) (h : StepR 21 D P N N r) {x : Nat} (hx : x < 21) : N (ix 21 (rp P r) (rg P r) x) ≤ cp (rc P r) (byR D P N r x) := by
  have n2 := hp.n2 hr
  have c99 := hp.c99 hr
  have bx := bN _ (ix_lt (hp.p5 hr) (hp.g6 hr) hx)
  unfold byR
  by_cases c0 : rn P r = 0
  · rw [if_pos c0]
    by_cases c : x = rt P r
    · rw [if_pos c]
      subst c
      refine Nat.le_trans (h.1 c0) (cp_geL ?_)
      unfold FARN
      omega
    · rw [if_neg c, cp_F]
      exact bx
  · rw [if_neg c0]
    by_cases c1 : rn P r = 1
    · rw [if_pos c1]
      exact h.2.1 c1 x hx
    · rw [if_neg c1]
      rcases mnf_ex (fun y => cp (N (ix 21 (rt P r) (ra P r) y)) (onw 21 D N y (rb P r) x)) 21 with q | ⟨y, hy, q⟩
      · rw [q, cp_F]
        exact bx
      · rw [q]
        exact h.2.2 (by omega) x hx y hy
theorem byR_mono {D : Nat → Nat → Nat → Bool} {N E : Nat → Nat} {r x : Nat} (hp : WP P) (hr : r < pR P) (h : ∀ e, e < 30 * 21 → N e ≤ E e) (hx : x < 21) : byR D P N r x ≤ byR D P E r x := by
  have n2 := hp.n2 hr
  unfold byR
  by_cases c0 : rn P r = 0
  · rw [if_pos c0, if_pos c0]
    exact Nat.le_refl _
  · rw [if_neg c0, if_neg c0]
    have a6 := hp.a6 hr (by omega)
    by_cases c1 : rn P r = 1
    · rw [if_pos c1, if_pos c1]
      exact h _ (ix_lt (hp.t5 hr) a6 hx)
    · rw [if_neg c1, if_neg c1]
      have b6 := hp.b6 hr (by omega)
      refine mnf_ge 21 (mnf_far _ _) (fun y hy => Nat.le_trans (mnf_le _ 21 y hy) (cp_mono (h _ (ix_lt (hp.t5 hr) a6 hy)) (onw_mono fun q => h _ (ix_lt q b6 hx))))
end LAY
