/-! THE MOST STEPS: the reference -/
section MOSTM
variable {P : PG} {o : Nat} {cn : Nat → Nat → Nat → Bool} {l : Nat → Bool} {rk : Nat → Nat}
theorem SM_sv {M : MM} {a b : Nat} (ha : a ≤ CAPN + 1) (hb : b ≤ CAPN + 1) : f12_sum M (vv a) (vv b) = some (vv (sm a b), M) := by
  have n0 : f12_sum_b21 M (-1 : Int64) = some (vv 0, M) := rfl
  unfold f12_sum f12_sum_b12
  by_cases c : a = 0
  · rw [if_pos ((vv_lt0 ha).mpr c), c, sm_0', n0]
  · rw [if_neg (fun q => c ((vv_lt0 ha).mp q))]
    by_cases d : b = 0
    · rw [if_neg (fun q => (vv_ge0 hb).mp q d), d, sm_0, n0]
    · obtain ⟨x, rfl⟩ : ∃ x, a = x + 1 := ⟨a - 1, by omega⟩
      obtain ⟨y, rfl⟩ : ∃ y, b = y + 1 := ⟨b - 1, by omega⟩
      have e : sm (x + 1) (y + 1) = min (x + y) CAPN + 1 := by
        unfold sm
        rw [if_neg (by omega)]
        rfl
      rw [if_pos ((vv_ge0 hb).mpr d), e, vv_s, vv_s, vv_s]
      unfold f12_sum_b21
      rw [show lN x + lN y = lN (x + y) from (Int64.ofNat_add x y).symm, litC]
      simp only [lN_leN (show x + y < 2 ^ 63 by unfold CAPN at *; omega) (show CAPN < 2 ^ 63 by unfold CAPN; omega)]
      by_cases q : x + y ≤ CAPN
      · rw [if_pos q, Nat.min_eq_left q]
      · rw [if_neg q, Nat.min_eq_right (by omega)]
theorem SM_longer {M : MM} {a b : Nat} (ha : a ≤ CAPN + 1) (hb : b ≤ CAPN + 1) : f12_longer M (vv a) (vv b) = some (vv (max a b), M) := by
  unfold f12_longer
  simp only [vv_le ha hb]
  by_cases c : a ≤ b
  · rw [if_pos c, Nat.max_eq_right c]
  · rw [if_neg c, Nat.max_eq_left (by omega)]
theorem SM_popCell {M : MM} (w : Wl M) {p g q : Nat} : f12_popCell M 86 (nI p) (nI g) (nI q) = some (nI (5 * (6 * p + g) + q), M) := by
  unfold f12_popCell f12_head
  rw [aO_86 w, cI_some, hd_e', lit_5, nI_mulN, nI_add]
theorem LM_mb127 {M : MM} (hd : HdM M P o cn) (hp : WP P) {A B : Nat → Nat} (h : ABr M 108 109 A B) (bd : Bds A B) {K66 : MM → Nat → Int32 → Int32 → Int32 → Int32 → Int32 → Int64 → Int32 → Option MM} {r q : Nat} (hr : r < pR P) (h2 : rn P r = 2) (hq : q < 5) (hh c : Int64) (x : Int32) : ∀ (d j : Nat), j + d = pS P → ∀ f, d < f →
    LP11 (f12_mostBy_b127_body K66) f M 86 (nI r) x (nI (rt P r)) (nI (ra P r)) (nI (rn P r)) c (nI q) (vv (mxN (fun s => sm (A (5 * hT P r + s)) (A (5 * (6 * s + rb P r) + q))) j)) (nI j) = f12_mostBy_b191 K66 M 86 (nI r) x (nI (rt P r)) (nI (ra P r)) (nI (rn P r)) c (nI q) (vv (mxN (fun s => sm (A (5 * hT P r + s)) (A (5 * (6 * s + rb P r) + q))) (pS P)))
  | 0, j, hj, f + 1, _ => by
    obtain ⟨w, h2', -⟩ := id hd
    have p5 := hp.1
    have e : j = pS P := by omega
    rw [e, LP11_s]
    generalize LP11 (f12_mostBy_b127_body K66) f = K
    unfold f12_mostBy_b127_body
    rw [aO_86 w, SM_states w h2', cI_some, if_pos (nI_le (Nat.le_refl _) (by omega))]
  | d + 1, j, hj, f + 1, hf => by
    obtain ⟨w, h2', -⟩ := id hd
    have p5 := hp.1
    have t5 := hp.t5 hr
    have a6 := hp.a6 hr (by omega)
    have b6 := hp.b6 hr (by omega)
    have ih := LM_mb127 hd hp h bd (K66 := K66) hr h2 hq hh c x d (j + 1) (by omega) f (by omega)
    rw [← ih, LP11_s]
    generalize LP11 (f12_mostBy_b127_body K66) f = K
    unfold f12_mostBy_b127_body
    have e2 : nI (rn P r) = 2 := by rw [h2]; rfl
    have i1 : 5 * (6 * rt P r + ra P r) + j < 150 := by omega
    have i2 : 5 * (6 * j + rb P r) + q < 150 := by omega
    have c1 : mJ M 109 (5 * (6 * rt P r + ra P r) + j) = vv (A (5 * hT P r + j)) := h.1 _ i1
    rw [aO_86 w, SM_states w h2', cI_some, if_neg (nI_ge (by omega) (by omega)), if_pos e2, aO_86 w, aO_86 w, SM_popCell w, cI_some, r_86_41 w, aA_109 w i1, aO_86 w, aO_86 w, SM_r5 w h2' hp hr, cI_some, if_neg (by omega), aO_86 w, SM_popCell w, cI_some, aA_109 w i2, nI_clamp (by omega), nI_clamp (by omega), c1, h.1 _ i2, SM_sv (bd.1 _) (bd.1 _), cJ_some, SM_longer (mxN_le _ (fun s _ => sm_le _ _)) (sm_le _ _), cJ_some, nI_1]
    rfl
/-- a cell's turn -/
theorem LM_mb191 {M : MM} (hd : HdM M P o cn) (hp : WP P) {A B : Nat → Nat} (h : ABr M 108 109 A B) (bd : Bds A B) {K66 : MM → Nat → Int32 → Int32 → Int32 → Int32 → Int32 → Int64 → Int32 → Option MM} {r q : Nat} (hr : r < pR P) (hq : q < 5) {b c : Nat} (hb : b ≤ CAPN + 1) (hc : c ≤ CAPN + 1) {A' : Nat → Nat} (hA' : A' = upx A (5 * hdR P r + q) (max (A (5 * hdR P r + q)) (sm 2 b))) (x : Int32) (hx : 1 ≤ rn P r → x = nI (ra P r)) :
    ∃ M', f12_mostBy_b191 K66 M 86 (nI r) (nI (hdR P r)) (nI (rt P r)) x (nI (rn P r)) (vv c) (nI q) (vv b) = K66 M' 86 (nI r) (nI (hdR P r)) (nI (rt P r)) x (nI (rn P r)) (vv (max c (if rn P r = 2 then sm (A' (5 * hT P r + q)) (B (6 * q + rb P r)) else 0))) (nI (q + 1)) ∧ Sm [] [108, 109] M M' ∧ ABr M' 108 109 A' B := by
  obtain ⟨w, h2', -⟩ := id hd
  have hl := hd_lt hp hr
  have t5 := hp.t5 hr
  have n2 := hp.n2 hr
  have i0 : 5 * hdR P r + q < 150 := by omega
  have c2 : 2 ≤ CAPN + 1 := by unfold CAPN; omega
  obtain ⟨M', hM'⟩ : ∃ M', M' = uJ M 109 (upx (mJ M 109) (5 * hdR P r + q) (vv (max (A (5 * hdR P r + q)) (sm 2 b)))) := ⟨_, rfl⟩
  have s' : Sm [] [108, 109] M M' := by rw [hM']; exact (Sm.rfl _ _ M).uJ _ (by decide)
  have w' := w.sm s'
  have h' : ABr M' 108 109 A' B := by
    refine ⟨fun i hi => ?_, fun y hy => ?_⟩
    · rw [hM', mJ_uJ, if_pos rfl, hA', upx_e, upx_e]
      by_cases e : i = 5 * hdR P r + q
      · rw [if_pos e, if_pos e]
      · rw [if_neg e, if_neg e, h.1 i hi]
    · rw [hM', mJ_uJ, if_neg (by decide)]
      exact h.2 y hy
  have bA' : ∀ i, A' i ≤ CAPN + 1 := fun i => by
    rw [hA', upx_e]
    split
    · exact Nat.max_le.mpr ⟨bd.1 _, sm_le _ _⟩
    · exact bd.1 i
  have hg' : HdM M' P o cn := hd.sm s' (by rw [s'.i 86 (by decide)]) (by decide) (by decide)
  refine ⟨M', ?_, s', h'⟩
  unfold f12_mostBy_b191 f12_mostBy_b272
  rw [aO_86 w, aO_86 w, r_86_41 w, lit_5, nI_mulN, nI_add, aA_109 w i0, vv_2, SM_sv c2 hb, cJ_some, nI_clamp (by omega), h.1 _ i0, SM_longer (bd.1 _) (sm_le _ _), cJ_some, aA_109 w i0, bM_e, sJ_e, ← hM']
  by_cases e : rn P r = 2
  · have a6 := hp.a6 hr (by omega)
    have b6 := hp.b6 hr (by omega)
    have i1 : 5 * (6 * rt P r + ra P r) + q < 150 := by omega
    have i2 : 6 * q + rb P r < 30 := by omega
    have c1 : mJ M' 109 (5 * (6 * rt P r + ra P r) + q) = vv (A' (5 * hT P r + q)) := h'.1 _ i1
    rw [if_pos (show nI (rn P r) = 2 by rw [e]; rfl), hx (by omega), aO_86 w', aO_86 w', SM_popCell w', cI_some, r_86_41 w', aA_109 w' i1, aO_86 w', aO_86 w']
    rw [show nI 5 = (5 : Int32) from rfl, SM_r5 w' hg'.2.1 hp hr, cI_some, if_neg (by omega), aO_86 w']
    unfold f12_head
    rw [cI_some, hd_e', r_86_40 w', aA_108 w' i2, nI_clamp (by omega), nI_clamp (by omega), c1, h'.2 _ i2, SM_sv (bA' _) (bd.2 _).2, cJ_some, SM_longer hc (sm_le _ _), cJ_some, nI_1, if_pos e]
  · rw [if_neg (show ¬ nI (rn P r) = 2 by rw [c_eq2 (by omega)]; exact e), nI_1, if_neg e, Nat.max_eq_left (Nat.zero_le _)]
end MOSTM
