/-! THE REFERENCE'S SEARCH: its rounds -/
section LAY2
variable {M : MM} {P : PG} {o oa : Nat}
theorem LM_lay159 (w : Wl M) (ha : OfA oa) (hs : SzM M) (h : PgM M P o) (hp : WP P) (ho : o < 2 ^ 31) {gg : Nat → Int64} {r : Nat} (hr : rin P o r = true) :
    ∀ (d j : Nat), j + d = 21 → ∀ f, d < f → ∀ (E : Nat → Nat) (ch : Bool), Bd 630 E →
    ∃ E' ch', (∀ K, LP6 (f12_lay_b159_body K) f (uJ M oa (mjR E gg)) 86 oa (bI ch) (nI r) (nI j) = K (uJ M oa (mjR E' gg)) 86 oa (bI ch') (nI (r + 1))) ∧ Dw 21 (DM M) P o E E' ∧
      (∀ x, j ≤ x → x < 21 → E' (ix 21 (rp P r) (rg P r) x) ≤ cp (rc P r) (byR (DM M) P E r x)) ∧ (ch' = false → ch = false ∧ E' = E) ∧ (ch' = true → ch = true ∨ ∃ e, e < 630 ∧ E' e < E e)
  | 0, j, hj, f + 1, _, E, ch, bE => by
    refine ⟨E, ch, fun K => ?_, Dw.rfl, fun x h1 h2 => absurd h1 (by omega), fun q => ⟨q, rfl⟩, fun q => .inl q⟩
    show f12_lay_b159_body _ _ _ _ _ _ _ _ = _
    unfold f12_lay_b159_body f12_lay_b249
    rw [lit_21, if_pos (nI_le (by omega) (by omega)), nI_1]
  | d + 1, j, hj, f + 1, hf, E, ch, bE => by
    have hj21 : j < 21 := by omega
    have hl := rin_lt hr
    have p5 := hp.p5 hl
    have g6 := hp.g6 hl
    have c99 := hp.c99 hl
    have h14 := hp.2.2.1
    have hi : ix 21 (rp P r) (rg P r) j < 630 := ix21_lt p5 g6 hj21
    have ho2 : o.testBit r = false := by
      unfold rin at hr
      simp at hr
      exact hr.2
    have hD : Dw 21 (DM M) P o E (lowE E (ix 21 (rp P r) (rg P r) j) (cp (rc P r) (byR (DM M) P E r j))) := Dw.low hi (fun N hN => Nat.le_trans (step_byR hp hl hN.1 (hN.2.1 r hr) hj21) (cp_mono (Nat.le_refl _) (byR_mono hp hl hN.2.2 hj21)))
    obtain ⟨E', ch', h1, h2, h3, h4, h5⟩ := LM_lay159 w ha hs h hp ho (gg := gg) hr d (j + 1) (by omega) f (by omega) (lowE E (ix 21 (rp P r) (rg P r) j) (cp (rc P r) (byR (DM M) P E r j))) (if cp (rc P r) (byR (DM M) P E r j) < E (ix 21 (rp P r) (rg P r) j) then true else ch) (hD.bd bE)
    refine ⟨E', ch', fun K => ?_, hD.trans h2, fun x hx1 hx2 => ?_, fun q => ?_, fun q => ?_⟩
    · rw [← h1 K]
      show f12_lay_b159_body _ _ _ _ _ _ _ _ = _
      generalize LP6 (f12_lay_b159_body K) f = K2
      have wm : ∀ {r}, Wl (uJ M oa r) := w
      have hm : ∀ {r}, PgM (uJ M oa r) P o := h
      have hsm : ∀ {r}, SzM (uJ M oa r) := hs
      have eE : mJ (uJ M oa (mjR E gg)) oa = mjR E gg := by rw [mJ_uJ, if_pos rfl]
      have b1 := bE _ hi
      have b2 : byR (DM M) P E r j ≤ FARN := byR_far hp hl bE hj21
      have b3 := cp_far (rc P r) (byR (DM M) P E r j)
      have hc : (nI (rc P r)).toInt64 = mjv (rc P r) := by
        rw [nI_l64 (by omega), mjv_small (by unfold CAPN; omega)]
      have cF : rc P r ≤ FARN := by unfold FARN; omega
      unfold f12_lay_b159_body f12_lay_b243
      rw [lit_21, if_neg (nI_ge hj21 (by omega)), aO_86 wm, show mI (uJ M oa (mjR E gg)) 86 5 = nI o from h.oo, SM_isOf ho (by omega), cI_some, ho2, bI_f, if_pos rfl, aO_86 wm, SM_r0 wm hm hp hl, cI_some, aO_86 wm, SM_r1 wm hm hp hl, cI_some, aO_86 wm, SM_cell, cI_some, Of.a wm ha hi, aO_86 wm, SM_r6 wm hm hp hl, cI_some, aO_86 wm, SM_byRule wm ha hsm hm hp eE bE hl hj21, cJ_some, hc, nI_clamp (by omega), eE]
      show cJ (f12_sum _ (mjv (rc P r)) (mjv (byR (DM M) P E r j))) _ = _
      rw [SM_sum cF b2, cJ_some, show mjR E gg (ix 21 (rp P r) (rg P r) j) = mjv (E (ix 21 (rp P r) (rg P r) j)) from if_pos hi, SM_lesser b1 b3, cJ_some, Of.a wm ha hi, Of.a wm ha hi, bM_e, eE, show mjR E gg (ix 21 (rp P r) (rg P r) j) = mjv (E (ix 21 (rp P r) (rg P r) j)) from if_pos hi, sJ_e, eE, uJ_uJ, mjR_upx hi, nI_1]
      simp only [mjv_inj (show min (E (ix 21 (rp P r) (rg P r) j)) (cp (rc P r) (byR (DM M) P E r j)) ≤ FARN from Nat.le_trans (Nat.min_le_left _ _) b1) b1]
      unfold lowE
      by_cases c : cp (rc P r) (byR (DM M) P E r j) < E (ix 21 (rp P r) (rg P r) j)
      · have e1 : min (E (ix 21 (rp P r) (rg P r) j)) (cp (rc P r) (byR (DM M) P E r j)) = cp (rc P r) (byR (DM M) P E r j) := Nat.min_eq_right (Nat.le_of_lt c)
        rw [e1, if_neg (Nat.ne_of_lt c), if_pos c, if_pos c]
        rfl
      · rw [if_pos (Nat.min_eq_left (Nat.le_of_not_lt c)), if_neg c, if_neg c]
    · by_cases e : x = j
      · subst e
        exact Nat.le_trans (h2.1 _ hi) lowE_at
      · exact Nat.le_trans (h3 x (by omega) hx2) (cp_mono (Nat.le_refl _) (byR_mono hp hl hD.1 hx2))
    · obtain ⟨q1, q2⟩ := h4 q
      by_cases c : cp (rc P r) (byR (DM M) P E r j) < E (ix 21 (rp P r) (rg P r) j)
      · rw [if_pos c] at q1
        cases q1
      · rw [if_neg c] at q1
        exact ⟨q1, q2.trans (lowE_no c)⟩
    · rcases h5 q with q1 | ⟨e, he, q1⟩
      · by_cases c : cp (rc P r) (byR (DM M) P E r j) < E (ix 21 (rp P r) (rg P r) j)
        · refine .inr ⟨_, hi, Nat.lt_of_le_of_lt (h2.1 _ hi) (Nat.lt_of_le_of_lt lowE_at c)⟩
        · rw [if_neg c] at q1
          exact .inl q1
      · exact .inr ⟨e, he, Nat.lt_of_lt_of_le q1 (hD.1 e he)⟩
theorem LM_lay146 (w : Wl M) (ha : OfA oa) (hs : SzM M) (h : PgM M P o) (hp : WP P) (ho : o < 2 ^ 31) {gg : Nat → Int64} :
    ∀ (d j : Nat), j + d = pR P → ∀ f, d < f → ∀ (E : Nat → Nat) (ch : Bool), Bd 630 E →
    ∃ E' ch', (∀ K, LP5 (f12_lay_b146_body K) f (uJ M oa (mjR E gg)) 86 oa (bI ch) (nI j) = K (uJ M oa (mjR E' gg)) 86 oa (bI ch')) ∧ Dw 21 (DM M) P o E E' ∧
      (∀ r, j ≤ r → rin P o r = true → StepR 21 (DM M) P E' E r) ∧ (ch' = false → ch = false ∧ E' = E) ∧ (ch' = true → ch = true ∨ ∃ e, e < 630 ∧ E' e < E e)
  | 0, j, hj, f + 1, _, E, ch, bE => by
    refine ⟨E, ch, fun K => ?_, Dw.rfl, fun r hr hi => absurd (rin_lt hi) (by omega), fun q => ⟨q, rfl⟩, fun q => .inl q⟩
    have wm : ∀ {r}, Wl (uJ M oa r) := w
    have h14 := hp.2.2.1
    show f12_lay_b146_body _ _ _ _ _ _ _ = _
    unfold f12_lay_b146_body
    rw [aO_86 wm, r_86_1 wm, lit_2, aA_87 wm (by omega), nI_clamp (by omega), show mI (uJ M oa (mjR E gg)) 87 2 = nI (pR P) from h.r, if_pos (nI_le (by omega) (by omega))]
  | d + 1, j, hj, f + 1, hf, E, ch, bE => by
    have wm : ∀ {r}, Wl (uJ M oa r) := w
    have hm : ∀ {r}, PgM (uJ M oa r) P o := h
    have h14 := hp.2.2.1
    have hjl : j < pR P := by omega
    have hhead : ∀ K, LP5 (f12_lay_b146_body K) (f + 1) (uJ M oa (mjR E gg)) 86 oa (bI ch) (nI j) = LP6 (f12_lay_b159_body (LP5 (f12_lay_b146_body K) f)) FU (uJ M oa (mjR E gg)) 86 oa (bI ch) (nI j) (nI 0) := by
      intro K
      show f12_lay_b146_body _ _ _ _ _ _ _ = _
      unfold f12_lay_b146_body
      rw [aO_86 wm, r_86_1 wm, lit_2, aA_87 wm (by omega), nI_clamp (by omega), show mI (uJ M oa (mjR E gg)) 87 2 = nI (pR P) from h.r, if_neg (nI_ge (by omega) (by omega))]
      rfl
    by_cases c : rin P o j = true
    · obtain ⟨E1, c1, k1, k2, k3, k4, k5⟩ := LM_lay159 w ha hs h hp ho (gg := gg) c 21 0 (by omega) FU (FU_big (by omega)) E ch bE
      obtain ⟨E', ch', h1, h2, h3, h4, h5⟩ := LM_lay146 w ha hs h hp ho (gg := gg) d (j + 1) (by omega) f (by omega) E1 c1 (k2.bd bE)
      refine ⟨E', ch', fun K => ?_, k2.trans h2, fun r hr hi => ?_, fun q => ?_, fun q => ?_⟩
      · rw [hhead, k1, h1]
      · by_cases e : r = j
        · subst e
          exact (byR_step hp hjl (fun x hx => k3 x (Nat.zero_le _) hx)).monoL hp (by omega) hjl h2.1
        · exact (h3 r (by omega) hi).mono hp (rin_lt hi) k2.1
      · obtain ⟨q1, q2⟩ := h4 q
        obtain ⟨q3, q4⟩ := k4 q1
        exact ⟨q3, q2.trans q4⟩
      · rcases h5 q with q1 | ⟨e, he, q1⟩
        · rcases k5 q1 with q2 | ⟨e, he, q2⟩
          · exact .inl q2
          · exact .inr ⟨e, he, Nat.lt_of_le_of_lt (h2.1 e he) q2⟩
        · exact .inr ⟨e, he, Nat.lt_of_lt_of_le q1 (k2.1 e he)⟩
    · obtain ⟨E', ch', h1, h2, h3, h4, h5⟩ := LM_lay146 w ha hs h hp ho (gg := gg) d (j + 1) (by omega) f (by omega) E ch bE
      refine ⟨E', ch', fun K => ?_, h2, fun r hr hi => ?_, h4, h5⟩
      · rw [hhead, ← h1 K]
        generalize LP5 (f12_lay_b146_body K) f = K2
        have ho2 : o.testBit j = true := by
          unfold rin at c
          simp [hjl] at c
          exact c
        show LP6 (f12_lay_b159_body K2) (FU - 1 + 1) _ _ _ _ _ _ = _
        show f12_lay_b159_body _ _ _ _ _ _ _ _ = _
        unfold f12_lay_b159_body f12_lay_b249
        rw [lit_21, if_neg (nI_ge (by omega) (by omega)), aO_86 wm, show mI (uJ M oa (mjR E gg)) 86 5 = nI o from h.oo, SM_isOf ho (by omega), cI_some, ho2, bI_t, if_neg (by decide), nI_1]
      · by_cases e : r = j
        · subst e
          exact absurd hi c
        · exact h3 r (by omega) hi
theorem LM_lay138 (w : Wl M) (ha : OfA oa) (hs : SzM M) (h : PgM M P o) (hp : WP P) (ho : o < 2 ^ 31) {gg : Nat → Int64} {I : Nat → Bool} {L : Nat → Nat} (hL : GC 21 I (DM M) P o L) {kk : Nat} (hkk : kk = 30 * 21) :
    ∀ (d : Nat), ∀ f, d + 2 ≤ f → ∀ (E : Nat → Nat), Bd 630 E → Stg 21 I E L → nf E L kk ≤ d →
    ∀ ch : Bool, ch = true → ∃ E', LP4 f12_lay_b138_body f (uJ M oa (mjR E gg)) 86 oa (bI ch) = some (uJ M oa (mjR E' gg)) ∧ (∀ e, e < 630 → E' e = L e) := by
  intro d f
  induction f generalizing d with
  | zero => exact fun hf => absurd hf (by omega)
  | succ f ih =>
    intro hf E bE sE hc ch hch
    obtain ⟨E1, c1, k1, k2, k3, k4, k5⟩ := LM_lay146 w ha hs h hp ho (gg := gg) (pR P) 0 (by omega) FU (FU_big (by have := hp.2.2.1; omega)) E false bE
    have hhead : LP4 f12_lay_b138_body (f + 1) (uJ M oa (mjR E gg)) 86 oa (bI ch) = LP4 f12_lay_b138_body f (uJ M oa (mjR E1 gg)) 86 oa (bI c1) := by
      show f12_lay_b138_body _ _ _ _ _ = _
      generalize LP4 f12_lay_b138_body f = K
      unfold f12_lay_b138_body
      rw [hch, bI_t, if_neg (by decide), ← k1 K]
      unfold f12_lay_b146
      rw [bI_f, lit_0]
    rw [hhead]
    have hR : Rnd 21 (DM M) P o E E1 := k2.rnd (fun r hr => k3 r (Nat.zero_le _) hr)
    cases c1
    · refine ⟨E1, ?_, ?_⟩
      · rcases f with _ | f
        · omega
        · rfl
      · have e1 := (k4 rfl).2
        rw [e1]
        exact hR.fin hp (by omega) hL sE (fun e _ => by rw [e1])
    · have hcnt : nf E1 L kk < nf E L kk ∨ (nf E L kk = 0 ∧ nf E1 L kk = 0) := by
        rw [hkk]
        exact hR.cnt hp (by omega) hL sE
      rcases hcnt with q | q
      · rcases d with _ | d
        · omega
        · exact ih d (by omega) E1 (k2.bd bE) (hR.stg hL sE) (by omega) true rfl
      · exfalso
        rcases k5 rfl with q1 | ⟨e, he, q1⟩
        · cases q1
        · rw [nf_0 kk q.1 e (by omega)] at q1
          have := (hR.stg hL sE).2.2 e he
          omega
theorem SM_lay (w : Wl M) (ha : OfA oa) (h : PgM M P o) (hp : WP P) (ho : o < 2 ^ 31) {T : TG} (hT : TgM M T) {L : Nat → Nat} (hL : GC 21 (initM (pG P) T) (DM M) P o L) : ∃ E gg, f12_lay M 86 oa = some (uJ M oa (mjR E gg)) ∧ ∀ e, e < 630 → E e = L e := by
  have hS : Stg 21 (initM (pG P) T) (EM (initM (pG P) T)) L := by
    refine ⟨EM_bd, fun e he hi => by unfold EM; rw [if_pos hi], fun e he => ?_⟩
    unfold EM
    split
    · rw [hL.1.2.1 e he (by assumption)]
      exact Nat.le_refl _
    · exact hL.1.1 e he
  obtain ⟨E', h1, h2⟩ := LM_lay138 w ha hT.2.2.1 h hp ho (gg := mJ M oa) hL (kk := 30 * 21) rfl (30 * 21) FU (Nat.le_of_lt (FU_big (by omega))) (EM (initM (pG P) T)) EM_bd hS (nf_top _ _ _) true rfl
  refine ⟨E', mJ M oa, ?_, h2⟩
  have a1 := LM_lay2 w ha (gg := mJ M oa) 630 0 (by omega) FU (FU_big (by omega))
  have a2 := LM_lay23 w ha h hp hT (gg := mJ M oa) (tK T) 0 (by omega) FU (FU_big (by have := hT.2.1; omega))
  have e0 : uJ M oa (fun i => if i < 0 then -1 else mJ M oa i) = M := by
    refine uJ_eq ?_
    funext i
    rw [if_neg (Nat.not_lt_zero i)]
  rw [e0] at a1
  have a3 : f12_lay M 86 oa = f12_lay_b23 (mi M oa (fun _ => false) (mJ M oa)) 86 oa 0 := a1
  rw [a3]
  have a4 : f12_lay_b23 (mi M oa (fun _ => false) (mJ M oa)) 86 oa 0 = f12_lay_b138 (mi M oa (initM (pG P) T) (mJ M oa)) 86 oa 1 := a2
  rw [a4]
  exact h1
end LAY2
