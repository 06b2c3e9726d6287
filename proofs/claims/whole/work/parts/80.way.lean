/-! THE WAY: both sides in step -/
section WAY
variable {P : PG} {o a1 : Nat}
theorem WkM.cost {M : MM} {p H t : Nat} {s f : Nat → Nat} (hw : WkM M P o p H s t f) {left : Nat} (hv : costN P o (gTG P) (some (p, H, s)) left) : ∃ F gg, mJ M 99 = mjR F gg ∧ Net P o (gTG P) F ∧ RwM (e21 (gTG P) (DX M (gTG P)) F) (z21 (gTG P)) s (mJ M 101) (H + 1) ∧ left = val 21 (e21 (gTG P) (DX M (gTG P)) F) (z21 (gTG P)) s H p := by
  obtain ⟨w, hPg, hT, h1, h2, h3, F, gg, e1, e2, e3⟩ := hw
  exact ⟨F, gg, e1, e2, e3, hv.2.2 F _ e2 (okD_X hT)⟩
theorem SM_wayAt (hp : WP P) {M : MM} {p H t : Nat} {s f : Nat → Nat} (hw : WkM M P o p H s t f) (h1 : p < pS P) (hs : ∀ i, i < H → s i < pG P) (hH : H ≤ 140) {left : Nat} (hv : costN P o (gTG P) (some (p, H, s)) left) : f12_isAt M 86 (nI p) 102 (nI H) = some (bI (decide (left = 0)), M) := by
  have p5 := hp.1
  obtain ⟨F, gg, e1, e2, e3, e4⟩ := hw.cost hv
  obtain ⟨w, hPg, hT, h1', h2, h3, -⟩ := hw
  rw [SM_isAt w hPg hp (show p < 5 by omega) (k_102 w) (by omega) (by omega) (fun i hi => ⟨h1' i hi, Nat.lt_of_lt_of_le (hs i hi) hp.2.1⟩)]
  have : atB P p H s = decide (left = 0) := by
    refine Bool.eq_iff_iff.mpr ?_
    rw [atB_iff, decide_eq_true_iff, e4]
    exact (val_at hp (okT_g hp) (okD_X hT) e2 hs (by omega)).symm
  rw [this]
/-- the reference looks for the rule -/
theorem LM_way89 (hp : WP P) (ho : o < 2 ^ 31) {M : MM} {p h t : Nat} {s f : Nat → Nat} (hw : WkM M P o p (h + 1) s t f) (hp5 : p < pS P) (hs : ∀ i, i < h + 1 → s i < pG P) (hh : h + 1 ≤ 140) {left : Nat} (hl : left ≤ CAPN) {r : Nat} (hr : r < pR P) (hq : wayQ P o (gTG P) p h s left r) (hn : ∀ k, k < r → ¬ wayQ P o (gTG P) p h s left k) {K61 : MM → Nat → Int32 → Int32 → Int64 → Option (Int32 × MM)} :
    ∀ (d j : Nat), j + d = r → ∀ f', d < f' → ∃ f'', LP6 (f12_isWay_b89_body K61) f' M 86 (nI p) (nI (h + 1)) (lN left) (nI j) = LP6 (f12_isWay_b89_body K61) (f'' + 1) M 86 (nI p) (nI (h + 1)) (lN left) (nI r) := by
  obtain ⟨w, hPg, hT, h1, h2, h3, F, gg, e1, e2, e3⟩ := hw
  have p5 := hp.1
  have g6 := hp.2.1
  have h14 := hp.2.2.1
  have sh := hs h (by omega)
  have lF : left ≤ FARN := Nat.le_trans hl (by unfold FARN CAPN; omega)
  have hV : ∀ y, y < 21 → mJ M 101 (21 * h + y) = mjv (val 21 (e21 (gTG P) (DX M (gTG P)) F) (z21 (gTG P)) s h y) := fun y hy => e3 h y (by omega) hy
  have bV : ∀ y, y < 21 → val 21 (e21 (gTG P) (DX M (gTG P)) F) (z21 (gTG P)) s h y ≤ FARN := val_far (fun x _ => z21_far _ x) h
  intro d
  induction d with
  | zero =>
    intro j hj f' hf
    obtain ⟨f'', rfl⟩ : ∃ f'', f' = f'' + 1 := ⟨f' - 1, by omega⟩
    exact ⟨f'', by rw [show j = r by omega]⟩
  | succ d ih =>
    intro j hj f' hf
    obtain ⟨f0, rfl⟩ : ∃ f'', f' = f'' + 1 := ⟨f' - 1, by omega⟩
    obtain ⟨f'', q⟩ := ih (j + 1) (by omega) f0 (by omega)
    refine ⟨f'', ?_⟩
    rw [← q]
    have hjl : j < pR P := by omega
    have c99 := hp.c99 hjl
    show f12_isWay_b89_body _ _ _ _ _ _ _ _ = _
    generalize LP6 (f12_isWay_b89_body K61) f0 = K
    unfold f12_isWay_b89_body f12_isWay_b134
    rw [aO_86 w, r_86_33 w, nI_sub1 (by omega), show h + 1 - 1 = h by omega, aA_102 w (by omega), aO_86 w, nI_clamp (by omega), h1 h (by omega), SM_isHeadOf w hPg hp ho hjl (by omega) (by omega), cI_some, nI_1]
    by_cases c : rfor P o j p (s h) = true
    · have bb : beh 21 (e21 (gTG P) (DX M (gTG P)) F) (val 21 (e21 (gTG P) (DX M (gTG P)) F) (z21 (gTG P)) s h) P j ≤ FARN := by
        rw [push_val hp hjl (by omega)]
        exact val_far (fun x _ => z21_far _ x) _ _ (by have := hp.t5 hjl; omega)
      have cF : rc P j ≤ FARN := by unfold FARN; omega
      rw [c, bI_t, if_neg (by decide), aO_86 w, SM_r6 w hPg hp hjl, cI_some, aO_86 w, SM_behind w hPg hp hT e1 e2.bd hV bV hjl (by omega), cJ_some, nI_l64 (by omega), ← mjv_small (show rc P j ≤ CAPN by unfold CAPN; omega), SM_sum cF bb, cJ_some]
      refine if_neg (fun q => hn j (by omega) ⟨c, fun v hv => ?_⟩)
      rw [← mjv_small hl] at q
      rw [mjv_inj (cp_far _ _) lF] at q
      rw [← q]
      congr 1
      rw [push_val hp hjl (by omega)]
      exact hv.2.2 F _ e2 (okD_X hT)
    · rw [Bool.not_eq_true] at c
      rw [c, bI_f, if_pos rfl]
/-- signs laid on by the reference -/
def tallR (P : PG) (r h : Nat) (row : Nat → Int32) : Nat → Int32 := if rn P r = 0 then row else if rn P r = 1 then upx row h (nI (ra P r)) else upx (upx row h (nI (rb P r))) (h + 1) (nI (ra P r))
theorem LM_way203 (hp : WP P) {M : MM} (w : Wl M) (hPg : PgM M P o) {h r : Nat} (hh : h < 190) (hr : r < pR P) {a3 : Int32} {a5 : Int64} {a8 : Int32} {K61 : MM → Nat → Int32 → Int32 → Int64 → Option (Int32 × MM)} :
    f12_isWay_b203 K61 M 86 a3 (nI h) a5 (nI r) a8 (nI (rn P r) - 1) = (cV (f12_layAbove (uI M 102 (tallR P r h (mI M 102))) 86 99 102 a8 (nI (h + rn P r))) fun M247 => K61 M247 86 a3 (nI (h + rn P r)) a5) := by
  have n2 := hp.n2 hr
  have h14 := hp.2.2.1
  have body : ∀ f (x a4 : Int32) (M : MM), LP8 (f12_isWay_b203_body K61) (f + 1) M 86 a3 a4 a5 (nI r) a8 x = if x < 0 then (aO M 86 12 <| aO M 86 12 <| aO M 86 12 <| cV (f12_layAbove M 86 (mR M 86 28) (mR M 86 33) a8 a4) fun M247 => K61 M247 86 a3 a4 a5) else (aO M 86 12 <| aO M 86 12 <| cI (f12_ruleOf M 86 (nI r) (4 + x)) fun r221 M221 => aA M221 (mR M 86 33) 0 a4 <| bM (sI M221 (mR M 86 33) a4.toNatClampNeg r221) fun M224 => LP8 (f12_isWay_b203_body K61) f M224 86 a3 (a4 + 1) a5 (nI r) a8 (x + -1)) := fun _ _ _ _ => rfl
  have stop : ∀ f (n : Nat) (M : MM), Wl M → LP8 (f12_isWay_b203_body K61) (f + 1) M 86 a3 (nI n) a5 (nI r) a8 (-1) = cV (f12_layAbove M 86 99 102 a8 (nI n)) fun M247 => K61 M247 86 a3 (nI n) a5 := fun f n M w => by
    rw [body, if_pos (by decide), aO_86 w, aO_86 w, aO_86 w, r_86_28 w, r_86_33 w]
  obtain ⟨n, hn⟩ : ∃ n, FU = n + 3 := ⟨FU - 3, by have : (8 : Nat) < FU := FU_big (by omega); omega⟩
  unfold f12_isWay_b203 tallR
  rw [hn]
  have ww : ∀ {x}, Wl (uI M 102 x) := w
  have pp : ∀ {x}, PgM (uI M 102 x) P o := hPg
  by_cases c0 : rn P r = 0
  · rw [c0, if_pos rfl, nI_01, stop _ _ _ w, uI_self]
    rfl
  · by_cases c1 : rn P r = 1
    · have e4 : clR P r 4 = nI (ra P r) := by
        unfold clR
        rw [if_neg (by omega)]
        rfl
      rw [c1, if_neg (by decide), if_pos rfl, nI_sub1 (a := 1) (by omega), body, if_neg (by decide), aO_86 w, aO_86 w, lit_4, nI_add, show (4 + (1 - 1) : Nat) = 4 from rfl, S12_ruleOf w hPg hp hr (by omega), cI_some, e4, r_86_33 w, aA_102 w (by omega), nI_clamp (by omega), bM_e, sI_e, show nI (1 - 1) + (-1) = -1 by decide, nI_1, stop _ _ _ ww]
    · have c2 : rn P r = 2 := by omega
      have e4 : clR P r 4 = nI (ra P r) := by
        unfold clR
        rw [if_neg (by omega)]
        rfl
      have e5 : clR P r 5 = nI (rb P r) := by
        unfold clR
        rw [if_neg (by omega)]
        rfl
      rw [c2, if_neg (by decide), if_neg (by decide), nI_sub1 (a := 2) (by omega), body, if_neg (by decide), aO_86 w, aO_86 w, lit_4, nI_add, show (4 + (2 - 1) : Nat) = 5 from rfl, S12_ruleOf w hPg hp hr (by omega), cI_some, e5, r_86_33 w, aA_102 w (by omega), nI_clamp (by omega), bM_e, sI_e, show nI (2 - 1) + (-1) = nI 0 by decide, nI_1, body, if_neg (by decide), aO_86 ww, aO_86 ww, lit_4, nI_add, show (4 + 0 : Nat) = 4 from rfl, S12_ruleOf ww pp hp hr (by omega), cI_some, e4, r_86_33 ww, aA_102 ww (by omega), nI_clamp (by omega), bM_e, sI_e, mI_uI, if_pos rfl, uI_uI, show nI 0 + (-1) = -1 by decide, nI_1, stop _ _ _ ww]
/-- the reference's step of a way -/
theorem SM_wayGo (hp : WP P) (ho : o < 2 ^ 31) {M : MM} {p h t : Nat} {s f : Nat → Nat} (hw : WkM M P o p (h + 1) s t f) (hp5 : p < pS P) (hs : ∀ i, i < h + 1 → s i < pG P) (hh : h + 1 ≤ 40 + t) (ht : t < 100) {left v : Nat} (hv : costN P o (gTG P) (some (p, h + 1, s)) left) (hl : left ≤ CAPN) (h0 : 0 < left) {r : Nat} (hr : r < pR P) (hq : wayQ P o (gTG P) p h s left r) (hn : ∀ k, k < r → ¬ wayQ P o (gTG P) p h s left k) (hv2 : left = rc P r + v) :
    ∃ M', (∀ fu, LP5 f12_isWay_b61_body (fu + 1) M 86 (nI p) (nI (h + 1)) (lN left) = LP5 f12_isWay_b61_body fu M' 86 (nI (rt P r)) (nI (h + rn P r)) (lN v)) ∧ WkM M' P o (rt P r) (h + rn P r) (pushR P r h s) (t + 1) (upx f t r) ∧ Sm [86, 102, 103] [101] M M' ∧ ∀ j, j ≠ 36 → mI M' 86 j = mI M 86 j := by
  have n2 := hp.n2 hr
  have c99 := hp.c99 hr
  have t5 := hp.t5 hr
  have h14 := hp.2.2.1
  have p5 := hp.1
  have g6 := hp.2.1
  have isat := SM_wayAt hp hw hp5 hs (by omega) hv
  have look := fun K61 => LM_way89 hp ho hw hp5 hs (by omega) hl hr hq hn (K61 := K61) r 0 (by omega) FU (FU_big (by omega))
  obtain ⟨w, hPg, hT, h1, h2, h3, F, gg, e1, e2, e3⟩ := hw
  have sh := hs h (by omega)
  have lF : left ≤ FARN := Nat.le_trans hl (by unfold FARN CAPN; omega)
  have hV : ∀ y, y < 21 → mJ M 101 (21 * h + y) = mjv (val 21 (e21 (gTG P) (DX M (gTG P)) F) (z21 (gTG P)) s h y) := fun y hy => e3 h y (by omega) hy
  have bV : ∀ y, y < 21 → val 21 (e21 (gTG P) (DX M (gTG P)) F) (z21 (gTG P)) s h y ≤ FARN := val_far (fun x _ => z21_far _ x) h
  have hs' := push_lt (h := h) (s := s) hp hr (fun i hi => hs i (by omega))
  obtain ⟨M1, hM1⟩ : ∃ M1, M1 = sI M 103 t (nI r) := ⟨_, rfl⟩
  obtain ⟨M2, hM2⟩ : ∃ M2, M2 = sI M1 86 36 (nI (t + 1)) := ⟨_, rfl⟩
  obtain ⟨M3, hM3⟩ : ∃ M3, M3 = uI M2 102 (tallR P r h (mI M2 102)) := ⟨_, rfl⟩
  have s1 : Sm [86, 102, 103] [101] M M1 := by rw [hM1]; exact (Sm.rfl _ _ M).uI _ (by decide)
  have s2 : Sm [86, 102, 103] [101] M1 M2 := by rw [hM2]; exact (Sm.rfl _ _ M1).uI _ (by decide)
  have s3 : Sm [86, 102, 103] [101] M2 M3 := by rw [hM3]; exact (Sm.rfl _ _ M2).uI _ (by decide)
  have s13 := (s1.trans s2).trans s3
  have w1 : Wl M1 := w.sm s1
  have w2 : Wl M2 := w1.sm s2
  have w3 : Wl M3 := w2.sm s3
  have f1 : mI M1 86 = mI M 86 := by rw [hM1, sI_e, mI_uI, if_neg (by decide)]
  have f3 : ∀ j, j ≠ 36 → mI M3 86 j = mI M 86 j := fun j hj => by
    rw [hM3, mI_uI, if_neg (by decide), hM2, mI_sI, if_neg (fun q => hj q.2), f1]
  have p1 : PgM M1 P o := hPg.sm s1 (by rw [f1]) (by decide) (by decide) (by decide)
  have p2 : PgM M2 P o := p1.sm s2 (by rw [hM2, mI_sI, if_neg (by decide)]) (by decide) (by decide) (by decide)
  have p3 : PgM M3 P o := hPg.sm s13 (f3 5 (by decide)) (by decide) (by decide) (by decide)
  have t3 : TgM M3 (gTG P) := hT.sm s13 (f3 30 (by decide)) (by decide) (by decide) (by decide) (by decide)
  have row : ∀ i, i < h + rn P r → mI M3 102 i = nI (pushR P r h s i) := fun i hi => by
    have e102 : ∀ i, i < h + 1 → mI M2 102 i = nI (s i) := fun i hi => by
      rw [hM2, sI_e, mI_uI, if_neg (by decide), hM1, sI_e, mI_uI, if_neg (by decide)]
      exact h1 i hi
    rw [hM3, mI_uI, if_pos rfl]
    unfold tallR pushR
    by_cases c0 : rn P r = 0
    · rw [if_pos c0, if_pos c0]
      exact e102 i (by omega)
    · rw [if_neg c0, if_neg c0]
      by_cases c1 : rn P r = 1
      · rw [if_pos c1, if_pos c1, upx_e, upx_e]
        split
        · rfl
        · exact e102 i (by omega)
      · rw [if_neg c1, if_neg c1]
        simp only [upx_e]
        by_cases q1 : i = h + 1
        · rw [if_pos q1, if_pos q1]
        · rw [if_neg q1, if_neg q1]
          by_cases q2 : i = h
          · rw [if_pos q2, if_pos q2]
          · rw [if_neg q2, if_neg q2]
            exact e102 i (by omega)
  have dx : DX M3 (gTG P) = DX M (gTG P) := DX_cg (s13.i 96 (by decide)) (s13.i 97 (by decide)) (s13.i 98 (by decide))
  have j99 : mJ M3 99 = mjR F gg := by rw [s13.j 99 (by decide), e1]
  have j101 : mJ M3 101 = mJ M 101 := by
    rw [hM3, mJ_uI, hM2, sI_e, mJ_uI, hM1, sI_e, mJ_uI]
  have rk : RwM (e21 (gTG P) (DX M3 (gTG P)) F) (z21 (gTG P)) (pushR P r h s) (mJ M3 101) (h + 1) := by
    rw [dx, j101]
    refine (e3.less (by omega)).cg (fun i hi => ?_)
    unfold pushR
    split
    · rfl
    · split
      · rw [upx_e, if_neg (by omega)]
      · rw [upx_e, if_neg (by omega), upx_e, if_neg (by omega)]
  obtain ⟨Ab', b1, b2⟩ := SM_layAbove w3 (oa := 99) (.inl rfl) t3 j99 e2.bd (k_102 w3) (n := h + rn P r) (s := pushR P r h s) (fun i hi => ⟨row i hi, Nat.lt_of_lt_of_le (hs' i hi) g6⟩) (by omega) (by omega) (fr := h + 1) (by omega) rk
  refine ⟨uJ M3 101 Ab', fun fu => ?_, ⟨w3, p3, TgM_J t3, row, ?_, fun i hi => ?_, F, gg, ?_, e2, ?_⟩, s13.uJ _ (by decide), fun j hj => f3 j hj⟩
  · show f12_isWay_b61_body _ _ _ _ _ _ = _
    obtain ⟨f'', lk⟩ := look (LP5 f12_isWay_b61_body fu)
    generalize LP5 f12_isWay_b61_body fu = K at lk ⊢
    unfold f12_isWay_b61_body
    rw [aO_86 w, aO_86 w, r_86_33 w, isat, cI_some, decide_eq_false (show ¬ left = 0 by omega), bI_f, if_pos rfl, aO_86 w, h2, lit_100, if_neg (show ¬ nI t = nI 100 by rw [nI_eq (by omega) (by omega)]; omega)]
    show LP6 (f12_isWay_b89_body K) FU M 86 (nI p) (nI (h + 1)) (lN left) (nI 0) = _
    rw [lk]
    show f12_isWay_b89_body _ _ _ _ _ _ _ _ = _
    generalize LP6 (f12_isWay_b89_body K) f'' = K2
    have bb : beh 21 (e21 (gTG P) (DX M (gTG P)) F) (val 21 (e21 (gTG P) (DX M (gTG P)) F) (z21 (gTG P)) s h) P r ≤ FARN := by
      rw [push_val hp hr (by omega)]
      exact val_far (fun x _ => z21_far _ x) _ _ (by omega)
    have cF : rc P r ≤ FARN := by unfold FARN; omega
    have ev : cp (rc P r) (beh 21 (e21 (gTG P) (DX M (gTG P)) F) (val 21 (e21 (gTG P) (DX M (gTG P)) F) (z21 (gTG P)) s h) P r) = left := by
      obtain ⟨u, hu⟩ := costN_ex2 (s := pushR P r h s) hp (hp.2.2.2.2.1 r hr).2.2.1 hs' o (okT_g hp)
      have := hq.2 u hu
      rw [hu.2.2 F _ e2 (okD_X hT)] at this
      rw [push_val hp hr (by omega)]
      exact this
    unfold f12_isWay_b89_body
    rw [aO_86 w, r_86_33 w, nI_sub1 (by omega), show h + 1 - 1 = h by omega, aA_102 w (by omega), aO_86 w, nI_clamp (by omega), h1 h (by omega), SM_isHeadOf w hPg hp ho hr (by omega) (by omega), cI_some, hq.1, bI_t, if_neg (by decide), aO_86 w, SM_r6 w hPg hp hr, cI_some, aO_86 w, SM_behind w hPg hp hT e1 e2.bd hV bV hr (by omega), cJ_some, nI_l64 (by omega), ← mjv_small (show rc P r ≤ CAPN by unfold CAPN; omega), SM_sum cF bb, cJ_some, ev, if_pos (mjv_small hl), aO_86 w, aO_86 w, r_86_34 w, h2, aA_103 w (by omega), nI_clamp (by omega), bM_e, ← hM1, aO_86 w1, aO_86 w1, bM_e, f1, h2, nI_1, ← hM2, aO_86 w2, SM_r6 w2 p2 hp hr, cI_some, bW_e, aO_86 w2, SM_r2 w2 p2 hp hr, cI_some, bW_e, aO_86 w2, SM_r3 w2 p2 hp hr, cI_some, bW_e, nI_m1 (show 1 ≤ h + 1 by omega), show h + 1 - 1 = h by omega, nI_1, nI_l64 (by omega), LM_way203 hp w2 p2 (by omega) hr, ← hM3, b1, cV_some, hv2]
    congr 1
    rw [← lN_add, Int64.add_comm, Int64.add_sub_cancel]
  · rw [mI_uJ, hM3, mI_uI, if_neg (by decide), hM2, mI_sI, if_pos ⟨rfl, rfl⟩]
  · rw [mI_uJ, hM3, mI_uI, if_neg (by decide), hM2, sI_e, mI_uI, if_neg (by decide), hM1, mI_sI, upx_e]
    by_cases c : i = t
    · rw [if_pos ⟨rfl, c⟩, if_pos c]
    · rw [if_neg (fun q => c q.2), if_neg c]
      exact h3 i (by omega)
  · rw [mJ_uJ, if_neg (by decide), j99]
  · rw [mJ_uJ, if_pos rfl, show DX (uJ M3 101 Ab') (gTG P) = DX M3 (gTG P) from rfl]
    exact b2
end WAY
