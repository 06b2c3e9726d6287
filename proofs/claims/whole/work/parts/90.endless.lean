/-! GOING ON FROM NOW FOR EVER -/
def enP (P : PG) (cn : Nat → Nat → Nat → Bool) (p0 H : Nat) (s : Nat → Nat) (l : Nat → Bool) : Prop := ∃ d q, hitS P cn p0 H s d q ∧ l (6 * q + s (H - 1 - d)) = true
def enA (P : PG) (cn : Nat → Nat → Nat → Bool) (p0 H : Nat) (s : Nat → Nat) (l : Nat → Bool) (r : Bool) : Prop := r = true ↔ enP P cn p0 H s l
section ENDL
variable {P : PG} {o a1 : Nat} {cn : Nat → Nat → Nat → Bool}
theorem L2_la28 {M : MM} (hd : HdC M a1 P o cn) (hp : WP P) {l : Nat → Bool} {g : Nat → Int32} (hr : mI M 52 = bR 30 l g) {p0 H : Nat} {s : Nat → Nat} (hH : H ≤ 40) (hs : ∀ i, i < H → s i < 6) {d rb : Nat} (hd2 : d < H) (hb : BT P rb (upS P cn p0 H s d)) :
    ∀ (e j : Nat), j + e = pS P → ∀ f, e < f → (∀ d' q', doneS d j d' q' → hitS P cn p0 H s d' q' → l (6 * q' + s (H - 1 - d')) = false) →
    (∀ K14, LP7 (f2_lastsFrom_b28_body K14) f M 48 23 (nI rb) (nI (H - 1 - d)) (nI (s (H - 1 - d))) (nI j) = some (1, M)) ∧ enP P cn p0 H s l ∨
    (∀ K14, LP7 (f2_lastsFrom_b28_body K14) f M 48 23 (nI rb) (nI (H - 1 - d)) (nI (s (H - 1 - d))) (nI j) = cI (f2_reachedBelow M 48 (nI rb) (nI (s (H - 1 - d)))) fun r73 M73 => K14 M73 48 23 r73 (nI (H - 1 - d) + -1)) ∧ ∀ d' q', doneS (d + 1) 0 d' q' → hitS P cn p0 H s d' q' → l (6 * q' + s (H - 1 - d')) = false
  | 0, j, hj, f + 1, _, ha => by
    obtain ⟨w, h1, h2, h3, -⟩ := id hd
    have p5 := hp.1
    refine .inr ⟨fun K14 => ?_, fun d' q' hdn hit => ha d' q' (by unfold doneS at *; have := hit.2.1; omega) hit⟩
    show f2_lastsFrom_b28_body _ _ _ _ _ _ _ _ _ = _
    generalize LP7 (f2_lastsFrom_b28_body K14) f = K
    unfold f2_lastsFrom_b28_body
    rw [aO_48 w, h1, h2.o w, h2.s, if_pos (nI_le (by omega) (by omega)), aO_48 w]
  | e + 1, j, hj, f + 1, hf, ha => by
    obtain ⟨w, h1, h2, h3, -⟩ := id hd
    have p5 := hp.1
    have sg := hs (H - 1 - d) (by omega)
    have bt := hb.2 j (by omega)
    rw [decide_eq_true (show j < pS P by omega), Bool.true_and] at bt
    have head : ∀ K14, LP7 (f2_lastsFrom_b28_body K14) (f + 1) M 48 23 (nI rb) (nI (H - 1 - d)) (nI (s (H - 1 - d))) (nI j) = if upS P cn p0 H s d j = true ∧ l (6 * j + s (H - 1 - d)) = true then some (1, M) else LP7 (f2_lastsFrom_b28_body K14) f M 48 23 (nI rb) (nI (H - 1 - d)) (nI (s (H - 1 - d))) (nI (j + 1)) := fun K14 => by
      show f2_lastsFrom_b28_body _ _ _ _ _ _ _ _ _ = _
      generalize LP7 (f2_lastsFrom_b28_body K14) f = K
      unfold f2_lastsFrom_b28_body f2_lastsFrom_b63
      rw [aO_48 w, h1, h2.o w, h2.s, if_neg (nI_ge (by omega) (by omega)), bU (by have := hb.1; omega) (by omega), bt, aO_48 w, S2_isLasting hd hr (by omega) sg, cI_some, nI_1]
      simp only [bI_1, bI_0]
      by_cases c1 : upS P cn p0 H s d j = true
      · rw [if_pos c1]
        by_cases c2 : l (6 * j + s (H - 1 - d)) = true
        · rw [if_neg (by rw [c2]; decide), if_pos ⟨c1, c2⟩]
        · rw [Bool.not_eq_true] at c2
          rw [if_pos c2, if_neg (fun z => Bool.false_ne_true (c2.symm.trans z.2))]
      · rw [if_neg c1, if_neg (fun z => c1 z.1)]
    by_cases c : upS P cn p0 H s d j = true ∧ l (6 * j + s (H - 1 - d)) = true
    · exact .inl ⟨fun K14 => by rw [head, if_pos c], d, j, ⟨hd2, by omega, c.1⟩, c.2⟩
    · rcases L2_la28 hd hp hr hH hs hd2 hb e (j + 1) (by omega) f (by omega) (fun d' q' hdn h' => by
          by_cases ee : d' = d ∧ q' = j
          · rw [ee.1, ee.2] at h' ⊢
            rw [← Bool.not_eq_true]
            exact fun z => c ⟨h'.2.2, z⟩
          · exact ha d' q' (by unfold doneS at *; omega) h') with ⟨i1, i2⟩ | ⟨i1, i2⟩
      · exact .inl ⟨fun K14 => by rw [head, if_neg c, i1], i2⟩
      · exact .inr ⟨fun K14 => by rw [head, if_neg c, i1], i2⟩
theorem L2_la14 {M : MM} (hd : HdC M a1 P o cn) (hp : WP P) {l : Nat → Bool} {g : Nat → Int32} (hr : mI M 52 = bR 30 l g) {p0 H : Nat} {s : Nat → Nat} (hb : PlC M 23 p0 H s) (hH : H ≤ 40) (hs : ∀ i, i < H → s i < 6) :
    ∀ (n d : Nat), d + n = H → ∀ f, n < f → ∀ rb, BT P rb (upS P cn p0 H s d) → (∀ d' q', doneS d 0 d' q' → hitS P cn p0 H s d' q' → l (6 * q' + s (H - 1 - d')) = false) → ∃ r, LP5 f2_lastsFrom_b14_body f M 48 23 (nI rb) (nI n - 1) = some (bI r, M) ∧ enA P cn p0 H s l r
  | 0, d, hn, f + 1, _, rb, hbt, ha => by
    refine ⟨false, ?_, (fun q => by cases q), fun q => ?_⟩
    · rw [nI_01, LP5_s]
      generalize LP5 f2_lastsFrom_b14_body f = K
      unfold f2_lastsFrom_b14_body
      rw [if_pos (by decide)]
      rfl
    · exfalso
      obtain ⟨d', q', h', z⟩ := q
      have := ha d' q' (.inl (by have := h'.1; omega)) h'
      rw [z] at this
      cases this
  | n + 1, d, hn, f + 1, hf, rb, hbt, ha => by
    obtain ⟨w, h1, h2, h3, -⟩ := id hd
    have sg := hs (H - 1 - d) (by omega)
    have head : LP5 f2_lastsFrom_b14_body (f + 1) M 48 23 (nI rb) (nI (n + 1) - 1) = f2_lastsFrom_b28 (LP5 f2_lastsFrom_b14_body f) M 48 23 (nI rb) (nI (H - 1 - d)) (nI (s (H - 1 - d))) 0 := by
      rw [nI_sub1 (by omega), show n + 1 - 1 = H - 1 - d by omega, LP5_s]
      generalize LP5 f2_lastsFrom_b14_body f = K
      unfold f2_lastsFrom_b14_body
      rw [if_neg (nI_pos (by omega)), aO_23 w, S6_signAt w hb.1 (show H - 1 - d < 40 by omega), cI_some, hb.2.2.2.2.2 _ (by omega)]
    rw [head]
    rcases L2_la28 hd hp hr hH hs (show d < H by omega) hbt (pS P) 0 (by omega) FU (FU_big (by have := hp.1; omega)) ha with ⟨i1, i2⟩ | ⟨i1, i2⟩
    · exact ⟨true, i1 _, fun _ => i2, fun _ => rfl⟩
    · obtain ⟨rb', k1, k2⟩ := S2_reachedBelow hd hp hbt.1 sg
      obtain ⟨r, z1, z2⟩ := L2_la14 hd hp hr hb hH hs n (d + 1) (by omega) f (by omega) rb' (hbt.next hp.1 k2) i2
      refine ⟨r, ?_, z2⟩
      rw [← z1]
      refine (i1 _).trans ?_
      rw [k1, cI_some, show H - 1 - d = n by omega, ← Int32.sub_eq_add_neg]
theorem S2_lastsFrom {M : MM} (hd : HdC M a1 P o cn) (hp : WP P) {l : Nat → Bool} {g : Nat → Int32} (hr : mI M 52 = bR 30 l g) {p0 H : Nat} {s : Nat → Nat} (hb : PlC M 23 p0 H s) (hp0 : p0 < pS P) (hH : H ≤ 40) (hs : ∀ i, i < H → s i < 6) : ∃ r, f2_lastsFrom M 48 23 = some (bI r, M) ∧ enA P cn p0 H s l r := by
  have w := hd.1
  have p5 := hp.1
  obtain ⟨r, z1, z2⟩ := L2_la14 hd hp hr hb hH hs H 0 (by omega) FU (FU_big (by omega)) (2 ^ p0) ⟨Nat.pow_lt_pow_right (n := 5) (by omega) (by omega), fun q hq => by
      rw [Nat.testBit_two_pow]
      show decide (p0 = q) = (decide (q < pS P) && decide (q = p0))
      by_cases e : p0 = q
      · rw [decide_eq_true e, decide_eq_true (show q < pS P by omega), decide_eq_true e.symm]
        rfl
      · rw [decide_eq_false e, decide_eq_false (show ¬ q = p0 from fun z => e z.symm), Bool.and_false]⟩ (fun d' q' hdn => by unfold doneS at hdn; omega)
  refine ⟨r, ?_, z2⟩
  unfold f2_lastsFrom
  rw [aO_23 w, hb.2.2.1, shl_nI (by omega), bW_e, aO_23 w, hb.2.2.2.1, bW_e]
  exact z1
theorem S11_endH {M : MM} {p0 H : Nat} {s : Nat → Nat} (h : CoC M P o (some (p0, H, s))) (hc : CostC M P o) (hcn : CnOK P o cn) : ∃ M1 M2 a1 l g r, f11_settleHeads M 1 = some M1 ∧ Wl M1 ∧ f2_findLasting M1 48 = some M2 ∧ HdC M2 a1 P o cn ∧ mI M2 52 = bR 30 l g ∧ LsA P o cn l ∧ SmH [1, 48, 52] [34, 36] M M2 ∧ (∀ j, j ≠ 13 → mI M2 1 j = mI M 1 j) ∧ CoC M2 P o (some (p0, H, s)) ∧ CostC M2 P o ∧ f2_lastsFrom M2 48 23 = some (bI r, M2) ∧ enA P cn p0 H s l r := by
  obtain ⟨M1, a1, d1, d2, d3, d4, d5, d6⟩ := S11_settleH h hc hcn
  obtain ⟨l, k1, k2⟩ := S2_findLasting d2 h.p (o_lt h.lo)
  obtain ⟨M2, hM2⟩ : ∃ M2, M2 = uI M1 52 (bR 30 l (mI M1 52)) := ⟨_, rfl⟩
  have s2 : Sm [52] [] M1 M2 := by rw [hM2]; exact (Sm.rfl _ _ M1).uI _ (by decide)
  have hd2 : HdC M2 a1 P o cn := d2.sm s2 (by decide) (by decide)
  have h2 : CoC M2 P o (some (p0, H, s)) := d5.sm s2 (by rw [s2.i 1 (by decide)]) (by decide)
  have r52 : mI M2 52 = bR 30 l (mI M1 52) := by rw [hM2, mI_uI, if_pos rfl]
  obtain ⟨n1, n2, n3⟩ := h2.2.2.2.2.2.2
  obtain ⟨r, z1, z2⟩ := S2_lastsFrom (p0 := p0) (H := H) (s := s) hd2 h.p r52 h2.2.2.2.2.2.1 n1 n2 (fun i hi => Nat.lt_of_lt_of_le (n3 i hi) h.p.2.1)
  rw [← hM2] at k1
  exact ⟨M1, M2, a1, l, mI M1 52, r, d1, d5.w, k1, hd2, r52, k2, (d3.more (by decide) (by decide)).trans (s2.h.more (by decide) (by decide)), fun j hj => by rw [s2.i 1 (by decide)]; exact d4 j hj, h2, d6.sm s2 (by rw [s2.i 1 (by decide)]) (by decide), z1, z2⟩
theorem S11_endless {M : MM} {nw : NW} (h : CoC M P o nw) (hc : CostC M P o) (hcn : CnOK P o cn) : ∃ M' r, f11_endless M 1 = some (r, M') ∧ SmH [1, 48, 52] [34, 36] M M' ∧ (∀ j, j ≠ 13 → mI M' 1 j = mI M 1 j) ∧ CoC M' P o nw ∧ CostC M' P o ∧ (nw = none → r = -1) ∧ ∀ p H s, nw = some (p, H, s) → ∃ l b, LsA P o cn l ∧ r = bI b ∧ enA P cn p H s l b := by
  have w := h.w
  unfold f11_endless
  rw [aO_1 w, r_1_2 w, aO_23 w, S6_isNone w h.2.2.2.2.2.1 h.2.2.2.2.2.2 h.p, cI_some]
  rcases nw with _ | ⟨p0, H, s⟩
  · rw [if_neg (show ¬ bI (Option.isNone (none : NW)) = 0 by decide)]
    exact ⟨M, -1, rfl, (Sm.rfl _ _ _).h, fun _ _ => rfl, h, hc, fun _ => rfl, fun _ _ _ q => by cases q⟩
  · obtain ⟨M1, M2, a1, l, g, r, d1, w1, d2, d3, d4, d5, d6, d7, d8, d9, d10, d11⟩ := S11_endH h hc hcn
    have w2 := d8.w
    rw [if_pos (show bI (Option.isNone (some (p0, H, s) : NW)) = 0 from rfl)]
    refine ⟨M2, bI r, ?_, d6, d7, d8, d9, (fun q => by cases q), fun p' H' s' q => by cases q; exact ⟨l, r, d5, rfl, d11⟩⟩
    rw [aO_1 w, d1, cV_some, aO_1 w1, r_1_8 w1, aO_48 w1, d2, cV_some, aO_1 w2, aO_1 w2, r_1_8 w2, aO_48 w2, r_1_2 w2, d10, cI_some]
    cases r <;> rfl
/-! the reference -/
theorem LM_en20 {M : MM} (hd : HdM M P o cn) (hp : WP P) {B : Nat → Bool} {g : Nat → Int32} (hr : mI M 106 = bR 900 B g) {p0 H : Nat} {s : Nat → Nat} (hH : H ≤ 40) (hs : ∀ i, i < H → mI M 92 i = nI (s i) ∧ s i < 6) (hC : CU P cn p0 H s (mI M 107) 0) {h : Nat} (h1 : 1 ≤ h) (hh : h ≤ H) :
    ∀ (e j : Nat), j + e = pS P → ∀ f, e < f → (∀ d q, (H - d < h ∨ (H - d = h ∧ q < j)) → hitS P cn p0 H s d q → gwB B (6 * q + s (H - 1 - d)) = false) →
    (∀ K10, LP4 (f12_isEndless_b20_body K10) f M 86 (nI h) (nI j) = some (1, M)) ∧ enP P cn p0 H s (gwB B) ∨
    (∀ K10, LP4 (f12_isEndless_b20_body K10) f M 86 (nI h) (nI j) = K10 M 86 (nI (h + 1))) ∧ ∀ d q, H - d < h + 1 → hitS P cn p0 H s d q → gwB B (6 * q + s (H - 1 - d)) = false
  | 0, j, hj, f + 1, _, ha => by
    obtain ⟨w, h2, -⟩ := id hd
    have p5 := hp.1
    refine .inr ⟨fun K10 => ?_, fun d q hD hit => ha d q (by have := hit.2.1; omega) hit⟩
    show f12_isEndless_b20_body _ _ _ _ _ _ = _
    generalize LP4 (f12_isEndless_b20_body K10) f = K
    unfold f12_isEndless_b20_body
    rw [aO_86 w, SM_states w h2, cI_some, if_pos (nI_le (by omega) (by omega)), nI_1]
  | e + 1, j, hj, f + 1, hf, ha => by
    obtain ⟨w, h2, -⟩ := id hd
    have p5 := hp.1
    obtain ⟨s1, s2⟩ := hs (h - 1) (by omega)
    have eD : H - 1 - (H - h) = h - 1 := by omega
    have head : ∀ K10, LP4 (f12_isEndless_b20_body K10) (f + 1) M 86 (nI h) (nI j) = if upS P cn p0 H s (H - h) j = true ∧ gwB B (6 * j + s (h - 1)) = true then some (1, M) else LP4 (f12_isEndless_b20_body K10) f M 86 (nI h) (nI (j + 1)) := fun K10 => by
      show f12_isEndless_b20_body _ _ _ _ _ _ = _
      generalize LP4 (f12_isEndless_b20_body K10) f = K
      unfold f12_isEndless_b20_body f12_isEndless_b59
      rw [aO_86 w, SM_states w h2, cI_some, if_neg (nI_ge (by omega) (by omega)), aO_86 w, r_86_39 w, lit_5, nI_mulN, nI_add, aA_107 w (by omega), nI_clamp (by omega), hC h j (by omega) hh (by omega), aO_86 w, r_86_17 w, nI_sub1 (by omega), aA_92 w (by omega), nI_clamp (by omega), s1, aO_86 w, SM_goesOn w hr (by omega) s2, cI_some, nI_1]
      simp only [bI_0]
      by_cases c1 : upS P cn p0 H s (H - h) j = true
      · rw [if_neg (by rw [c1]; decide)]
        by_cases c2 : gwB B (6 * j + s (h - 1)) = true
        · rw [if_neg (by rw [c2]; decide), if_pos ⟨c1, c2⟩]
        · rw [Bool.not_eq_true] at c2
          rw [if_pos c2, if_neg (fun z => Bool.false_ne_true (c2.symm.trans z.2))]
      · rw [Bool.not_eq_true] at c1
        rw [if_pos c1, if_neg (fun z => Bool.false_ne_true (c1.symm.trans z.1))]
    by_cases c : upS P cn p0 H s (H - h) j = true ∧ gwB B (6 * j + s (h - 1)) = true
    · exact .inl ⟨fun K10 => by rw [head, if_pos c], H - h, j, ⟨by omega, by omega, c.1⟩, by rw [eD]; exact c.2⟩
    · rcases LM_en20 hd hp hr hH hs hC h1 hh e (j + 1) (by omega) f (by omega) (fun d q hD h' => by
          by_cases ee : H - d = h ∧ q = j
          · have ed : d = H - h := by have := h'.1; omega
            rw [ed, ee.2] at h' ⊢
            rw [eD, ← Bool.not_eq_true]
            exact fun z => c ⟨h'.2.2, z⟩
          · exact ha d q (by omega) h') with ⟨i1, i2⟩ | ⟨i1, i2⟩
      · exact .inl ⟨fun K10 => by rw [head, if_neg c, i1], i2⟩
      · exact .inr ⟨fun K10 => by rw [head, if_neg c, i1], i2⟩
theorem LM_en10 {M : MM} (hd : HdM M P o cn) (hp : WP P) {B : Nat → Bool} {g : Nat → Int32} (hr : mI M 106 = bR 900 B g) {p0 H : Nat} {s : Nat → Nat} (h21 : mI M 86 21 = nI H) (hH : H ≤ 40) (hs : ∀ i, i < H → mI M 92 i = nI (s i) ∧ s i < 6) (hC : CU P cn p0 H s (mI M 107) 0) :
    ∀ (n h : Nat), h + n = H + 1 → 1 ≤ h → ∀ f, n < f → (∀ d q, H - d < h → hitS P cn p0 H s d q → gwB B (6 * q + s (H - 1 - d)) = false) → ∃ r, LP3 f12_isEndless_b10_body f M 86 (nI h) = some (bI r, M) ∧ enA P cn p0 H s (gwB B) r
  | 0, h, hn, h1, f + 1, _, ha => by
    obtain ⟨w, h2, -⟩ := id hd
    refine ⟨false, ?_, (fun q => by cases q), fun q => ?_⟩
    · show f12_isEndless_b10_body _ _ _ _ = _
      generalize LP3 f12_isEndless_b10_body f = K
      unfold f12_isEndless_b10_body
      rw [aO_86 w, h21]
      simp only [c_lt (show H < 2 ^ 31 by omega) (show h < 2 ^ 31 by omega)]
      rw [if_pos (by omega)]
      rfl
    · exfalso
      obtain ⟨d, q', z1, z2⟩ := q
      have := ha d q' (by have := z1.1; omega) z1
      rw [z2] at this
      cases this
  | n + 1, h, hn, h1, f + 1, hf, ha => by
    obtain ⟨w, h2, -⟩ := id hd
    have head : LP3 f12_isEndless_b10_body (f + 1) M 86 (nI h) = f12_isEndless_b20 (LP3 f12_isEndless_b10_body f) M 86 (nI h) 0 := by
      show f12_isEndless_b10_body _ _ _ _ = _
      generalize LP3 f12_isEndless_b10_body f = K
      unfold f12_isEndless_b10_body
      rw [aO_86 w, h21]
      simp only [c_lt (show H < 2 ^ 31 by omega) (show h < 2 ^ 31 by omega)]
      rw [if_neg (by omega)]
    rw [head]
    rcases LM_en20 hd hp hr hH hs hC h1 (show h ≤ H by omega) (pS P) 0 (by omega) FU (FU_big (by have := hp.1; omega)) (fun d q hD h' => ha d q (by omega) h') with ⟨i1, i2⟩ | ⟨i1, i2⟩
    · exact ⟨true, i1 _, fun _ => i2, fun _ => rfl⟩
    · obtain ⟨r, k1, k2⟩ := LM_en10 hd hp hr h21 hH hs hC n (h + 1) (by omega) (by omega) f (by omega) i2
      exact ⟨r, (i1 _).trans k1, k2⟩
theorem SM_isEndless {M : MM} {p0 H : Nat} {s : Nat → Nat} (h : CoM M P o (some (p0, H, s))) (ht : ToldOK M P o) (hcn : CnOK P o cn) : ∃ M' r l, f12_isEndless M 86 = some (bI r, M') ∧ LsA P o cn l ∧ enA P cn p0 H s l r ∧ CU P cn p0 H s (mI M' 107) 0 ∧ HdM M' P o cn ∧ Sm [86, 95, 96, 97, 98, 106, 107] [99] M M' ∧ (∀ j, j ≠ 30 → j ≠ 31 → mI M' 86 j = mI M 86 j) ∧ CoM M' P o (some (p0, H, s)) ∧ ToldOK M' P o := by
  have w := h.w
  obtain ⟨M1, B, g, a1, a2, a3, a4, a5, a6, a7, a8⟩ := SM_layBehind h ht hcn
  obtain ⟨M2, row, b1, b2, b3, b4, b5, b6, b7, b8⟩ := SM_comesUp a7 a8 hcn
  have w1 := a7.w
  have w2 := b7.w
  obtain ⟨e1, e2, e3, e4⟩ := b7.2.2.2.2.1
  have e3' : mI M2 86 21 = nI H := e3
  obtain ⟨n1, n2, n3⟩ := b7.2.2.2.2.2.1
  have n2' : H ≤ 40 := n2
  obtain ⟨r, k1, k2⟩ := LM_en10 (M := M2) (B := B) (g := g) b4 h.p (by rw [b5.i 106 (by decide), a2]) (p0 := p0) (H := H) (s := s) e3' n2' (fun i hi => ⟨e4 i hi, Nat.lt_of_lt_of_le (n3 i hi) h.p.2.1⟩) (by rw [b2]; exact b3) H 1 (by omega) (by omega) FU (FU_big (by omega)) (fun d q z1 z2 => by have := z2.1; omega)
  -- the set of lasting heads, and that the ring tells it
  have lx : LsA P o cn (gwB B) := by
    refine ⟨fun a ha q => ?_, fun X hX a ha q => ?_⟩
    · obtain ⟨w1, w2, w3⟩ := a3
      obtain ⟨m, hm, q⟩ := any_iff.mp q
      rw [Bool.and_eq_true, Bool.or_eq_true, decide_eq_true_iff] at q
      have tr : TrR (fun a b => B (30 * a + b) = true) := fun a b c ha hb hc q1 q2 => w2 b a c hb hb ha hc q1 q2
      have am : B (30 * a + m) = true := by
        rcases q.2 with z | z
        · rw [← z]
          exact q.1
        · exact z
      obtain ⟨a', x1, x2, x3⟩ := w3 (fun a b => ∃ a', a' < 30 ∧ edB P o cn a a' = true ∧ (a' = b ∨ B (30 * a' + b) = true)) (fun a b c ha hb hc q1 q2 => by
        obtain ⟨a', h3, e1, e2⟩ := q1
        obtain ⟨b', h4, f1, f2⟩ := q2
        have bc : B (30 * b + c) = true := by
          have := w1 b b' hb h4 f1
          rcases f2 with f2 | f2
          · rw [← f2]
            exact this
          · exact tr b b' c hb h4 hc this f2
        refine ⟨a', h3, e1, .inr ?_⟩
        rcases e2 with e2 | e2
        · rw [e2]
          exact bc
        · exact tr a' b c h3 hb hc e2 bc) (fun a b ha hb e => ⟨b, hb, e, .inl rfl⟩) a m ha hm am
      refine ⟨a', x1, x2, any_in hm ?_⟩
      rw [q.1, Bool.true_and, Bool.or_eq_true, decide_eq_true_iff]
      rcases x3 with x3 | x3
      · exact .inl x3.symm
      · exact .inr x3
    · obtain ⟨l, hl⟩ : ∃ l : Nat → Bool, ∀ h, l h = true ↔ ∃ Y : Nat → Bool, (∀ h, h < 30 → Y h = true → ∃ h', h' < 30 ∧ edB P o cn h h' = true ∧ Y h' = true) ∧ Y h = true := ⟨fun h => @decide _ (Classical.propDecidable _), fun h => @decide_eq_true_iff _ (Classical.propDecidable _)⟩
      have main := last_ring (l := l) a3 (fun a ha q => by
        obtain ⟨Y, hY, hy⟩ := (hl a).mp q
        obtain ⟨b, hb, e, hyb⟩ := hY a ha hy
        exact ⟨b, hb, e, (hl b).mpr ⟨Y, hY, hyb⟩⟩) (fun Y hY a ha hy => (hl a).mpr ⟨Y, hY, hy⟩) ha
      rw [← main]
      exact (hl a).mpr ⟨X, hX, q⟩
  refine ⟨M2, r, gwB B, ?_, lx, k2, by rw [b2]; exact b3, b4, (a5.more (by decide) (by decide)).trans (b5.more (by decide) (by decide)), fun j q1 q2 => (b6 j q1 q2).trans (a6 j q1 q2), b7, b8⟩
  unfold f12_isEndless
  rw [aO_86 w, a1, cV_some, aO_86 w1, b1, cV_some]
  exact k1
theorem SM_endless {M : MM} {nw : NW} (h : CoM M P o nw) (ht : ToldOK M P o) (hcn : CnOK P o cn) : ∃ M' r, f12_endless M 86 = some (r, M') ∧ Sm [86, 95, 96, 97, 98, 106, 107] [99] M M' ∧ (∀ j, j ≠ 0 → j ≠ 30 → j ≠ 31 → mI M' 86 j = mI M 86 j) ∧ CoM M' P o nw ∧ ToldOK M' P o ∧ (nw = none → r = -1) ∧ ∀ p H s, nw = some (p, H, s) → ∃ l b, LsA P o cn l ∧ r = bI b ∧ enA P cn p H s l b := by
  have w := h.w
  have w0 : Wl (sI M 86 0 0) := w
  unfold f12_endless
  rw [aO_86 w, bM_e, aO_86 w0]
  rcases nw with _ | ⟨p0, H, s⟩
  · rw [show mI (sI M 86 0 0) 86 19 = 0 from (th_f (by decide)).trans h.2.2.2.2.1, if_pos rfl]
    exact ⟨_, -1, rfl, th_sm.more (by decide) (by decide), fun j q _ _ => th_f q, h.th 0, ht.th 0, fun _ => rfl, fun _ _ _ q => by cases q⟩
  · rw [show mI (sI M 86 0 0) 86 19 = 1 from (th_f (by decide)).trans h.2.2.2.2.1.1, if_neg (by decide), aO_86 w0]
    obtain ⟨M', r, l, a1, a2, a3, a4, a5, a6, a7, a8, a9⟩ := SM_isEndless (h.th 0) (ht.th 0) hcn
    rw [a1, cI_some]
    refine ⟨M', bI r, ?_, (th_sm.more (by decide) (by decide)).trans a6, fun j q0 q1 q2 => (a7 j q1 q2).trans (th_f q0), a8, a9, (fun q => by cases q), fun p' H' s' q => by cases q; exact ⟨l, r, a2, rfl, a3⟩⟩
    cases r <;> rfl
theorem enA_eq {hp : WP P} {p0 H : Nat} {s : Nat → Nat} (hs : ∀ i, i < H → s i < 6) {l l' : Nat → Bool} {b b' : Bool} (a1 : LsA P o cn l) (a2 : LsA P o cn l') (e1 : enA P cn p0 H s l b) (e2 : enA P cn p0 H s l' b') : b = b' := by
  have : enP P cn p0 H s l ↔ enP P cn p0 H s l' := exists_congr fun d => exists_congr fun q => and_congr_right fun hit => by
    have := hit.1
    have h5 := hp.1
    have := hit.2.1
    rw [LsA_eq a1 a2 _ (by have := hs (H - 1 - d) (by omega); omega)]
  rw [Bool.eq_iff_iff]
  exact e1.trans (this.trans e2.symm)
end ENDL
