/-! HOW HIGH: what both sides answer -/
def hitS (P : PG) (cn : Nat → Nat → Nat → Bool) (p0 H : Nat) (s : Nat → Nat) (d q : Nat) : Prop := d < H ∧ q < pS P ∧ upS P cn p0 H s d q = true
def vlS (c : Nat → Nat) (H : Nat) (s : Nat → Nat) (d q : Nat) : Nat := H - 1 - d + c (6 * q + s (H - 1 - d))
def infS (P : PG) (cn : Nat → Nat → Nat → Bool) (p0 H : Nat) (s c : Nat → Nat) : Prop := ∃ d q, hitS P cn p0 H s d q ∧ c (6 * q + s (H - 1 - d)) = 31
def hgA (P : PG) (cn : Nat → Nat → Nat → Bool) (p0 H : Nat) (s c : Nat → Nat) (r : Int32) : Prop := (infS P cn p0 H s c → r = -1) ∧ (¬ infS P cn p0 H s c → ∃ m, r = nI m ∧ H ≤ m ∧ (∀ d q, hitS P cn p0 H s d q → vlS c H s d q ≤ m) ∧ (m = H ∨ ∃ d q, hitS P cn p0 H s d q ∧ vlS c H s d q = m))
theorem hgA_eq {P : PG} {cn : Nat → Nat → Nat → Bool} {p0 H : Nat} {s c : Nat → Nat} {r r' : Int32} (a : hgA P cn p0 H s c r) (b : hgA P cn p0 H s c r') : r = r' := by
  by_cases q : infS P cn p0 H s c
  · rw [a.1 q, b.1 q]
  · obtain ⟨m, e1, e2, e3, e4⟩ := a.2 q
    obtain ⟨m', f1, f2, f3, f4⟩ := b.2 q
    have : m = m' := by
      refine Nat.le_antisymm ?_ ?_
      · rcases e4 with e | ⟨d, q, h, e⟩
        · omega
        · rw [← e]
          exact f3 d q h
      · rcases f4 with e | ⟨d, q, h, e⟩
        · omega
        · rw [← e]
          exact e3 d q h
    rw [e1, f1, this]
section HGT
variable {P : PG} {o a1 : Nat} {cn : Nat → Nat → Nat → Bool}
theorem S2_riseOf {M : MM} (hd : HdC M a1 P o cn) {c : Nat → Nat} {g : Nat → Int32} (hr : mI M 50 = nR 30 c g) (hc : Rg c) {p s : Nat} (hp5 : p < 5) (hs : s < 6) : f2_riseOf M 48 (nI p) (nI s) = some (if c (6 * p + s) = 31 then -1 else nI (c (6 * p + s)), M) := by
  have w := hd.1
  have b := hc (6 * p + s) (by omega)
  unfold f2_riseOf f2_headOf
  rw [aO_48 w, cI_some, hd_e, r_48_0 w, aO_49 w, g_49 w, cI_some, gI_in (by omega) (by omega), hr, nR_at (by omega), lit_31]
  simp only [c_lt (show c (6 * p + s) < 2 ^ 31 by omega) (show 31 < 2 ^ 31 by omega)]
  by_cases q : c (6 * p + s) = 31
  · rw [if_neg (by omega), if_pos q]
  · rw [if_pos (by omega), if_neg q]
/-- what is found so far: levels before d, and states below j at d -/
def doneS (d j d' q' : Nat) : Prop := d' < d ∨ (d' = d ∧ q' < j)
def accS (P : PG) (cn : Nat → Nat → Nat → Bool) (p0 H : Nat) (s c : Nat → Nat) (d j m : Nat) : Prop := H ≤ m ∧ m ≤ 200 ∧ (∀ d' q', doneS d j d' q' → hitS P cn p0 H s d' q' → c (6 * q' + s (H - 1 - d')) ≠ 31 ∧ vlS c H s d' q' ≤ m) ∧ (m = H ∨ ∃ d' q', hitS P cn p0 H s d' q' ∧ vlS c H s d' q' = m)
theorem L2_hi36 {M : MM} (hd : HdC M a1 P o cn) (hp : WP P) {c : Nat → Nat} {g : Nat → Int32} (hr : mI M 50 = nR 30 c g) (hc : Rg c) {p0 H : Nat} {s : Nat → Nat} (hH : H ≤ 40) (hs : ∀ i, i < H → s i < 6) {d rb : Nat} (hd2 : d < H) (hb : BT P rb (upS P cn p0 H s d)) :
    ∀ (e j : Nat), j + e = pS P → ∀ f, e < f → ∀ m, accS P cn p0 H s c d j m →
    (∀ K20, LP8 (f2_highestFrom_b36_body K20) f M 48 23 (nI m) (nI rb) (nI (H - 1 - d)) (nI (s (H - 1 - d))) (nI j) = some (-1, M)) ∧ infS P cn p0 H s c ∨
    ∃ m', (∀ K20, LP8 (f2_highestFrom_b36_body K20) f M 48 23 (nI m) (nI rb) (nI (H - 1 - d)) (nI (s (H - 1 - d))) (nI j) = cI (f2_reachedBelow M 48 (nI rb) (nI (s (H - 1 - d)))) fun r96 M96 => K20 M96 48 23 (nI m') r96 (nI (H - 1 - d) + -1)) ∧ accS P cn p0 H s c (d + 1) 0 m'
  | 0, j, hj, f + 1, _, m, ha => by
    obtain ⟨w, h1, h2, h3, -⟩ := id hd
    have p5 := hp.1
    refine .inr ⟨m, fun K20 => ?_, ha.1, ha.2.1, fun d' q' hdn hit => ?_, ha.2.2.2⟩
    · show f2_highestFrom_b36_body _ _ _ _ _ _ _ _ _ _ = _
      generalize LP8 (f2_highestFrom_b36_body K20) f = K
      unfold f2_highestFrom_b36_body
      rw [aO_48 w, h1, h2.o w, h2.s, if_pos (nI_le (by omega) (by omega)), aO_48 w]
    · refine ha.2.2.1 d' q' ?_ hit
      unfold doneS at *
      have := hit.2.1
      omega
  | e + 1, j, hj, f + 1, hf, m, ha => by
    obtain ⟨w, h1, h2, h3, -⟩ := id hd
    have p5 := hp.1
    have sg := hs (H - 1 - d) (by omega)
    have bc := hc (6 * j + s (H - 1 - d)) (by omega)
    have bt := hb.2 j (by omega)
    rw [decide_eq_true (show j < pS P by omega), Bool.true_and] at bt
    have m200 := ha.2.1
    have head : ∀ K20, LP8 (f2_highestFrom_b36_body K20) (f + 1) M 48 23 (nI m) (nI rb) (nI (H - 1 - d)) (nI (s (H - 1 - d))) (nI j) = if upS P cn p0 H s d j = true then (if c (6 * j + s (H - 1 - d)) = 31 then some (-1, M) else LP8 (f2_highestFrom_b36_body K20) f M 48 23 (nI (max m (vlS c H s d j))) (nI rb) (nI (H - 1 - d)) (nI (s (H - 1 - d))) (nI (j + 1))) else LP8 (f2_highestFrom_b36_body K20) f M 48 23 (nI m) (nI rb) (nI (H - 1 - d)) (nI (s (H - 1 - d))) (nI (j + 1)) := fun K20 => by
      show f2_highestFrom_b36_body _ _ _ _ _ _ _ _ _ _ = _
      generalize LP8 (f2_highestFrom_b36_body K20) f = K
      unfold f2_highestFrom_b36_body f2_highestFrom_b86
      rw [aO_48 w, h1, h2.o w, h2.s, if_neg (nI_ge (by omega) (by omega)), bU (by have := hb.1; omega) (by omega), bt, aO_48 w, S2_riseOf hd hr hc (by omega) sg, cI_some, nI_1]
      simp only [bI_1]
      by_cases c1 : upS P cn p0 H s d j = true
      · rw [if_pos c1, if_pos c1]
        by_cases c2 : c (6 * j + s (H - 1 - d)) = 31
        · rw [if_pos c2, if_pos rfl, if_pos c2]
        · rw [if_neg c2, if_neg (nI_neM (by omega)), if_neg c2, nI_add, mxI_N (by omega) (by omega), bW_e]
          rfl
      · rw [if_neg c1, if_neg c1]
    by_cases c1 : upS P cn p0 H s d j = true
    · have hit : hitS P cn p0 H s d j := ⟨hd2, by omega, c1⟩
      by_cases c2 : c (6 * j + s (H - 1 - d)) = 31
      · exact .inl ⟨fun K20 => by rw [head, if_pos c1, if_pos c2], d, j, hit, c2⟩
      · have vb : vlS c H s d j ≤ 200 := by
          unfold vlS
          omega
        rcases L2_hi36 hd hp hr hc hH hs hd2 hb e (j + 1) (by omega) f (by omega) (max m (vlS c H s d j)) ⟨by have := ha.1; omega, by omega, fun d' q' hdn h' => by
            by_cases ee : d' = d ∧ q' = j
            · rw [ee.1, ee.2]
              exact ⟨c2, by omega⟩
            · obtain ⟨z1, z2⟩ := ha.2.2.1 d' q' (by unfold doneS at *; omega) h'
              exact ⟨z1, by omega⟩, by
            rcases Nat.le_total m (vlS c H s d j) with z | z
            · exact .inr ⟨d, j, hit, by omega⟩
            · rw [Nat.max_eq_left z]
              exact ha.2.2.2⟩ with ⟨i1, i2⟩ | ⟨m', i1, i2⟩
        · exact .inl ⟨fun K20 => by rw [head, if_pos c1, if_neg c2, i1], i2⟩
        · exact .inr ⟨m', fun K20 => by rw [head, if_pos c1, if_neg c2, i1], i2⟩
    · rcases L2_hi36 hd hp hr hc hH hs hd2 hb e (j + 1) (by omega) f (by omega) m ⟨ha.1, ha.2.1, fun d' q' hdn h' => by
          by_cases ee : d' = d ∧ q' = j
          · exfalso
            have := h'.2.2
            rw [ee.1, ee.2] at this
            exact c1 this
          · exact ha.2.2.1 d' q' (by unfold doneS at *; omega) h', ha.2.2.2⟩ with ⟨i1, i2⟩ | ⟨m', i1, i2⟩
      · exact .inl ⟨fun K20 => by rw [head, if_neg c1, i1], i2⟩
      · exact .inr ⟨m', fun K20 => by rw [head, if_neg c1, i1], i2⟩
theorem L2_hi20 {M : MM} (hd : HdC M a1 P o cn) (hp : WP P) {c : Nat → Nat} {g : Nat → Int32} (hr : mI M 50 = nR 30 c g) (hc : Rg c) {p0 H : Nat} {s : Nat → Nat} (hb : PlC M 23 p0 H s) (hH : H ≤ 40) (hs : ∀ i, i < H → s i < 6) :
    ∀ (n d : Nat), d + n = H → ∀ f, n < f → ∀ rb m, BT P rb (upS P cn p0 H s d) → accS P cn p0 H s c d 0 m → ∃ r, LP6 f2_highestFrom_b20_body f M 48 23 (nI m) (nI rb) (nI n - 1) = some (r, M) ∧ hgA P cn p0 H s c r
  | 0, d, hn, f + 1, _, rb, m, hbt, ha => by
    refine ⟨nI m, ?_, fun q => ?_, fun _ => ⟨m, rfl, ha.1, fun d' q' h' => (ha.2.2.1 d' q' (.inl (by have := h'.1; omega)) h').2, ha.2.2.2⟩⟩
    · rw [nI_01, LP6_s]
      generalize LP6 f2_highestFrom_b20_body f = K
      unfold f2_highestFrom_b20_body
      rw [if_pos (by decide)]
    · exfalso
      obtain ⟨d', q', h', z⟩ := q
      exact (ha.2.2.1 d' q' (.inl (by have := h'.1; omega)) h').1 z
  | n + 1, d, hn, f + 1, hf, rb, m, hbt, ha => by
    obtain ⟨w, h1, h2, h3, -⟩ := id hd
    have sg := hs (H - 1 - d) (by omega)
    have en : n = H - 1 - d := by omega
    have head : LP6 f2_highestFrom_b20_body (f + 1) M 48 23 (nI m) (nI rb) (nI (n + 1) - 1) = f2_highestFrom_b36 (LP6 f2_highestFrom_b20_body f) M 48 23 (nI m) (nI rb) (nI (H - 1 - d)) (nI (s (H - 1 - d))) 0 := by
      rw [nI_sub1 (by omega), show n + 1 - 1 = H - 1 - d by omega, LP6_s]
      generalize LP6 f2_highestFrom_b20_body f = K
      unfold f2_highestFrom_b20_body
      rw [if_neg (nI_pos (by omega)), aO_23 w, S6_signAt w hb.1 (show H - 1 - d < 40 by omega), cI_some, hb.2.2.2.2.2 _ (by omega)]
    rw [head]
    rcases L2_hi36 hd hp hr hc hH hs (show d < H by omega) hbt (pS P) 0 (by omega) FU (FU_big (by have := hp.1; omega)) m ha with ⟨i1, i2⟩ | ⟨m', i1, i2⟩
    · exact ⟨-1, i1 _, fun _ => rfl, fun q => absurd i2 q⟩
    · obtain ⟨rb', k1, k2⟩ := S2_reachedBelow hd hp hbt.1 sg
      obtain ⟨r, z1, z2⟩ := L2_hi20 hd hp hr hc hb hH hs n (d + 1) (by omega) f (by omega) rb' m' (hbt.next hp.1 k2) i2
      refine ⟨r, ?_, z2⟩
      rw [← z1]
      refine (i1 _).trans ?_
      rw [k1, cI_some, ← en, ← Int32.sub_eq_add_neg]
theorem S11_height {M : MM} {nw : NW} (h : CoC M P o nw) (hc : CostC M P o) (hcn : CnOK P o cn) {c : Nat → Nat} (hcR : Rg c) (hf : ∀ M a1, HdC M a1 P o cn → f2_findRises M 48 = some (uI M 50 (nR 30 c (mI M 50)))) :
    ∃ M' r, f11_height M 1 = some (r, M') ∧ SmH [1, 48, 50] [34, 36] M M' ∧ (∀ j, j ≠ 13 → mI M' 1 j = mI M 1 j) ∧ CoC M' P o nw ∧ CostC M' P o ∧ (nw = none → r = -2) ∧ ∀ p H s, nw = some (p, H, s) → hgA P cn p H s c r := by
  have w := h.w
  unfold f11_height
  rw [aO_1 w, r_1_2 w, aO_23 w, S6_isNone w h.2.2.2.2.2.1 h.2.2.2.2.2.2 h.p, cI_some]
  rcases nw with _ | ⟨p0, H, s⟩
  · rw [if_neg (show ¬ bI (Option.isNone (none : NW)) = 0 by decide)]
    exact ⟨M, -2, rfl, (Sm.rfl _ _ _).h, fun _ _ => rfl, h, hc, fun _ => rfl, fun _ _ _ q => by cases q⟩
  · obtain ⟨M1, a1, d1, d2, d3, d4, d5, d6⟩ := S11_settleH h hc hcn
    have w1 := d5.w
    obtain ⟨M2, hM2⟩ : ∃ M2, M2 = uI M1 50 (nR 30 c (mI M1 50)) := ⟨_, rfl⟩
    have s2 : Sm [50] [] M1 M2 := by rw [hM2]; exact (Sm.rfl _ _ M1).uI _ (by decide)
    have hd2 : HdC M2 a1 P o cn := d2.sm s2 (by decide) (by decide)
    have w2 := hd2.1
    have h2 : CoC M2 P o (some (p0, H, s)) := d5.sm s2 (by rw [s2.i 1 (by decide)]) (by decide)
    have c2 : CostC M2 P o := d6.sm s2 (by rw [s2.i 1 (by decide)]) (by decide)
    have hb : PlC M2 23 p0 H s := h2.2.2.2.2.2.1
    obtain ⟨n1, n2, n3⟩ := h2.2.2.2.2.2.2
    have n1' : p0 < pS P := n1
    have n2' : H ≤ 40 := n2
    have p5 := h.p.1
    obtain ⟨r, z1, z2⟩ := L2_hi20 hd2 h.p (c := c) (g := mI M1 50) (by rw [hM2, mI_uI, if_pos rfl]) hcR hb n2' (fun i hi => Nat.lt_of_lt_of_le (n3 i hi) h.p.2.1) H 0 (by omega) FU (FU_big (by omega)) (2 ^ p0) H ⟨Nat.pow_lt_pow_right (n := 5) (by omega) (by omega), fun q hq => by
      rw [Nat.testBit_two_pow]
      show decide (p0 = q) = (decide (q < pS P) && decide (q = p0))
      by_cases e : p0 = q
      · rw [decide_eq_true e, decide_eq_true (show q < pS P by omega), decide_eq_true e.symm]
        rfl
      · rw [decide_eq_false e, decide_eq_false (show ¬ q = p0 from fun z => e z.symm), Bool.and_false]⟩ ⟨Nat.le_refl _, by omega, fun d' q' hdn => by unfold doneS at hdn; omega, .inl rfl⟩
    rw [if_pos (show bI (Option.isNone (some (p0, H, s) : NW)) = 0 from rfl)]
    refine ⟨M2, r, ?_, (d3.more (by decide) (by decide)).trans (s2.h.more (by decide) (by decide)), fun j hj => by rw [s2.i 1 (by decide)]; exact d4 j hj, h2, c2, (fun q => by cases q), fun p' H' s' q => by cases q; exact z2⟩
    have hx : f2_highestFrom M2 48 23 = some (r, M2) := by
      unfold f2_highestFrom
      rw [aO_23 w2, hb.2.2.2.1, bW_e, aO_23 w2, hb.2.2.1, shl_nI (by omega), bW_e, aO_23 w2, bW_e]
      exact z1
    rw [aO_1 w, d1, cV_some, aO_1 w1, r_1_8 w1, aO_48 w1, hf M1 a1 d2, cV_some, ← hM2, aO_1 w2, aO_1 w2, r_1_8 w2, aO_48 w2, r_1_2 w2, hx, cI_some]
/-! the reference -/
def accM (P : PG) (cn : Nat → Nat → Nat → Bool) (p0 H : Nat) (s c : Nat → Nat) (D : Nat → Nat → Prop) (m : Nat) : Prop := m ≤ 1100 ∧ H ≤ m ∧ (1000 ≤ m ↔ ∃ d q, D d q ∧ hitS P cn p0 H s d q ∧ c (6 * q + s (H - 1 - d)) = 31) ∧ (m < 1000 → (∀ d q, D d q → hitS P cn p0 H s d q → vlS c H s d q ≤ m) ∧ (m = H ∨ ∃ d q, hitS P cn p0 H s d q ∧ vlS c H s d q = m))
theorem LM_hi40 {M : MM} (hd : HdM M P o cn) (hp : WP P) {c : Nat → Nat} {g : Nat → Int32} (hr : mI M 105 = nR 30 (fun h => toM (c h)) g) (hc : Rg c) {p0 H : Nat} {s : Nat → Nat} (hH : H ≤ 40) (hs : ∀ i, i < H → mI M 92 i = nI (s i) ∧ s i < 6) (hC : CU P cn p0 H s (mI M 107) 0) {h : Nat} (h1 : 1 ≤ h) (hh : h ≤ H) :
    ∀ (e j : Nat), j + e = pS P → ∀ f, e < f → ∀ m, accM P cn p0 H s c (fun d q => H - d < h ∨ (H - d = h ∧ q < j)) m →
    ∃ m', (∀ K30, LP5 (f12_height_b40_body K30) f M 86 (nI m) (nI h) (nI j) = K30 M 86 (nI m') (nI (h + 1))) ∧ accM P cn p0 H s c (fun d q => H - d < h + 1) m'
  | 0, j, hj, f + 1, _, m, ha => by
    obtain ⟨w, h2, -⟩ := id hd
    have p5 := hp.1
    refine ⟨m, fun K30 => ?_, ha.1, ha.2.1, ha.2.2.1.trans ?_, fun hm => ⟨fun d q hD hit => (ha.2.2.2 hm).1 d q ?_ hit, (ha.2.2.2 hm).2⟩⟩
    · show f12_height_b40_body _ _ _ _ _ _ _ = _
      generalize LP5 (f12_height_b40_body K30) f = K
      unfold f12_height_b40_body
      rw [aO_86 w, SM_states w h2, cI_some, if_pos (nI_le (by omega) (by omega)), nI_1]
    · refine exists_congr fun d => exists_congr fun q => and_congr_left fun hit => ?_
      have := hit.1.2.1
      have := hit.1.1
      omega
    · have := hit.2.1
      have := hit.1
      omega
  | e + 1, j, hj, f + 1, hf, m, ha => by
    obtain ⟨w, h2, -⟩ := id hd
    have p5 := hp.1
    obtain ⟨s1, s2⟩ := hs (h - 1) (by omega)
    have bc := hc (6 * j + s (h - 1)) (by omega)
    have tm := toM_le bc.2
    have m11 := ha.1
    have eD : H - 1 - (H - h) = h - 1 := by omega
    have head : ∀ K30, LP5 (f12_height_b40_body K30) (f + 1) M 86 (nI m) (nI h) (nI j) = if upS P cn p0 H s (H - h) j = true then LP5 (f12_height_b40_body K30) f M 86 (nI (max m (toM (c (6 * j + s (h - 1))) + h - 1))) (nI h) (nI (j + 1)) else LP5 (f12_height_b40_body K30) f M 86 (nI m) (nI h) (nI (j + 1)) := fun K30 => by
      show f12_height_b40_body _ _ _ _ _ _ _ = _
      generalize LP5 (f12_height_b40_body K30) f = K
      unfold f12_height_b40_body f12_height_b91 f12_head
      rw [aO_86 w, SM_states w h2, cI_some, if_neg (nI_ge (by omega) (by omega)), aO_86 w, r_86_39 w, lit_5, nI_mulN, nI_add, aA_107 w (by omega), nI_clamp (by omega), hC h j (by omega) hh (by omega), aO_86 w, aO_86 w, r_86_17 w, nI_sub1 (by omega), aA_92 w (by omega), nI_clamp (by omega), s1, aO_86 w, cI_some, hd_e', r_86_37 w, aA_105 w (by omega), nI_clamp (by omega), hr, nR_at (by omega), nI_add, nI_sub1 (by omega), SM_greater (by omega) (by omega), cI_some, nI_1]
      simp only [bI_0]
      by_cases c1 : upS P cn p0 H s (H - h) j = true
      · rw [if_neg (by rw [c1]; decide), if_pos c1]
      · rw [if_neg c1]
        rw [Bool.not_eq_true] at c1
        rw [if_pos c1]
    by_cases c1 : upS P cn p0 H s (H - h) j = true
    · have hit : hitS P cn p0 H s (H - h) j := ⟨by omega, by omega, c1⟩
      have hv : vlS c H s (H - h) j = h - 1 + c (6 * j + s (h - 1)) := by
        unfold vlS
        rw [eD]
      obtain ⟨m', i1, i2⟩ := LM_hi40 hd hp hr hc hH hs hC h1 hh e (j + 1) (by omega) f (by omega) (max m (toM (c (6 * j + s (h - 1))) + h - 1)) (by
        refine ⟨by omega, by have := ha.2.1; omega, ⟨fun q => ?_, fun q => ?_⟩, fun hm => ⟨fun d q hD h' => ?_, ?_⟩⟩
        · by_cases q1 : 1000 ≤ m
          · obtain ⟨d, q', z1, z2⟩ := ha.2.2.1.mp q1
            exact ⟨d, q', by omega, z2⟩
          · refine ⟨H - h, j, by omega, hit, ?_⟩
            rw [eD]
            unfold toM at q
            split at q
            · assumption
            · omega
        · obtain ⟨d, q', z1, z2, z3⟩ := q
          by_cases ee : H - d = h ∧ q' = j
          · have ed : d = H - h := by have := z2.1; omega
            rw [ed, ee.2, eD] at z3
            unfold toM
            rw [if_pos z3]
            omega
          · have := ha.2.2.1.mpr ⟨d, q', by omega, z2, z3⟩
            omega
        · have hm' : m < 1000 := by omega
          by_cases ee : H - d = h ∧ q = j
          · have ed : d = H - h := by have := h'.1; omega
            rw [ed, ee.2, hv]
            unfold toM at *
            split at hm
            · omega
            · rw [if_neg (by assumption)]
              omega
          · have := (ha.2.2.2 hm').1 d q (by omega) h'
            omega
        · have hm' : m < 1000 := by omega
          rcases Nat.le_total m (toM (c (6 * j + s (h - 1))) + h - 1) with z | z
          · refine .inr ⟨H - h, j, hit, ?_⟩
            rw [hv, Nat.max_eq_right z]
            rw [Nat.max_eq_right z] at hm
            unfold toM at *
            split at hm
            · omega
            · rw [if_neg (by assumption)]
              omega
          · rw [Nat.max_eq_left z]
            exact (ha.2.2.2 hm').2)
      exact ⟨m', fun K30 => by rw [head, if_pos c1, i1], i2⟩
    · have hno : ∀ d q, hitS P cn p0 H s d q → ¬ (H - d = h ∧ q = j) := fun d q h' z => by
        have ed : d = H - h := by have := h'.1; omega
        have := h'.2.2
        rw [ed, z.2] at this
        exact c1 this
      obtain ⟨m', i1, i2⟩ := LM_hi40 hd hp hr hc hH hs hC h1 hh e (j + 1) (by omega) f (by omega) m ⟨ha.1, ha.2.1, ha.2.2.1.trans (exists_congr fun d => exists_congr fun q => and_congr_left fun hit => by have := hno d q hit.1; omega), fun hm => ⟨fun d q hD h' => (ha.2.2.2 hm).1 d q (by have := hno d q h'; omega) h', (ha.2.2.2 hm).2⟩⟩
      exact ⟨m', fun K30 => by rw [head, if_neg c1, i1], i2⟩
theorem LM_hi30 {M : MM} (hd : HdM M P o cn) (hp : WP P) {c : Nat → Nat} {g : Nat → Int32} (hr : mI M 105 = nR 30 (fun h => toM (c h)) g) (hc : Rg c) {p0 H : Nat} {s : Nat → Nat} (h21 : mI M 86 21 = nI H) (hH : H ≤ 40) (hs : ∀ i, i < H → mI M 92 i = nI (s i) ∧ s i < 6) (hC : CU P cn p0 H s (mI M 107) 0) :
    ∀ (n h : Nat), h + n = H + 1 → 1 ≤ h → ∀ f, n < f → ∀ m, accM P cn p0 H s c (fun d q => H - d < h) m → ∃ r, LP4 f12_height_b30_body f M 86 (nI m) (nI h) = some (r, M) ∧ hgA P cn p0 H s c r
  | 0, h, hn, h1, f + 1, _, m, ha => by
    obtain ⟨w, h2, -⟩ := id hd
    have m11 := ha.1
    refine ⟨if m < 1000 then nI m else -1, ?_, fun q => ?_, fun q => ?_⟩
    · show f12_height_b30_body _ _ _ _ _ = _
      generalize LP4 f12_height_b30_body f = K
      unfold f12_height_b30_body
      rw [aO_86 w, h21, lit_1000]
      simp only [c_lt (show H < 2 ^ 31 by omega) (show h < 2 ^ 31 by omega), c_lt (show m < 2 ^ 31 by omega) (show 1000 < 2 ^ 31 by omega)]
      rw [if_pos (by omega)]
      split <;> rfl
    · obtain ⟨d, q', z1, z2⟩ := q
      have := ha.2.2.1.mpr ⟨d, q', by have := z1.1; omega, z1, z2⟩
      rw [if_neg (by omega)]
    · have hm : m < 1000 := by
        rcases Nat.lt_or_ge m 1000 with z | z
        · exact z
        · exfalso
          obtain ⟨d, q', z1, z2⟩ := ha.2.2.1.mp z
          exact q ⟨d, q', z2⟩
      rw [if_pos hm]
      obtain ⟨z1, z2⟩ := ha.2.2.2 hm
      exact ⟨m, rfl, ha.2.1, fun d q' h' => z1 d q' (by have := h'.1; omega) h', z2⟩
  | n + 1, h, hn, h1, f + 1, hf, m, ha => by
    obtain ⟨w, h2, -⟩ := id hd
    obtain ⟨m', i1, i2⟩ := LM_hi40 hd hp hr hc hH hs hC h1 (show h ≤ H by omega) (pS P) 0 (by omega) FU (FU_big (by have := hp.1; omega)) m ⟨ha.1, ha.2.1, ha.2.2.1.trans (exists_congr fun d => exists_congr fun q => and_congr_left fun _ => by omega), fun hm => ⟨fun d q hD h' => (ha.2.2.2 hm).1 d q (by omega) h', (ha.2.2.2 hm).2⟩⟩
    obtain ⟨r, k1, k2⟩ := LM_hi30 hd hp hr hc h21 hH hs hC n (h + 1) (by omega) (by omega) f (by omega) m' i2
    refine ⟨r, ?_, k2⟩
    rw [← k1]
    have z := i1 (LP4 f12_height_b30_body f)
    show f12_height_b30_body _ _ _ _ _ = _
    generalize LP4 f12_height_b30_body f = K at z ⊢
    unfold f12_height_b30_body
    rw [aO_86 w, h21]
    simp only [c_lt (show H < 2 ^ 31 by omega) (show h < 2 ^ 31 by omega)]
    rw [if_neg (by omega)]
    exact z
theorem SM_layRise {M : MM} {nw : NW} (h : CoM M P o nw) (ht : ToldOK M P o) (hcn : CnOK P o cn) {c : Nat → Nat} (hf : ∀ M, HdM M P o cn → f12_layRise_b6 M 86 0 = some (uI M 105 (nR 30 (fun h => toM (c h)) (mI M 105)))) :
    ∃ M' g, f12_layRise M 86 = some M' ∧ mI M' 105 = nR 30 (fun h => toM (c h)) g ∧ HdM M' P o cn ∧ Sm [86, 95, 96, 97, 98, 105] [99] M M' ∧ (∀ j, j ≠ 30 → j ≠ 31 → mI M' 86 j = mI M 86 j) ∧ CoM M' P o nw ∧ ToldOK M' P o := by
  obtain ⟨M1, a1, a2, a3, a4, a5, a6⟩ := HdM_of h ht hcn
  refine ⟨uI M1 105 (nR 30 (fun h => toM (c h)) (mI M1 105)), mI M1 105, ?_, by rw [mI_uI, if_pos rfl], a2.r 105 _ (by decide), (a3.more (by decide) (by decide)).uI _ (by decide), fun j q1 q2 => ?_, ?_, ?_⟩
  · unfold f12_layRise
    rw [aO_86 h.w, a1, cV_some, hf M1 a2]
  · rw [mI_uI, if_neg (by decide)]
    exact a4 j q1 q2
  · exact a5.sm (Is := [105]) (Js := []) ((Sm.rfl _ _ M1).uI _ (by decide)) (by rw [mI_uI, if_neg (by decide)]) (fun j _ _ => by rw [mI_uI, if_neg (by decide)]) a5.sz (by decide)
  · unfold ToldOK at *
    rw [mI_uI, if_neg (by decide)]
    exact a6
theorem SM_height {M : MM} {nw : NW} (h : CoM M P o nw) (ht : ToldOK M P o) (hcn : CnOK P o cn) {c : Nat → Nat} (hcR : Rg c) (hf : ∀ M, HdM M P o cn → f12_layRise_b6 M 86 0 = some (uI M 105 (nR 30 (fun h => toM (c h)) (mI M 105)))) :
    ∃ M' r, f12_height M 86 = some (r, M') ∧ Sm [86, 95, 96, 97, 98, 105, 107] [99] M M' ∧ (∀ j, j ≠ 0 → j ≠ 30 → j ≠ 31 → mI M' 86 j = mI M 86 j) ∧ CoM M' P o nw ∧ ToldOK M' P o ∧ (nw = none → r = -2) ∧ ∀ p H s, nw = some (p, H, s) → hgA P cn p H s c r := by
  have w := h.w
  have w0 : Wl (sI M 86 0 0) := w
  unfold f12_height
  rw [aO_86 w, bM_e, aO_86 w0]
  rcases nw with _ | ⟨p0, H, s⟩
  · rw [show mI (sI M 86 0 0) 86 19 = 0 from (th_f (by decide)).trans h.2.2.2.2.1, if_pos rfl]
    exact ⟨_, -2, rfl, th_sm.more (by decide) (by decide), fun j q _ _ => th_f q, h.th 0, ht.th 0, fun _ => rfl, fun _ _ _ q => by cases q⟩
  · rw [show mI (sI M 86 0 0) 86 19 = 1 from (th_f (by decide)).trans h.2.2.2.2.1.1, if_neg (by decide), aO_86 w0]
    obtain ⟨M1, g, a1, a2, a3, a4, a5, a6, a7⟩ := SM_layRise (h.th 0) (ht.th 0) hcn hf
    obtain ⟨M2, row, b1, b2, b3, b4, b5, b6, b7, b8⟩ := SM_comesUp a6 a7 hcn
    have w1 := a6.w
    have w2 := b7.w
    obtain ⟨e1, e2, e3, e4⟩ := b7.2.2.2.2.1
    have e3' : mI M2 86 21 = nI H := e3
    obtain ⟨n1, n2, n3⟩ := b7.2.2.2.2.2.1
    have n2' : H ≤ 40 := n2
    obtain ⟨r, k1, k2⟩ := LM_hi30 (M := M2) (c := c) (g := g) b4 h.p (by rw [b5.i 105 (by decide), a2]) hcR (p0 := p0) (H := H) (s := s) e3' n2' (fun i hi => ⟨e4 i hi, Nat.lt_of_lt_of_le (n3 i hi) h.p.2.1⟩) (by rw [b2]; exact b3) H 1 (by omega) (by omega) FU (FU_big (by omega)) H ⟨by omega, Nat.le_refl _, ⟨fun q => by omega, fun ⟨d, q, z1, z2, _⟩ => by have := z2.1; omega⟩, fun _ => ⟨fun d q z1 z2 => by have := z2.1; omega, .inl rfl⟩⟩
    rw [a1, cV_some, aO_86 w1, b1, cV_some, aO_86 w2, e3', bW_e]
    refine ⟨M2, r, k1, ((th_sm.more (by decide) (by decide)).trans (a4.more (by decide) (by decide))).trans (b5.more (by decide) (by decide)), fun j q0 q1 q2 => (b6 j q1 q2).trans ((a5 j q1 q2).trans (th_f q0)), b7, b8, (fun q => by cases q), fun p' H' s' q => by cases q; exact k2⟩
end HGT
