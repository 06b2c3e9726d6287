/-! WHICH HEADS COME BEHIND WHICH: the reference -/
def eBj (P : PG) (o : Nat) (cn : Nat → Nat → Nat → Bool) (j i : Nat) : Bool := (List.range j).any fun r => (rin P o r && decide (hdR P r = i / 30)) && sucB P cn r (i % 30)
def WS (m a : Nat) (B : Nat → Bool) : Nat → Bool := fun i => if i / 30 < a then B i || (B (30 * (i / 30) + m) && B (30 * m + i % 30)) else B i
def TrR (R : Nat → Nat → Prop) : Prop := ∀ a b c, a < 30 → b < 30 → c < 30 → R a b → R b c → R a c
/-- the table while it is closed -/
def WsJ (ed : Nat → Nat → Bool) (m : Nat) (B : Nat → Bool) : Prop := (∀ a b, a < 30 → b < 30 → ed a b = true → B (30 * a + b) = true) ∧ (∀ k a b, k < m → k < 30 → a < 30 → b < 30 → B (30 * a + k) = true → B (30 * k + b) = true → B (30 * a + b) = true) ∧ ∀ R : Nat → Nat → Prop, TrR R → (∀ a b, a < 30 → b < 30 → ed a b = true → R a b) → ∀ a b, a < 30 → b < 30 → B (30 * a + b) = true → R a b
theorem WsJ.next {ed : Nat → Nat → Bool} {m : Nat} {B : Nat → Bool} (h : WsJ ed m B) (hm : m < 30) : WsJ ed (m + 1) (WS m 30 B) := by
  have e : ∀ a b, a < 30 → b < 30 → WS m 30 B (30 * a + b) = (B (30 * a + b) || (B (30 * a + m) && B (30 * m + b))) := fun a b ha hb => by
    unfold WS
    rw [show (30 * a + b) / 30 = a by omega, show (30 * a + b) % 30 = b by omega, if_pos ha]
  have e' : ∀ a b, a < 30 → b < 30 → (WS m 30 B (30 * a + b) = true ↔ B (30 * a + b) = true ∨ (B (30 * a + m) = true ∧ B (30 * m + b) = true)) := fun a b ha hb => by
    rw [e a b ha hb, Bool.or_eq_true, Bool.and_eq_true]
  obtain ⟨h1, h2, h3⟩ := h
  refine ⟨fun a b ha hb q => (e' a b ha hb).mpr (.inl (h1 a b ha hb q)), fun k a b hk hk3 ha hb q1 q2 => ?_, fun R hR hed a b ha hb q => ?_⟩
  · rw [e' _ _ ha hk3] at q1
    rw [e' _ _ hk3 hb] at q2
    rw [e' _ _ ha hb]
    by_cases c : k = m
    · subst c
      rcases q1 with q1 | ⟨q1, -⟩ <;> rcases q2 with q2 | ⟨-, q2⟩ <;> exact .inr ⟨q1, q2⟩
    · have hkm : k < m := by omega
      rcases q1 with q1 | ⟨q1, q1'⟩ <;> rcases q2 with q2 | ⟨q2, q2'⟩
      · exact .inl (h2 k a b hkm hk3 ha hb q1 q2)
      · exact .inr ⟨h2 k a m hkm hk3 ha hm q1 q2, q2'⟩
      · exact .inr ⟨q1, h2 k m b hkm hk3 hm hb q1' q2⟩
      · exact .inr ⟨q1, q2'⟩
  · rw [e' a b ha hb] at q
    rcases q with q | ⟨q1, q2⟩
    · exact h3 R hR hed a b ha hb q
    · exact hR a m b ha hm hb (h3 R hR hed a m ha hm q1) (h3 R hR hed m b hm hb q2)
def gwB (B : Nat → Bool) (h : Nat) : Bool := (List.range 30).any fun m => B (30 * m + m) && (decide (m = h) || B (30 * h + m))
/-- lasting is going on in a ring -/
theorem last_ring {ed : Nat → Nat → Bool} {B : Nat → Bool} (h : WsJ ed 30 B) {l : Nat → Bool} (h1 : ∀ a, a < 30 → l a = true → ∃ b, b < 30 ∧ ed a b = true ∧ l b = true) (h2 : ∀ X : Nat → Bool, (∀ h, h < 30 → X h = true → ∃ h', h' < 30 ∧ ed h h' = true ∧ X h' = true) → ∀ h, h < 30 → X h = true → l h = true) {a : Nat} (ha : a < 30) : l a = gwB B a := by
  obtain ⟨w1, w2, w3⟩ := h
  have tr : TrR (fun a b => B (30 * a + b) = true) := fun a b c ha hb hc q1 q2 => w2 b a c hb hb ha hc q1 q2
  have gi : ∀ a, gwB B a = true ↔ ∃ m, m < 30 ∧ B (30 * m + m) = true ∧ (m = a ∨ B (30 * a + m) = true) := fun a => by
    unfold gwB
    rw [any_iff]
    refine exists_congr fun m => and_congr_right fun _ => ?_
    rw [Bool.and_eq_true, Bool.or_eq_true, decide_eq_true_iff]
  have fwd : ∀ n a, a < 30 → l a = true → cntB (fun b => B (30 * a + b)) 30 ≤ n → gwB B a = true := by
    intro n
    induction n with
    | zero =>
      intro a ha hl hc
      obtain ⟨b, hb, e, _⟩ := h1 a ha hl
      exfalso
      have : cntB (fun _ => false) 30 < cntB (fun b => B (30 * a + b)) 30 := cntB_lt 30 (fun _ _ q => by cases q) ⟨b, hb, w1 a b ha hb e, rfl⟩
      omega
    | succ n ih =>
      intro a ha hl hc
      obtain ⟨b, hb, e, hlb⟩ := h1 a ha hl
      have eb := w1 a b ha hb e
      rw [gi]
      by_cases q : B (30 * b + b) = true
      · exact ⟨b, hb, q, .inr eb⟩
      · have lt : cntB (fun x => B (30 * b + x)) 30 < cntB (fun x => B (30 * a + x)) 30 := cntB_lt 30 (fun x hx z => tr a b x ha hb hx eb z) ⟨b, hb, eb, by rw [← Bool.not_eq_true]; exact q⟩
        obtain ⟨m, hm, q1, q2⟩ := (gi b).mp (ih b hb hlb (by omega))
        refine ⟨m, hm, q1, .inr ?_⟩
        rcases q2 with q2 | q2
        · rw [q2]
          exact eb
        · exact tr a b m ha hb hm eb q2
  -- a path's first step
  have first : ∀ a b, a < 30 → b < 30 → B (30 * a + b) = true → ∃ a', a' < 30 ∧ ed a a' = true ∧ (a' = b ∨ B (30 * a' + b) = true) := w3 (fun a b => ∃ a', a' < 30 ∧ ed a a' = true ∧ (a' = b ∨ B (30 * a' + b) = true)) (fun a b c ha hb hc q1 q2 => by
    obtain ⟨a', h3, e1, e2⟩ := q1
    obtain ⟨b', h4, f1, f2⟩ := q2
    have bc : B (30 * b + c) = true := by
      have := w1 b b' hb h4 f1
      rcases f2 with f2 | f2
      · rw [← f2]
        exact this
      · exact tr b b' c hb h4 hc this f2
    refine ⟨a', h3, e1, .inr ?_⟩
    rcases e2 with e2 | e2
    · rw [e2]
      exact bc
    · exact tr a' b c h3 hb hc e2 bc) (fun a b ha hb e => ⟨b, hb, e, .inl rfl⟩)
  refine Bool.eq_iff_iff.mpr ⟨fun q => fwd _ a ha q (Nat.le_refl _), fun q => h2 (gwB B) (fun h hh q => ?_) a ha q⟩
  obtain ⟨m, hm, q1, q2⟩ := (gi h).mp q
  have hm2 : B (30 * h + m) = true := by
    rcases q2 with q2 | q2
    · rw [← q2]
      exact q1
    · exact q2
  obtain ⟨a', z1, z2, z3⟩ := first h m hh hm hm2
  refine ⟨a', z1, z2, (gi a').mpr ⟨m, hm, q1, ?_⟩⟩
  rcases z3 with z3 | z3
  · exact .inl z3.symm
  · exact .inr z3
theorem bR_cg {n : Nat} {l l' : Nat → Bool} {g : Nat → Int32} (h : ∀ i, i < n → l i = l' i) : bR n l g = bR n l' g := by
  funext i
  unfold bR
  by_cases q : i < n
  · rw [if_pos q, if_pos q, h i q]
  · rw [if_neg q, if_neg q]
section BEH
variable {P : PG} {o : Nat} {cn : Nat → Nat → Nat → Bool}
theorem LM_be111 {M : MM} {g : Nat → Int32} (hd : HdM M P o cn) (hp : WP P) {r : Nat} (hr : r < pR P) {K28 : MM → Nat → Int32 → Option MM} (h2 : rn P r = 2) : ∀ (d j : Nat), j + d = pS P → ∀ f, d < f → ∀ B,
    LP6 (f12_layBehind_b111_body K28) f (uI M 106 (bR 900 B g)) 86 (nI r) (nI 2) (nI (hdR P r)) (nI j) = K28 (uI M 106 (bR 900 (fun i => B i || (List.range d).any fun q => cn (rt P r) (ra P r) (j + q) && i == 30 * hdR P r + (6 * (j + q) + rb P r)) g)) 86 (nI (r + 1))
  | 0, j, hj, f + 1, _, B => by
    obtain ⟨w, hg, -⟩ := hd.r 106 (bR 900 B g) (by decide)
    have p5 := hp.1
    show f12_layBehind_b111_body _ _ _ _ _ _ _ _ = _
    generalize LP6 (f12_layBehind_b111_body K28) f = K
    unfold f12_layBehind_b111_body f12_layBehind_b174
    rw [aO_86 w, SM_states w hg, cI_some, if_pos (nI_le (by omega) (by omega)), nI_1]
    congr 2
    funext i
    simp
  | d + 1, j, hj, f + 1, hf, B => by
    have hdr := hd.r 106 (bR 900 B g) (by decide)
    obtain ⟨w, hg, -⟩ := id hdr
    have p5 := hp.1
    have t5 := hp.t5 hr
    have a6 := hp.a6 hr (by omega)
    have b6 := hp.b6 hr (by omega)
    have hl := hd_lt hp hr
    have row : mI (uI M 106 (bR 900 B g)) 106 = bR 900 B g := by rw [mI_uI, if_pos rfl]
    have ih := LM_be111 (g := g) hd hp hr (K28 := K28) h2 d (j + 1) (by omega) f (by omega) (upx B (30 * hdR P r + (6 * j + rb P r)) (B (30 * hdR P r + (6 * j + rb P r)) || cn (rt P r) (ra P r) j))
    show f12_layBehind_b111_body _ _ _ _ _ _ _ _ = _
    generalize LP6 (f12_layBehind_b111_body K28) f = K at ih ⊢
    unfold f12_layBehind_b111_body f12_head
    rw [aO_86 w, SM_states w hg, cI_some, if_neg (nI_ge (by omega) (by omega)), if_pos (show nI 2 = 2 from rfl), aO_86 w, aO_86 w, SM_r5 w hg hp hr, cI_some, if_neg (show ¬ rn P r ≤ 1 by omega), aO_86 w, cI_some, hd_e', r_86_38 w, lit_30, nI_mulN, nI_add, aA_106 w (by omega), nI_clamp (by omega), aO_86 w, SM_r2 w hg hp hr, cI_some, aO_86 w, SM_r4 w hg hp hr, cI_some, if_neg (show ¬ rn P r = 0 by omega), aO_86 w, SM_canPop hdr t5 a6 (by omega), cI_some, aA_106 w (by omega), row, bR_at (by omega), bI_or, gd_e (bI_gd _), bM_e, sI_e, row, uI_uI, bR_upx (by omega), nI_1]
    refine ih.trans (congrArg (fun B => K28 (uI M 106 (bR 900 B g)) 86 (nI (r + 1))) (funext fun i => ?_))
    rw [Bool.eq_iff_iff, Bool.or_eq_true, Bool.or_eq_true, any_iff, any_iff, upx_e]
    constructor
    · rintro (q | ⟨k, hk, q⟩)
      · split at q
        · next e =>
          rw [Bool.or_eq_true] at q
          rcases q with q | q
          · exact .inl (by rw [e]; exact q)
          · exact .inr ⟨0, by omega, by rw [Nat.add_zero, q, e]; simp⟩
        · exact .inl q
      · exact .inr ⟨k + 1, by omega, by rw [show j + (k + 1) = j + 1 + k by omega]; exact q⟩
    · rintro (q | ⟨k, hk, q⟩)
      · left
        split
        · next e => rw [← e, q]; rfl
        · exact q
      · rcases k with _ | k
        · left
          rw [Nat.add_zero, Bool.and_eq_true] at q
          have e : i = 30 * hdR P r + (6 * j + rb P r) := by simpa using q.2
          rw [if_pos e, q.1, Bool.or_true]
        · exact .inr ⟨k, by omega, by rw [show j + 1 + k = j + (k + 1) by omega]; exact q⟩
theorem SM_be59 {M : MM} {g : Nat → Int32} (hd : HdM M P o cn) (hp : WP P) {r : Nat} (hr : r < pR P) {K28 : MM → Nat → Int32 → Option MM} (B : Nat → Bool) : f12_layBehind_b59 K28 (uI M 106 (bR 900 B g)) 86 (nI r) (nI (rn P r)) = K28 (uI M 106 (bR 900 (fun i => B i || (decide (hdR P r = i / 30) && sucB P cn r (i % 30))) g)) 86 (nI (r + 1)) := by
  have ww : ∀ B, HdM (uI M 106 (bR 900 B g)) P o cn := fun B => hd.r 106 (bR 900 B g) (by decide)
  obtain ⟨w, hg, -⟩ := id (ww B)
  have p5 := hp.1
  have t5 := hp.t5 hr
  have n2 := hp.n2 hr
  have hl := hd_lt hp hr
  have row : ∀ B, mI (uI M 106 (bR 900 B g)) 106 = bR 900 B g := fun B => by rw [mI_uI, if_pos rfl]
  obtain ⟨n, hn⟩ : ∃ n, FU = n + 1 := ⟨FU - 1, by have : (8 : Nat) < FU := FU_big (by omega); omega⟩
  -- the loop where it isn't gone through
  have skip : ∀ B (k : Nat), k ≤ 1 → f12_layBehind_b108 K28 (uI M 106 (bR 900 B g)) 86 (nI r) (nI k) (nI (hdR P r)) = K28 (uI M 106 (bR 900 B g)) 86 (nI (r + 1)) := fun B k hk => by
    obtain ⟨w, hg, -⟩ := ww B
    unfold f12_layBehind_b108 f12_layBehind_b111
    rw [hn, LP6_s]
    generalize LP6 (f12_layBehind_b111_body K28) n = K
    unfold f12_layBehind_b111_body f12_layBehind_b174
    rw [aO_86 w, SM_states w hg, cI_some, if_neg (show ¬ nI k = 2 by rw [c_eq2 (by omega)]; omega), nI_1]
    split <;> rfl
  unfold f12_layBehind_b59 f12_head
  rw [aO_86 w, SM_r0 w hg hp hr, cI_some, aO_86 w, SM_r1 w hg hp hr, cI_some, aO_86 w, cI_some, hd_e', show 6 * rp P r + rg P r = hdR P r from rfl]
  simp only [c_le0 (show rn P r < 2 ^ 31 by omega)]
  by_cases c0 : rn P r = 0
  · rw [if_pos c0, skip B _ (by omega)]
    congr 2
    funext i
    unfold sucB
    rw [decide_eq_false (show ¬ 1 ≤ rn P r by omega), decide_eq_false (show ¬ rn P r = 2 by omega)]
    simp
  · have a6 := hp.a6 hr (by omega)
    rw [if_neg c0, aO_86 w, aO_86 w, SM_r2 w hg hp hr, cI_some, aO_86 w, SM_r4 w hg hp hr, cI_some, if_neg c0, aO_86 w, cI_some, hd_e', r_86_38 w, lit_30, nI_mulN, nI_add, aA_106 w (by omega), gd_e (.inr trivial), bM_e, nI_clamp (by omega), sI_e, row, uI_uI, show (1 : Int32) = bI true from rfl, bR_upx (by omega)]
    have ed : ∀ i, i < 900 → (decide (hdR P r = i / 30) && i % 30 == 6 * rt P r + ra P r) = (i == 30 * hdR P r + (6 * rt P r + ra P r)) := fun i hi => by
      rw [Bool.eq_iff_iff, Bool.and_eq_true, decide_eq_true_iff, beq_iff_eq, beq_iff_eq]
      omega
    by_cases c1 : rn P r = 1
    · rw [c1, skip _ 1 (Nat.le_refl _)]
      refine congrArg (fun R => K28 (uI M 106 R) 86 (nI (r + 1))) (bR_cg fun i hi => ?_)
      · show upx B _ true i = (B i || (decide (hdR P r = i / 30) && sucB P cn r (i % 30)))
        rw [upx_e]
        unfold sucB
        rw [decide_eq_true (show 1 ≤ rn P r by omega), decide_eq_false (show ¬ rn P r = 2 by omega), Bool.true_and, Bool.false_and, Bool.or_false, ed i hi]
        by_cases e : i = 30 * hdR P r + (6 * rt P r + ra P r)
        · rw [if_pos e, e]
          simp
        · rw [if_neg e, show (i == 30 * hdR P r + (6 * rt P r + ra P r)) = false by simpa using e, Bool.or_false]
    · have c2 : rn P r = 2 := by omega
      have b6 := hp.b6 hr (by omega)
      have q := LM_be111 (g := g) hd hp hr (K28 := K28) c2 (pS P) 0 (by omega) FU (FU_big (by omega)) (upx B (30 * hdR P r + (6 * rt P r + ra P r)) true)
      rw [c2]
      refine Eq.trans q (congrArg (fun R => K28 (uI M 106 R) 86 (nI (r + 1))) (bR_cg fun i hi => ?_))
      · show (upx B _ true i || (List.range (pS P)).any fun q => cn (rt P r) (ra P r) (0 + q) && i == 30 * hdR P r + (6 * (0 + q) + rb P r)) = (B i || (decide (hdR P r = i / 30) && sucB P cn r (i % 30)))
        rw [upx_e]
        unfold sucB
        rw [decide_eq_true (show 1 ≤ rn P r by omega), decide_eq_true c2, Bool.true_and, Bool.true_and, Bool.and_or_distrib_left, ed i hi]
        have ea : (decide (hdR P r = i / 30) && (List.range (pS P)).any fun q => cn (rt P r) (ra P r) q && i % 30 == 6 * q + rb P r) = (List.range (pS P)).any fun q => cn (rt P r) (ra P r) (0 + q) && i == 30 * hdR P r + (6 * (0 + q) + rb P r) := by
          rw [Bool.eq_iff_iff, Bool.and_eq_true, any_iff, any_iff, decide_eq_true_iff]
          constructor
          · rintro ⟨e, k, hk, z⟩
            rw [Bool.and_eq_true, beq_iff_eq] at z
            exact ⟨k, hk, by rw [Nat.zero_add, Bool.and_eq_true, beq_iff_eq]; exact ⟨z.1, by omega⟩⟩
          · rintro ⟨k, hk, z⟩
            rw [Nat.zero_add, Bool.and_eq_true, beq_iff_eq] at z
            exact ⟨by omega, k, hk, by rw [Bool.and_eq_true, beq_iff_eq]; exact ⟨z.1, by omega⟩⟩
        rw [ea]
        by_cases e : i = 30 * hdR P r + (6 * rt P r + ra P r)
        · rw [if_pos e, e]
          simp
        · rw [if_neg e, show (i == 30 * hdR P r + (6 * rt P r + ra P r)) = false by simpa using e, Bool.false_or]
theorem LM_be28 {M : MM} {g : Nat → Int32} (hd : HdM M P o cn) (hp : WP P) (ho : o < 2 ^ 31) : ∀ (d j : Nat), j + d = pR P → ∀ f, d < f → LP3 f12_layBehind_b28_body f (uI M 106 (bR 900 (eBj P o cn j) g)) 86 (nI j) = f12_layBehind_b182 (uI M 106 (bR 900 (eBj P o cn (pR P)) g)) 86 0
  | 0, j, hj, f + 1, _ => by
    obtain ⟨w, hg, -⟩ := hd.r 106 (bR 900 (eBj P o cn j) g) (by decide)
    have h14 := hp.2.2.1
    have e : j = pR P := by omega
    show f12_layBehind_b28_body _ _ _ _ = _
    generalize LP3 f12_layBehind_b28_body f = K
    unfold f12_layBehind_b28_body
    rw [aO_86 w, r_86_1 w, lit_2, aA_87 w (by omega), nI_clamp (by omega), hg.r, if_pos (nI_le (by omega) (by omega)), e]
  | d + 1, j, hj, f + 1, hf => by
    obtain ⟨w, hg, -⟩ := hd.r 106 (bR 900 (eBj P o cn j) g) (by decide)
    have h14 := hp.2.2.1
    have hjl : j < pR P := by omega
    have ih := LM_be28 (g := g) hd hp ho d (j + 1) (by omega) f (by omega)
    rw [← ih]
    show f12_layBehind_b28_body _ _ _ _ = _
    generalize LP3 f12_layBehind_b28_body f = K
    unfold f12_layBehind_b28_body
    rw [aO_86 w, r_86_1 w, lit_2, aA_87 w (by omega), nI_clamp (by omega), hg.r, if_neg (nI_ge (by omega) (by omega)), aO_86 w, hg.oo, SM_isOf ho (by omega), cI_some]
    have es : eBj P o cn (j + 1) = fun i => eBj P o cn j i || ((rin P o j && decide (hdR P j = i / 30)) && sucB P cn j (i % 30)) := by
      funext i
      unfold eBj
      rw [any_succ]
    by_cases ci : rin P o j = true
    · have ho2 : o.testBit j = false := by
        unfold rin at ci
        simp at ci
        exact ci.2
      rw [ho2, bI_f, if_pos rfl, aO_86 w, SM_r3 w hg hp hjl, cI_some, SM_be59 hd hp hjl, es]
      refine congrArg (fun B => K (uI M 106 (bR 900 B g)) 86 (nI (j + 1))) (funext fun i => ?_)
      rw [ci, Bool.true_and]
    · have ho2 : o.testBit j = true := by
        unfold rin at ci
        simp [hjl] at ci
        exact ci
      rw [Bool.not_eq_true] at ci
      rw [ho2, bI_t, if_neg (by decide), es]
      -- a rule that is out
      obtain ⟨n, hn⟩ : ∃ n, FU = n + 1 := ⟨FU - 1, by have : (8 : Nat) < FU := FU_big (by omega); omega⟩
      unfold f12_layBehind_b59 f12_head
      rw [aO_86 w, SM_r0 w hg hp hjl, cI_some, aO_86 w, SM_r1 w hg hp hjl, cI_some, aO_86 w, cI_some, hd_e', if_pos (by decide)]
      unfold f12_layBehind_b108 f12_layBehind_b111
      rw [hn, LP6_s]
      generalize LP6 (f12_layBehind_b111_body K) n = K2
      unfold f12_layBehind_b111_body f12_layBehind_b174
      rw [aO_86 w, SM_states w hg, cI_some, if_neg (show ¬ (0 : Int32) = 2 by decide), nI_1]
      have : (fun i => eBj P o cn j i || ((rin P o j && decide (hdR P j = i / 30)) && sucB P cn j (i % 30))) = eBj P o cn j := by
        funext i
        rw [ci]
        simp
      rw [this]
      split <;> rfl
theorem LM_be6 {M : MM} (w : Wl M) {g : Nat → Int32} : ∀ (d j : Nat), j + d = 900 → ∀ f, d < f → LP3 f12_layBehind_b6_body f (uI M 106 (bR j (fun _ => false) g)) 86 (nI j) = f12_layBehind_b28 (uI M 106 (bR 900 (fun _ => false) g)) 86 0
  | 0, j, hj, f + 1, _ => by
    have e : j = 900 := by omega
    subst e
    show f12_layBehind_b6_body _ _ _ _ = _
    generalize LP3 f12_layBehind_b6_body f = K
    unfold f12_layBehind_b6_body
    rw [lit_900, if_pos (nI_le (by omega) (by omega))]
  | d + 1, j, hj, f + 1, hf => by
    have w' : ∀ {r}, Wl (uI M 106 r) := w
    have ih := LM_be6 w (g := g) d (j + 1) (by omega) f (by omega)
    rw [← ih]
    show f12_layBehind_b6_body _ _ _ _ = _
    generalize LP3 f12_layBehind_b6_body f = K
    unfold f12_layBehind_b6_body
    rw [lit_900, if_neg (nI_ge (by omega) (by omega)), aO_86 w', r_86_38 w', aA_106 w' (by omega), nI_clamp (by omega), gd_e (.inl rfl), bM_e, sI_e, mI_uI, if_pos rfl, uI_uI, nI_1]
    congr 2
    funext i
    rw [upx_e]
    unfold bR
    by_cases c : i = j
    · rw [if_pos c, if_pos (by omega)]
      rfl
    · by_cases c2 : i < j
      · rw [if_neg c, if_pos c2, if_pos (by omega)]
      · rw [if_neg c, if_neg c2, if_neg (by omega)]
end BEH
