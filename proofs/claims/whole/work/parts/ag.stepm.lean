/-! NOW: steps at the reference; what now tells -/
section STEPM
variable {P : PG} {o : Nat} {nw : NW}
theorem canN_bit {k : Nat} (hk : k < pR P) : (canN P o nw).testBit k = canB P o nw k := by
  unfold canN
  rw [bsN_bit, decide_eq_true hk, Bool.true_and]
theorem canN_lt (hp : WP P) : canN P o nw < 2 ^ 14 := Nat.lt_of_lt_of_le (bsN_lt _ _) (Nat.pow_le_pow_right (by decide) hp.2.2.1)
/-- a stack as the reference keeps it -/
def StM (M : MM) (H : Nat) (s : Nat → Nat) : Prop := mI M 86 21 = nI H ∧ ∀ i, i < H → mI M 92 i = nI (s i)
theorem LM_push {M : MM} (w : Wl M) {H : Nat} {s : Nat → Nat} (h : StM M H s) (hH : H < 40) (g : Nat) (K : MM → Option MM) : ∃ M', (aA M 92 0 (mI M 86 21) <| bM (sI M 92 (mI M 86 21).toNatClampNeg (nI g)) fun M49 => aO M49 86 12 <| aO M49 86 12 <| bM (sI M49 86 21 ((mI M49 86 21) + (1 : Int32))) fun M57 => K M57) = K M' ∧ StM M' (H + 1) (upx s H g) ∧ Sm [86, 92] [] M M' ∧ ∀ j, j ≠ 21 → mI M' 86 j = mI M 86 j := by
  obtain ⟨h1, h2⟩ := h
  have w2 : ∀ {r}, Wl (uI M 92 r) := w
  refine ⟨sI (uI M 92 (upx (mI M 92) H (nI g))) 86 21 (nI (H + 1)), ?_, ⟨by rw [mI_sI, if_pos ⟨rfl, rfl⟩], fun i hi => ?_⟩, by rw [sI_e]; exact ((Sm.rfl _ _ M).uI _ (by decide)).uI _ (by decide), fun j hj => by rw [mI_sI, if_neg (fun z => hj z.2), mI_uI, if_neg (by decide)]⟩
  · rw [h1, aA_92 w (by omega), bM_e, sI_e, nI_clamp (by omega), aO_86 w2, aO_86 w2, bM_e, mI_uI, if_neg (by decide), h1, nI_1]
  · rw [sI_e, mI_uI, if_neg (by decide), mI_uI, if_pos rfl, upx_e, upx_e]
    split
    · rfl
    · exact h2 i (by omega)
theorem LM_do29 {M : MM} (hp : WP P) {k : Nat} (hk : k < pR P) (w : Wl M) (pg : PgM M P o) {H : Nat} {s : Nat → Nat} (h : StM M H s) (hH : H + rn P k ≤ 40) : ∃ M', f12_does_b29 M 86 (nI k) (nI (rn P k) - 1) = some M' ∧ StM M' (H + rn P k) (pushR P k H s) ∧ Sm [86, 92] [] M M' ∧ ∀ j, j ≠ 21 → mI M' 86 j = mI M 86 j := by
  have n2 := hp.n2 hk
  have keep : ∀ {M' : MM}, Sm [86, 92] [] M M' → (∀ j, j ≠ 21 → mI M' 86 j = mI M 86 j) → PgM M' P o := fun sm f => pg.sm sm (f 5 (by decide)) (by decide) (by decide) (by decide)
  have body : ∀ f (x : Int32) (M : MM), LP4 f12_does_b29_body (f + 1) M 86 (nI k) x = if x < 0 then some M else aO M 86 12 <| aO M 86 12 <| aO M 86 12 <| cI (f12_ruleOf M 86 (nI k) (4 + x)) fun r46 M46 => aA M46 (mR M 86 17) 0 (mI M 86 21) <| bM (sI M46 (mR M 86 17) (mI M 86 21).toNatClampNeg r46) fun M49 => aO M49 86 12 <| aO M49 86 12 <| bM (sI M49 86 21 ((mI M49 86 21) + (1 : Int32))) fun M57 => LP4 f12_does_b29_body f M57 86 (nI k) (x + -1) := fun _ _ _ => rfl
  obtain ⟨n, hn⟩ : ∃ n, FU = n + 3 := ⟨FU - 3, by have : (8 : Nat) < FU := FU_big (by omega); omega⟩
  unfold f12_does_b29 pushR
  rw [hn]
  have stop : ∀ f (M : MM), LP4 f12_does_b29_body (f + 1) M 86 (nI k) (-1) = some M := fun f M => by
    rw [body, if_pos (by decide)]
  by_cases c0 : rn P k = 0
  · rw [c0, if_pos rfl, nI_01, stop]
    exact ⟨M, rfl, h, Sm.rfl _ _ _, fun _ _ => rfl⟩
  · by_cases c1 : rn P k = 1
    · rw [c1, if_neg (by decide), if_pos rfl, nI_sub1 (a := 1) (by omega)]
      obtain ⟨M1, a2, a3, a4, a5⟩ := LM_push w h (show H < 40 by omega) (ra P k) (fun M57 => LP4 f12_does_b29_body (n + 2) M57 86 (nI k) (nI (1 - 1) + -1))
      refine ⟨M1, ?_, a3, a4, a5⟩
      have : clR P k 4 = nI (ra P k) := by
        unfold clR
        rw [if_neg (by omega)]
        rfl
      rw [body, if_neg (by decide), aO_86 w, aO_86 w, aO_86 w, lit_4, nI_add, show (4 + (1 - 1) : Nat) = 4 from rfl, S12_ruleOf w pg hp hk (by omega), cI_some, r_86_17 w, this]
      refine a2.trans ?_
      show LP4 f12_does_b29_body (n + 2) M1 86 (nI k) (nI (1 - 1) + -1) = _
      rw [show nI (1 - 1) + (-1) = -1 by decide, stop]
    · have c2 : rn P k = 2 := by omega
      rw [c2, if_neg (by decide), if_neg (by decide), nI_sub1 (a := 2) (by omega)]
      obtain ⟨M1, a2, a3, a4, a5⟩ := LM_push w h (show H < 40 by omega) (rb P k) (fun M57 => LP4 f12_does_b29_body (n + 2) M57 86 (nI k) (nI (2 - 1) + -1))
      have w1 : Wl M1 := w.sm a4
      obtain ⟨M2, b2, b3, b4, b5⟩ := LM_push w1 a3 (show H + 1 < 40 by omega) (ra P k) (fun M57 => LP4 f12_does_b29_body (n + 1) M57 86 (nI k) (nI 0 + -1))
      have pg1 := keep a4 a5
      refine ⟨M2, ?_, b3, a4.trans b4, fun j hj => (b5 j hj).trans (a5 j hj)⟩
      have e5 : clR P k 5 = nI (rb P k) := by
        unfold clR
        rw [if_neg (by omega)]
        rfl
      have e4 : clR P k 4 = nI (ra P k) := by
        unfold clR
        rw [if_neg (by omega)]
        rfl
      rw [body, if_neg (by decide), aO_86 w, aO_86 w, aO_86 w, lit_4, nI_add, show (4 + (2 - 1) : Nat) = 5 from rfl, S12_ruleOf w pg hp hk (by omega), cI_some, r_86_17 w, e5]
      refine a2.trans ?_
      show LP4 f12_does_b29_body (n + 2) M1 86 (nI k) (nI (2 - 1) + -1) = _
      rw [show nI (2 - 1) + (-1) = nI 0 by decide, body, if_neg (by decide), aO_86 w1, aO_86 w1, aO_86 w1, lit_4, nI_add, show (4 + 0 : Nat) = 4 from rfl, S12_ruleOf w1 pg1 hp hk (by omega), cI_some, r_86_17 w1, e4]
      refine b2.trans ?_
      show LP4 f12_does_b29_body (n + 1) M2 86 (nI k) (nI 0 + -1) = _
      rw [show nI 0 + (-1) = -1 by decide, stop]
theorem SM_does {M : MM} (h : CoM M P o nw) {k : Nat} (hk : k < pR P) (hc : canB P o nw k = true) : ∃ M', f12_does M 86 (nI k) = some M' ∧ Sm [86, 92] [] M M' ∧ (∀ j, j ≠ 20 → j ≠ 21 → mI M' 86 j = mI M 86 j) ∧ HereM M' (stpN P k nw) ∧ CoM M' P o (stpN P k nw) := by
  have w := h.1
  have hp := h.2.1
  have pg := h.2.2.2.1
  have n2 := hp.n2 hk
  cases nw with
  | none => cases hc
  | some q =>
    obtain ⟨p, H, s⟩ := q
    have c : (decide (0 < H) && (rfor P o k p (s (H - 1)) && decide (H - 1 + rn P k ≤ 40))) = true := hc
    rw [Bool.and_eq_true, Bool.and_eq_true, decide_eq_true_eq, decide_eq_true_eq] at c
    obtain ⟨e19, e20, e21, e92⟩ := h.2.2.2.2.1
    have H40 : H ≤ 40 := h.2.2.2.2.2.1.2.1
    have e21' : mI M 86 21 = nI H := e21
    obtain ⟨M1, hM1⟩ : ∃ M1, M1 = sI (sI M 86 20 (nI (rt P k))) 86 21 (nI (H - 1)) := ⟨_, rfl⟩
    have s1 : Sm [86, 92] [] M M1 := by rw [hM1, sI_e, sI_e]; exact ((Sm.rfl _ _ M).uI _ (by decide)).uI _ (by decide)
    have f1 : ∀ j, j ≠ 20 → j ≠ 21 → mI M1 86 j = mI M 86 j := fun j h1 h2 => by rw [hM1, mI_sI, if_neg (fun z => h2 z.2), mI_sI, if_neg (fun z => h1 z.2)]
    have i92 : mI M1 92 = mI M 92 := by rw [hM1, sI_e, mI_uI, if_neg (by decide), sI_e, mI_uI, if_neg (by decide)]
    have w1 := w.sm s1
    have pg1 : PgM M1 P o := pg.sm s1 (f1 5 (by decide) (by decide)) (by decide) (by decide) (by decide)
    obtain ⟨M2, b1, b2, b3, b4⟩ := LM_do29 hp hk w1 pg1 (H := H - 1) (s := s) ⟨by rw [hM1, mI_sI, if_pos ⟨rfl, rfl⟩], fun i hi => by rw [i92]; exact e92 i (show i < H by omega)⟩ c.2.2
    have sA := s1.trans b3
    have fA : ∀ j, j ≠ 20 → j ≠ 21 → mI M2 86 j = mI M 86 j := fun j h1 h2 => (b4 j h2).trans (f1 j h1 h2)
    have hh : HereM M2 (stpN P k (some (p, H, s))) := ⟨(fA 19 (by decide) (by decide)).trans e19, by rw [b4 20 (by decide), hM1, mI_sI, if_neg (by decide), mI_sI, if_pos ⟨rfl, rfl⟩], b2.1, b2.2⟩
    have sz : SzM M2 := by
      unfold SzM
      rw [sA.i 96 (by decide)]
      exact h.2.2.2.2.2.2
    refine ⟨M2, ?_, sA, fA, hh, w1.sm b3, hp, h.2.2.1, pg.sm sA (fA 5 (by decide) (by decide)) (by decide) (by decide) (by decide), hh, stpN_WN hp hk h.2.2.2.2.2.1 hc, sz⟩
    have wa : Wl (sI M 86 20 (nI (rt P k))) := w
    have ea : mI (sI M 86 20 (nI (rt P k))) 86 21 = nI H := by rw [mI_sI, if_neg (by decide)]; exact e21'
    unfold f12_does
    rw [aO_86 w, SM_r2 w pg hp hk, cI_some, aO_86 w, bM_e, aO_86 wa, aO_86 wa, ea, nI_sub1 (by omega), bM_e, ← hM1, aO_86 w1, SM_r3 w1 pg1 hp hk, cI_some, bW_e, b1]
theorem ActM.sm {M M' : MM} {n : Nat} {A : Nat → NW × Nat} (h : ActM M n A) {Is Js : List Nat} (s : Sm Is Js M M') (h23 : mI M' 86 23 = mI M 86 23) (hi : 94 ∉ Is) : ActM M' n A := by
  unfold ActM at *
  rw [h23, s.i 94 hi]
  exact h
theorem AlM.now {M M' : MM} {nw' : NW} (h : AlM M P o nw) {Is Js : List Nat} (s : Sm Is Js M M') (hi : avd [87, 89, 90, 96, 111, 112, 113] Is = true) (hj : 99 ∉ Js) (hf : ∀ j, j = 5 ∨ j = 31 ∨ j = 47 ∨ j = 48 ∨ j = 49 → mI M' 86 j = mI M 86 j) (hh : HereM M' nw') (hw : WN P nw') : AlM M' P o nw' := h.outs s hi hj ((hf 5 (by omega)).trans h.1.2.2.2.1.1) h.1.2.2.1 hh hw (hf 47 (by omega)) (hf 48 (by omega)) (.inl ⟨rfl, hf 31 (by omega), hf 49 (by omega)⟩)
theorem AlM.th {M : MM} (h : AlM M P o nw) (v : Int32) : AlM (sI M 86 0 v) P o nw := ⟨h.1.th v, h.2.1.th v, h.2.2.th v⟩
theorem ActM.th {M : MM} {n : Nat} {A : Nat → NW × Nat} (h : ActM M n A) (v : Int32) : ActM (sI M 86 0 v) n A := h.sm th_sm (th_f (by decide)) (by decide)
theorem SM_step {M : MM} {n : Nat} {A : Nat → NW × Nat} (h : AlM M P o nw) (ha : ActM M n A) (hA : ActW P n A) (x : Int32) : ∃ M' r, f12_step M 86 x = some (r, M') ∧ (ibx (pR P) x = false → r = -1 ∧ M' = sI M 86 0 0) ∧ ∀ k, k < pR P → x = nI k → (canB P o nw k = false → r = -1 ∧ M' = sI M 86 0 0) ∧ (canB P o nw k = true → r = nI (hgt (stpN P k nw)) ∧ Sm [86, 92, 94] [] M M' ∧ (∀ j, j ≠ 0 → j ≠ 20 → j ≠ 21 → j ≠ 23 → mI M' 86 j = mI M 86 j) ∧ AlM M' P o (stpN P k nw) ∧ ActM M' (kpN n) (kpA n A (nw, o))) := by
  have w := h.1.1
  have hp := h.1.2.1
  have r14 := hp.2.2.1
  have w0 : Wl (sI M 86 0 0) := w
  have h0 := h.1.th 0
  unfold f12_step
  rw [aO_86 w, bM_e, aO_86 w0, SM_isRule w0 h0.2.2.2.1 hp, cI_some]
  by_cases c : ibx (pR P) x = true
  · obtain ⟨k, hk, rfl⟩ := ibx_out c (by omega)
    have cl : canN P o nw < 2 ^ 14 := canN_lt hp
    rw [c, bI_t, if_neg (by decide), aO_86 w0, SM_allThatCan h0, cI_some, SM_isOf (by omega) (by omega), cI_some, canN_bit hk]
    by_cases c2 : canB P o nw k = true
    · obtain ⟨M1, b1, b2, b3, b4⟩ := SM_keep (o := o) w0 h0.2.2.2.2.1 h0.2.2.2.2.2.1 h0.2.2.2.1.1 (ha.th 0) hA
      have a1 : AlM M1 P o nw := (h.th 0).now b2 (by decide) (by decide) (fun j hj => b3 j (by omega)) (h0.2.2.2.2.1.sm b2 (fun j h1 h2 => b3 j (by omega)) (by decide)) h0.2.2.2.2.2.1
      have w1 := a1.1.1
      obtain ⟨M2, d1, d2, d3, d4, d5⟩ := SM_does a1.1 hk c2
      have w2 := d5.1
      have eh : mI M2 86 21 = nI (hgt (stpN P k nw)) := by
        cases nw with
        | none => cases c2
        | some q => exact d4.2.2.1
      rw [c2, if_neg (show ¬ bI true = 0 by decide), aO_86 w0, b1, cV_some, aO_86 w1, d1, cV_some, aO_86 w2, eh]
      refine ⟨M2, _, rfl, (fun z => by cases z), fun k' hk' e => ?_⟩
      rw [nI_eq (by omega) (by omega)] at e
      rw [← e]
      exact ⟨(fun z => by rw [c2] at z; cases z), fun _ => ⟨rfl, ((th_sm.more (by decide) (by decide)).trans (b2.more (by decide) (by decide))).trans (d2.more (by decide) (by decide)), fun j h1 h2 h3 h4 => by rw [d3 j h2 h3, b3 j h4, th_f h1], a1.now d2 (by decide) (by decide) (fun j hj => d3 j (by omega) (by omega)) d4 d5.2.2.2.2.2.1, b4.sm d2 (d3 23 (by decide) (by decide)) (by decide)⟩⟩
    · rw [Bool.not_eq_true] at c2
      rw [c2, if_pos (show bI false = 0 from rfl)]
      refine ⟨_, -1, rfl, fun _ => ⟨rfl, rfl⟩, fun k' hk' e => ?_⟩
      rw [nI_eq (by omega) (by omega)] at e
      rw [← e]
      exact ⟨fun _ => ⟨rfl, rfl⟩, (fun z => by rw [c2] at z; cases z)⟩
  · rw [Bool.not_eq_true] at c
    rw [c, bI_f, if_pos rfl]
    refine ⟨_, -1, rfl, fun _ => ⟨rfl, rfl⟩, fun k hk e => ?_⟩
    rw [e, ibx_nI (by omega) (by omega), decide_eq_true hk] at c
    cases c
end STEPM
