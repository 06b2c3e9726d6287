/-! THE WAY: what both sides answer -/
section WAY2
variable {P : PG} {o a1 : Nat}
theorem way_lock (hp : WP P) (ho : o < 2 ^ 31) : ∀ (d t : Nat), t + d = 100 → ∀ (p H : Nat) (s f : Nat → Nat) (left : Nat), p < pS P → (∀ i, i < H → s i < pG P) → H ≤ 40 + t → costN P o (gTG P) (some (p, H, s)) left → left ≤ 9900 →
    ∃ (n : Nat) (b : Bool) (g : Nat → Nat), n ≤ 100 ∧
      (∀ M fu, d < fu → WkC M a1 P o p H s t f → ∃ M', LP6 f10_follow_b42_body fu M 42 32 a1 (nI o) (lN left) = some M' ∧ mI M' 42 2 = nI n ∧ mI M' 42 3 = bI b ∧ (∀ i, i < n → mI M' 47 i = nI (g i)) ∧ Sm [42, 43, 45, 47] [36] M M' ∧ mI M' 43 0 = nI 140 ∧ ∃ E R, mJ M' 34 = lR E ∧ mJ M' 36 = lR R ∧ Bd 2115 R ∧ Std P o (gTG P) E R) ∧
      ∀ M fu, d < fu → WkM M P o p H s t f → ∃ M', LP5 f12_isWay_b61_body fu M 86 (nI p) (nI H) (lN left) = some (bI (!b), M') ∧ mI M' 86 36 = nI n ∧ (∀ i, i < n → mI M' 103 i = nI (g i)) ∧ Sm [86, 102, 103] [101] M M' ∧ ∀ j, j ≠ 36 → mI M' 86 j = mI M 86 j := by
  have f9 : 9900 < FARN := by unfold FARN; omega
  have stop : ∀ (t : Nat), t ≤ 100 → ∀ (p H : Nat) (s f : Nat → Nat) (left : Nat), p < pS P → (∀ i, i < H → s i < pG P) → H ≤ 40 + t → costN P o (gTG P) (some (p, H, s)) left → left ≤ 9900 → (left = 0 ∨ t = 100) →
      ∃ (n : Nat) (b : Bool) (g : Nat → Nat), n ≤ 100 ∧
      (∀ M fu, 0 < fu → WkC M a1 P o p H s t f → ∃ M', LP6 f10_follow_b42_body fu M 42 32 a1 (nI o) (lN left) = some M' ∧ mI M' 42 2 = nI n ∧ mI M' 42 3 = bI b ∧ (∀ i, i < n → mI M' 47 i = nI (g i)) ∧ Sm [42, 43, 45, 47] [36] M M' ∧ mI M' 43 0 = nI 140 ∧ ∃ E R, mJ M' 34 = lR E ∧ mJ M' 36 = lR R ∧ Bd 2115 R ∧ Std P o (gTG P) E R) ∧
      ∀ M fu, 0 < fu → WkM M P o p H s t f → ∃ M', LP5 f12_isWay_b61_body fu M 86 (nI p) (nI H) (lN left) = some (bI (!b), M') ∧ mI M' 86 36 = nI n ∧ (∀ i, i < n → mI M' 103 i = nI (g i)) ∧ Sm [86, 102, 103] [101] M M' ∧ ∀ j, j ≠ 36 → mI M' 86 j = mI M 86 j := by
    intro t ht p H s f left h1 hs hH hv hl he
    refine ⟨t, decide (left ≠ 0), f, ht, fun M fu hfu hw => ?_, fun M fu hfu hw => ?_⟩
    · obtain ⟨fu', rfl⟩ : ∃ q, fu = q + 1 := ⟨fu - 1, by omega⟩
      have q := S10_stop hw (show left ≤ FARN by omega) ht he fu'
      obtain ⟨w, hP, hb, h2, h3, h4, E, R, e1, e2, e3, e4, e5⟩ := hw
      refine ⟨_, q, ?_, ?_, fun i hi => ?_, (Sm.rfl _ _ M).uI _ (by decide), ?_, E, R, e1, e2, e3, e4⟩
      · rw [mI_sI, if_neg (by decide), h2]
      · rw [mI_sI, if_pos ⟨rfl, rfl⟩]
      · rw [mI_sI, if_neg (by omega), h4 i hi]
      · rw [mI_sI, if_neg (by decide)]
        exact hb.2.1
    · obtain ⟨fu', rfl⟩ : ∃ q, fu = q + 1 := ⟨fu - 1, by omega⟩
      have isat := SM_wayAt hp hw h1 hs (by omega) hv
      obtain ⟨w, hPg, hT, g1, g2, g3, -⟩ := hw
      refine ⟨M, ?_, g2, g3, Sm.rfl _ _ _, fun _ _ => rfl⟩
      show f12_isWay_b61_body _ _ _ _ _ _ = _
      generalize LP5 f12_isWay_b61_body fu' = K
      unfold f12_isWay_b61_body
      rw [aO_86 w, aO_86 w, r_86_33 w, isat, cI_some]
      by_cases c : left = 0
      · rw [decide_eq_true c, bI_t, if_neg (by decide), decide_eq_false (fun q => q c)]
        rfl
      · have t1 : t = 100 := by omega
        rw [decide_eq_false c, bI_f, if_pos rfl, aO_86 w, g2, lit_100, if_pos (by rw [t1]), decide_eq_true c]
        rfl
  intro d
  induction d with
  | zero =>
    intro t ht p H s f left h1 hs hH hv hl
    exact stop t (by omega) p H s f left h1 hs hH hv hl (.inr (by omega))
  | succ d ih =>
    intro t ht p H s f left h1 hs hH hv hl
    by_cases c : left = 0
    · obtain ⟨n, b, g, q1, q2, q3⟩ := stop t (by omega) p H s f left h1 hs hH hv hl (.inl c)
      exact ⟨n, b, g, q1, fun M fu hf => q2 M fu (by omega), fun M fu hf => q3 M fu (by omega)⟩
    · obtain ⟨h, r, rfl, hr, hq, hn⟩ := wayQ_ex hp (okT_g hp) h1 hs hv (by omega) (by omega)
      have hs' := push_lt (h := h) (s := s) hp hr (fun i hi => hs i (by omega))
      have t1 := (hp.2.2.2.2.1 r hr).2.2.1
      obtain ⟨v, hv'⟩ := costN_ex2 (s := pushR P r h s) hp t1 hs' o (okT_g hp)
      have e := hq.2 v hv'
      have c99 := hp.c99 hr
      have ev : left = rc P r + v := by
        have e' := e
        unfold cp at e'
        split at e'
        · omega
        · split at e'
          · unfold CAPN at e'
            omega
          · omega
      have n2 := hp.n2 hr
      obtain ⟨n, b, g, q1, q2, q3⟩ := ih (t + 1) (by omega) (rt P r) (h + rn P r) (pushR P r h s) (upx f t r) v t1 hs' (by omega) hv' (by omega)
      refine ⟨n, b, g, q1, fun M fu hfu hw => ?_, fun M fu hfu hw => ?_⟩
      · obtain ⟨fu', rfl⟩ : ∃ q, fu = q + 1 := ⟨fu - 1, by omega⟩
        obtain ⟨M1, a1', a2, a3⟩ := S10_go hp ho hw h1 hs hH (by omega) (show left ≤ FARN by omega) (by omega) hr hq hn ev
        obtain ⟨M', b1, b2, b3, b4, b5, b6, b7⟩ := q2 M1 fu' (by omega) a2
        exact ⟨M', by rw [a1', b1], b2, b3, b4, a3.trans b5, b6, b7⟩
      · obtain ⟨fu', rfl⟩ : ∃ q, fu = q + 1 := ⟨fu - 1, by omega⟩
        obtain ⟨M1, a1', a2, a3, a4⟩ := SM_wayGo hp ho hw h1 hs hH (by omega) hv (show left ≤ CAPN by unfold CAPN; omega) (by omega) hr hq hn ev
        obtain ⟨M', b1, b2, b3, b4, b5⟩ := q3 M1 fu' (by omega) a2
        exact ⟨M', by rw [a1', b1], b2, b3, a3.trans b4, fun j hj => (b5 j hj).trans (a4 j hj)⟩
/-- the answer out of a way -/
def wayX (n : Nat) (b : Bool) (g : Nat → Nat) (x : Int32) : Int32 := if b = true then -2 else if x = -1 then nI n else if ibx n x = true then nI (g x.toNatClampNeg) else -1
theorem S10_follow {M : MM} {p H : Nat} {s : Nat → Nat} (h : CoC M P o (some (p, H, s))) (hP : PgC M a1 P) (h43 : mI M 43 0 = nI 140) {E R : Nat → Nat} (hE : mJ M 34 = lR E) (hR : mJ M 36 = lR R) (bR : Bd 2115 R) (hS : Std P o (gTG P) E R) {v : Nat} (hv : costN P o (gTG P) (some (p, H, s)) v) {n : Nat} {b : Bool} {g : Nat → Nat}
    (hc : v ≤ 9900 → ∀ M fu, 100 < fu → WkC M a1 P o p H s 0 (fun _ => 0) → ∃ M', LP6 f10_follow_b42_body fu M 42 32 a1 (nI o) (lN v) = some M' ∧ mI M' 42 2 = nI n ∧ mI M' 42 3 = bI b ∧ (∀ i, i < n → mI M' 47 i = nI (g i)) ∧ Sm [42, 43, 45, 47] [36] M M' ∧ mI M' 43 0 = nI 140 ∧ ∃ E R, mJ M' 34 = lR E ∧ mJ M' 36 = lR R ∧ Bd 2115 R ∧ Std P o (gTG P) E R) :
    ∃ M', f10_follow M 42 32 a1 (nI o) 23 = some M' ∧ Sm [42, 43, 45, 47] [36] M M' ∧ mI M' 43 0 = nI 140 ∧ (∃ E R, mJ M' 34 = lR E ∧ mJ M' 36 = lR R ∧ Bd 2115 R ∧ Std P o (gTG P) E R) ∧ (if v ≤ 9900 then mI M' 42 2 = nI n ∧ mI M' 42 3 = bI b ∧ ∀ i, i < n → mI M' 47 i = nI (g i) else mI M' 42 3 = 1) := by
  have w := h.w
  have p5 := h.p.1
  have g6 := h.p.2.1
  have hh := h.2.2.2.2.2.1
  obtain ⟨n1, n2, n3⟩ := h.2.2.2.2.2.2
  have n1' : p < pS P := n1
  have n2' : H ≤ 40 := n2
  obtain ⟨M1, b1, b2, b3⟩ := S6_become (b := 43) w (by decide) (.inr (.inr rfl)) h43 (show H ≤ 140 by omega) hh
  have w1 := w.sm b3
  obtain ⟨M2, hM2⟩ : ∃ M2, M2 = sI M1 42 2 0 := ⟨_, rfl⟩
  have s2 : Sm [42, 43, 45, 47] [36] M M2 := by
    rw [hM2]
    exact (b3.more (by decide) (by decide)).uI _ (by decide)
  have w2 := w.sm s2
  have hb2 : PlC M2 43 p H s := by
    unfold PlC at *
    rw [hM2, sI_e, mI_uI, if_neg (by decide), mI_uI, if_neg (by decide)]
    exact b2
  have j34 : mJ M2 34 = lR E := by rw [s2.j 34 (by decide), hE]
  have j36 : mJ M2 36 = lR R := by
    rw [hM2, sI_e, mJ_uI, b3.j 36 (by decide), hR]
  obtain ⟨R', c1, c2, c3⟩ := S1_of (M := M2) (a := 32) (b := 43) w2 (.inl rfl) j34 j36 hS.1 bR hS.2.2.2 (show p < 15 by omega) hb2 (show (H + 1) * 15 ≤ 2115 by omega) (fun i hi => Nat.lt_of_lt_of_le (n3 i hi) g6)
  obtain ⟨M3, hM3⟩ : ∃ M3, M3 = uJ M2 36 (lR R') := ⟨_, rfl⟩
  have s3 : Sm [42, 43, 45, 47] [36] M M3 := by
    rw [hM3]
    exact s2.uJ _ (by decide)
  have w3 := w.sm s3
  have ev := hv.2.1 E R hS
  have cR : ∀ x, x < 15 → R' x = z15 (gTG P) x := fun x hx => by
    have := c2 0 x (Nat.zero_le _) hx
    rw [Nat.zero_mul, Nat.zero_add] at this
    exact this
  have i3 : ∀ a, mI M3 a = mI M2 a := fun a => by rw [hM3, mI_uJ]
  have hf : ∀ u : Int32, u = 0 ∨ u = 1 → ∃ M4, M4 = sI M3 42 3 u ∧ Wl M4 ∧ Sm [42, 43, 45, 47] [36] M M4 ∧ PlC M4 43 p H s ∧ mI M4 42 2 = 0 ∧ mI M4 42 3 = u ∧ mJ M4 34 = lR E ∧ mJ M4 36 = lR R' := fun u _ => by
    refine ⟨_, rfl, w3, s3.uI _ (by decide), ?_, ?_, ?_, ?_, ?_⟩
    · unfold PlC at *
      rw [sI_e, mI_uI, if_neg (by decide), mI_uI, if_neg (by decide), i3, i3]
      exact hb2
    · rw [mI_sI, if_neg (by decide), i3, hM2, mI_sI, if_pos ⟨rfl, rfl⟩]
    · rw [mI_sI, if_pos ⟨rfl, rfl⟩]
    · rw [sI_e, mJ_uI, hM3, mJ_uJ, if_neg (by decide), j34]
    · rw [sI_e, mJ_uI, hM3, mJ_uJ, if_pos rfl]
  have head : f10_follow M 42 32 a1 (nI o) 23 = if v ≤ 9900 then f10_follow_b42 (sI M3 42 3 0) 42 32 a1 (nI o) (lN v) else f10_follow_b42 (sI M3 42 3 1) 42 32 a1 (nI o) (lN v) := by
    unfold f10_follow f10_follow_b39
    rw [aO_42 w, r_42_0 w, aO_43 w, b1, cV_some, aO_42 w1, bM_e, ← hM2, aO_42 w2, aO_32 w2, r_42_0 w2, c1, cJ_some, ← hM3, ← ev, show (9900 : Int64) = lN 9900 from rfl, aO_42 w3, aO_42 w3, gd_e (.inl rfl), gd_e (.inr rfl), bM_e, bM_e]
    simp only [lN_leN (le63 hv.1) (show 9900 < 2 ^ 63 by omega)]
  rw [head]
  by_cases c : v ≤ 9900
  · rw [if_pos c]
    obtain ⟨M4, d0, d1, d2, d3, d4, d5, d6, d7⟩ := hf 0 (.inl rfl)
    rw [← d0]
    obtain ⟨M', e1, e2, e3, e4, e5, e6, e7⟩ := hc c M4 FU (FU_big (by omega)) ⟨d1, hP.sm d2 (by decide), d3, d4, d5, fun i hi => absurd hi (Nat.not_lt_zero i), E, R', d6, d7, c3, ⟨hS.1, hS.2.1, hS.2.2.1, cR⟩, c2⟩
    exact ⟨M', e1, d2.trans e5, e6, e7, by rw [if_pos c]; exact ⟨e2, e3, e4⟩⟩
  · rw [if_neg c]
    obtain ⟨M4, d0, d1, d2, d3, d4, d5, d6, d7⟩ := hf 1 (.inr rfl)
    rw [← d0]
    refine ⟨sI M4 42 3 1, ?_, d2.uI _ (by decide), ?_, ⟨E, R', ?_, ?_, c3, hS.1, hS.2.1, hS.2.2.1, cR⟩, ?_⟩
    · obtain ⟨q, hq⟩ : ∃ q, FU = q + 1 := ⟨FU - 1, by have : (8 : Nat) < FU := FU_big (by omega); omega⟩
      unfold f10_follow_b42
      rw [hq]
      show f10_follow_b42_body _ _ _ _ _ _ _ = _
      generalize LP6 f10_follow_b42_body q = K
      unfold f10_follow_b42_body f10_follow_b133
      rw [if_neg (show ¬ lN v ≤ 0 by rw [lN_le0 (le63 hv.1)]; omega), aO_42 d1, d4, if_neg (by decide), aO_42 d1, d5, if_neg (by decide), if_neg (show ¬ lN v ≤ 0 by rw [lN_le0 (le63 hv.1)]; omega), aO_42 d1, bM_e]
    · rw [mI_sI, if_neg (by decide)]
      exact d3.2.1
    · rw [sI_e, mJ_uI, d6]
    · rw [sI_e, mJ_uI, d7]
    · rw [if_neg c, mI_sI, if_pos ⟨rfl, rfl⟩]
theorem LM_way29 {M : MM} (w : Wl M) {p H : Nat} {s : Nat → Nat} (h21 : mI M 86 21 = nI H) (hH : H ≤ 40) (hs : ∀ i, i < H → mI M 92 i = nI (s i)) {a1 : Int64} {a3 a4 : Int32} :
    ∀ (d j : Nat), j + d = H → ∀ f, d < f → LP6 f12_isWay_b29_body f (uI M 102 (fun i => if i < j then nI (s i) else mI M 102 i)) 86 a1 a3 a4 (nI j) = f12_isWay_b61 (uI M 102 (fun i => if i < H then nI (s i) else mI M 102 i)) 86 a3 a4 a1
  | 0, j, hj, f + 1, _ => by
    have w' : ∀ {r}, Wl (uI M 102 r) := w
    have e : j = H := by omega
    subst e
    show f12_isWay_b29_body _ _ _ _ _ _ _ = _
    generalize LP6 f12_isWay_b29_body f = K
    unfold f12_isWay_b29_body
    rw [aO_86 w']
    show (if mI M 86 21 ≤ nI j then _ else _) = _
    rw [h21, if_pos (nI_le (Nat.le_refl _) (by omega))]
  | d + 1, j, hj, f + 1, hf => by
    have w' : ∀ {r}, Wl (uI M 102 r) := w
    have ih := LM_way29 w (p := p) h21 hH hs (a1 := a1) (a3 := a3) (a4 := a4) d (j + 1) (by omega) f (by omega)
    rw [← ih]
    show f12_isWay_b29_body _ _ _ _ _ _ _ = _
    generalize LP6 f12_isWay_b29_body f = K
    unfold f12_isWay_b29_body
    rw [aO_86 w']
    show (if mI M 86 21 ≤ nI j then _ else _) = _
    rw [h21, if_neg (nI_ge (by omega) (by omega)), aO_86 w', aO_86 w', r_86_17 w', r_86_33 w', aA_92 w' (by omega), aA_102 w' (by omega), nI_clamp (by omega), bM_e, sI_e, mI_uI, if_pos rfl, uI_uI, nI_1]
    congr 2
    funext i
    show (if i = j then mI M 92 j else if i < j then nI (s i) else mI M 102 i) = _
    rw [hs j (by omega)]
    by_cases c : i = j
    · rw [if_pos c, if_pos (by omega), c]
    · by_cases c2 : i < j
      · rw [if_neg c, if_pos c2, if_pos (by omega)]
      · rw [if_neg c, if_neg c2, if_neg (by omega)]
theorem SM_in0 {M : MM} {n : Nat} (hn : n < 2 ^ 31) (x : Int32) : f12_in M x 0 (nI n - 1) = some (bI (ibx n x), M) := by rw [SM_in, ib_pred hn]
/-- both sides' way -/
theorem way_both {M : MM} {nw : NW} (h : CoC M P o nw) (hc : CostC M P o) (h43 : mI M 43 0 = nI 140) (x : Int32) : ∃ r, (∃ M', f11_way M 1 x = some (r, M') ∧ Sm [1, 42, 43, 45, 47] [34, 36] M M' ∧ (∀ j, j ≠ 13 → mI M' 1 j = mI M 1 j) ∧ mI M' 43 0 = nI 140 ∧ CoC M' P o nw ∧ CostC M' P o) ∧
    ∀ M, CoM M P o nw → ToldOK M P o → ∃ M', f12_way M 86 x = some (r, M') ∧ Sm [86, 95, 96, 97, 98, 102, 103] [99, 101] M M' ∧ (∀ j, j ≠ 0 → j ≠ 30 → j ≠ 31 → j ≠ 36 → mI M' 86 j = mI M 86 j) ∧ CoM M' P o nw ∧ ToldOK M' P o := by
  have w := h.w
  have fr : ∀ {M M' : MM} {Is Js : List Nat}, Sm Is Js M M' → True := fun _ => trivial
  rcases nw with _ | ⟨p, H, s⟩
  · refine ⟨-1, ⟨M, ?_, Sm.rfl _ _ _, fun _ _ => rfl, h43, h, hc⟩, fun M0 g gt => ⟨sI (sI M0 86 0 0) 86 0 0, ?_, (th_sm.trans th_sm).more (by decide) (by decide), fun j q _ _ _ => (th_f q).trans (th_f q), (g.th 0).th 0, (gt.th 0).th 0⟩⟩
    · unfold f11_way
      rw [aO_1 w, r_1_2 w, aO_23 w, S6_isNone w h.2.2.2.2.2.1 h.2.2.2.2.2.2 h.p, cI_some, if_neg (show ¬ bI (Option.isNone (none : NW)) = 0 by decide)]
    · have wg := g.w
      have wg0 : Wl (sI M0 86 0 0) := wg
      unfold f12_way
      rw [aO_86 wg, bM_e, aO_86 wg0, SM_cost0 (g.th 0), cJ_some, if_neg (by decide)]
  · obtain ⟨n1, n2, n3⟩ := h.2.2.2.2.2.2
    have n1' : p < pS P := n1
    have n2' : H ≤ 40 := n2
    obtain ⟨v, hv⟩ := costN_ex (nw := some (p, H, s)) h.p h.2.2.2.2.2.2 o (okT_g h.p)
    obtain ⟨M1, E, R, d1, d2, d3, d4, d5, d6, d7, d8, d9⟩ := S11_costOfNow h hc
    have h1 := h.sm d2 (d3 12 (by decide)) (by decide)
    obtain ⟨a1, b1, b2, b3⟩ := h1.2.2.2.1
    have w1 := h1.w
    have ev := hv.2.1 E R d8
    have lk := way_lock (a1 := a1) h.p (o_lt h.lo) 100 0 rfl p H s (fun _ => 0) v n1' n3 (by omega) hv
    have lk2 : ∃ (n : Nat) (b : Bool) (g : Nat → Nat), n ≤ 100 ∧ (v ≤ 9900 → (∀ M fu, 100 < fu → WkC M a1 P o p H s 0 (fun _ => 0) → ∃ M', LP6 f10_follow_b42_body fu M 42 32 a1 (nI o) (lN v) = some M' ∧ mI M' 42 2 = nI n ∧ mI M' 42 3 = bI b ∧ (∀ i, i < n → mI M' 47 i = nI (g i)) ∧ Sm [42, 43, 45, 47] [36] M M' ∧ mI M' 43 0 = nI 140 ∧ ∃ E R, mJ M' 34 = lR E ∧ mJ M' 36 = lR R ∧ Bd 2115 R ∧ Std P o (gTG P) E R) ∧
      ∀ M fu, 100 < fu → WkM M P o p H s 0 (fun _ => 0) → ∃ M', LP5 f12_isWay_b61_body fu M 86 (nI p) (nI H) (lN v) = some (bI (!b), M') ∧ mI M' 86 36 = nI n ∧ (∀ i, i < n → mI M' 103 i = nI (g i)) ∧ Sm [86, 102, 103] [101] M M' ∧ ∀ j, j ≠ 36 → mI M' 86 j = mI M 86 j) := by
      by_cases c : v ≤ 9900
      · obtain ⟨n, b, g, q1, q2, q3⟩ := lk c
        exact ⟨n, b, g, q1, fun _ => ⟨q2, q3⟩⟩
      · exact ⟨0, false, fun _ => 0, by omega, fun q => absurd q c⟩
    obtain ⟨n, b, g, hn100, lk3⟩ := lk2
    have f9 : 9900 < FARN := by unfold FARN; omega
    refine ⟨if v = FARN then -1 else if v ≤ 9900 then wayX n b g x else -2, ?_, fun M0 g0 gt => ?_⟩
    · unfold f11_way
      rw [aO_1 w, r_1_2 w, aO_23 w, S6_isNone w h.2.2.2.2.2.1 h.2.2.2.2.2.2 h.p, cI_some, if_pos (show bI (Option.isNone (some (p, H, s) : NW)) = 0 from rfl), aO_1 w, d1, cJ_some, ← ev, litF]
      simp only [lN_ltN (le63 hv.1) FARN_lt]
      by_cases cF : v < FARN
      · obtain ⟨M', e1, e2, e3, ⟨E2, R2, e4, e5, e6, e7⟩, e8⟩ := S10_follow h1 b3 (by rw [d2.i 43 (by decide), h43]) d5 d6 d7 d8 hv (fun c => (lk3 c).1)
        have w2 := w1.sm e2
        have i1 : mI M' 1 = mI M1 1 := e2.i 1 (by decide)
        refine ⟨M', ?_, (d2.more (by decide) (by decide)).trans (e2.more (by decide) (by decide)), fun j hj => by rw [i1, d3 j hj], e3, h1.sm e2 (by rw [i1]) (by decide), .inr (by rw [i1, d4]), ⟨E2, R2, e4, e5, e6, fun _ => e7⟩, ?_⟩
        · rw [if_pos cF, if_neg (show ¬ v = FARN by omega), aO_1 w1, aO_1 w1, aO_1 w1, aO_1 w1, aO_1 w1, r_1_7 w1, aO_42 w1, r_1_5 w1, b1, r_1_2 w1, h1.2.2.2.2.1, e1, cV_some, aO_1 w2, r_1_7 w2, aO_42 w2]
          by_cases c9 : v ≤ 9900
          · rw [if_pos c9] at e8
            obtain ⟨k1, k2, k3⟩ := e8
            rw [if_pos c9, k2]
            unfold wayX
            cases b
            · rw [bI_f, if_pos rfl, if_neg (show ¬ false = true by decide)]
              by_cases cx : x = -1
              · rw [if_pos cx, if_pos cx, aO_1 w2, aO_42 w2, k1]
              · rw [if_neg cx, if_neg cx]
                by_cases c1 : x < 0
                · have : ibx n x = false := by
                    unfold ibx
                    rw [decide_eq_true c1]
                    rfl
                  rw [if_pos c1, this]
                  rfl
                · obtain ⟨i, hi, rfl⟩ := nI_of c1
                  rw [if_neg c1, aO_1 w2, aO_42 w2, k1, ibx_nI (by omega) hi, nI_clamp hi]
                  by_cases c2 : i < n
                  · rw [if_neg (nI_ge c2 (by omega)), decide_eq_true c2, if_pos rfl, aO_1 w2, aO_42 w2]
                    unfold f10_ruleAt
                    rw [aO_42 w2, r_42_1 w2, aO_46 w2, g_46 w2, cI_some, gI_in (by omega) (by omega), k3 i c2, cI_some]
                  · rw [if_pos (nI_le (by omega) hi), decide_eq_false c2, if_neg (by decide)]
            · rw [bI_t, if_neg (by decide), if_pos rfl]
          · rw [if_neg c9] at e8
            rw [if_neg c9, e8, if_neg (by decide)]
        · rw [e2.j 41 (by decide), d2.j 41 (by decide)]
          exact hc.2.2
      · rw [if_neg cF, if_pos (show v = FARN by have := hv.1; omega)]
        refine ⟨M1, rfl, d2.more (by decide) (by decide), d3, by rw [d2.i 43 (by decide), h43], h1, .inr d4, ⟨E, R, d5, d6, d7, fun _ => d8⟩, ?_⟩
        rw [d2.j 41 (by decide)]
        exact hc.2.2
    · obtain ⟨M2, F, gg, c1, c2, c3, c4, c5, c6, c7, c8, c9, c10⟩ := SM_costR (g0.th 0) (gt.th 0)
      have wg := g0.w
      have wg0 : Wl (sI M0 86 0 0) := wg
      have w2 := c7.w
      have ev2 := hv.2.2 F _ c6 (okD_X c4)
      have sm2 : Sm [86, 95, 96, 97, 98, 102, 103] [99, 101] M0 M2 := (th_sm.more (by decide) (by decide)).trans (c2.more (by decide) (by decide))
      have fr2 : ∀ j, j ≠ 0 → j ≠ 30 → j ≠ 31 → mI M2 86 j = mI M0 86 j := fun j q0 q1 q2 => (c3 j q0 q1 q2).trans (th_f q0)
      unfold f12_way
      rw [aO_86 wg, bM_e, aO_86 wg0, c1, cJ_some, ← ev2]
      simp only [mjv_0le hv.1]
      by_cases cF : v = FARN
      · rw [if_neg (fun q => q cF), if_pos cF]
        exact ⟨M2, rfl, sm2, fun j q0 q1 q2 _ => fr2 j q0 q1 q2, c7, c8⟩
      · rw [if_pos cF, if_neg cF, aO_86 w2]
        have vc : v ≤ CAPN := by have := hv.1; unfold FARN CAPN at *; omega
        obtain ⟨M3, hM3⟩ : ∃ M3, M3 = sI M2 86 36 0 := ⟨_, rfl⟩
        have s3 : Sm [86, 95, 96, 97, 98, 102, 103] [99, 101] M0 M3 := by
          rw [hM3]
          exact sm2.uI _ (by decide)
        have w3 : Wl M3 := by rw [hM3]; exact w2
        have f3 : ∀ j, j ≠ 36 → mI M3 86 j = mI M2 86 j := fun j hj => by rw [hM3, mI_sI, if_neg (fun q => hj q.2)]
        have r3 : ∀ a, a ≠ 86 → mI M3 a = mI M2 a := fun a ha => by rw [hM3, sI_e, mI_uI, if_neg ha]
        have co3 : ∀ {M' : MM}, Sm [86, 102, 103] [101] M2 M' → (∀ j, j ≠ 36 → mI M' 86 j = mI M2 86 j) → CoM M' P o (some (p, H, s)) ∧ ToldOK M' P o := fun sm fm => by
          refine ⟨c7.sm sm (fm 5 (by decide)) (fun j _ _ => fm j (by omega)) ?_ (by decide), ?_⟩
          · unfold SzM
            rw [sm.i 96 (by decide)]
            exact c7.sz
          · unfold ToldOK at *
            rw [fm 31 (by decide), sm.j 99 (by decide)]
            exact c8
        have s23 : Sm [86, 102, 103] [101] M2 M3 := by
          rw [hM3]
          exact (Sm.rfl _ _ M2).uI _ (by decide)
        have e99 : (mjv v ≤ 9900) = (v ≤ 9900) := by
          rw [mjv_small vc, show (9900 : Int64) = lN 9900 from rfl, lN_leN (le63 hv.1) (by omega)]
        have hw : f12_isWay M2 86 (mjv v) = if v ≤ 9900 then f12_isWay_b29 M3 86 (lN v) (nI p) (nI H) 0 else some (0, M3) := by
          unfold f12_isWay
          rw [aO_86 w2, bM_e, ← hM3, aO_86 w3, bW_e, aO_86 w3, bW_e, f3 20 (by decide), f3 21 (by decide), c7.2.2.2.2.1.2.1, c7.2.2.2.2.1.2.2.1]
          simp only [e99]
          rw [mjv_small vc]
        rw [hw]
        by_cases c9' : v ≤ 9900
        · rw [if_pos c9', if_pos c9']
          have q := LM_way29 w3 (p := p) (s := s) (by rw [f3 21 (by decide)]; exact c7.2.2.2.2.1.2.2.1) n2' (fun i hi => by rw [r3 92 (by decide)]; exact c7.2.2.2.2.1.2.2.2 i hi) (a1 := lN v) (a3 := nI p) (a4 := nI H) H 0 (by omega) FU (FU_big (by omega))
          have e0 : uI M3 102 (fun i => if i < 0 then nI (s i) else mI M3 102 i) = M3 := uI_eq (by
            funext i
            rw [if_neg (Nat.not_lt_zero i)])
          rw [e0] at q
          obtain ⟨M4, hM4⟩ : ∃ M4, M4 = uI M3 102 (fun i => if i < H then nI (s i) else mI M3 102 i) := ⟨_, rfl⟩
          rw [← hM4] at q
          have s24 : Sm [86, 102, 103] [101] M2 M4 := by
            rw [hM4]
            exact s23.uI _ (by decide)
          have f4 : ∀ j, j ≠ 36 → mI M4 86 j = mI M2 86 j := fun j hj => by rw [hM4, mI_uI, if_neg (by decide), f3 j hj]
          have dx : DX M4 (gTG P) = DX M2 (gTG P) := DX_cg (s24.i 96 (by decide)) (s24.i 97 (by decide)) (s24.i 98 (by decide))
          have j101 : mJ M4 101 = mJ M2 101 := by rw [hM4, mJ_uI, hM3, sI_e, mJ_uI]
          have hk : WkM M4 P o p H s 0 (fun _ => 0) := by
            refine ⟨w2.sm s24, (co3 s24 f4).1.pg, c4.sm s24 (f4 30 (by decide)) (by decide) (by decide) (by decide) (by decide), fun i hi => ?_, ?_, fun i hi => absurd hi (Nat.not_lt_zero i), F, gg, by rw [s24.j 99 (by decide), c5], c6, ?_⟩
            · rw [hM4, mI_uI, if_pos rfl, if_pos hi]
            · rw [hM4, mI_uI, if_neg (by decide), hM3, mI_sI, if_pos ⟨rfl, rfl⟩]
              rfl
            · rw [dx, j101]
              exact c9
          obtain ⟨M', k1, k2, k3, k4, k5⟩ := (lk3 c9').2 M4 FU (FU_big (by omega)) hk
          have q' : f12_isWay_b29 M3 86 (lN v) (nI p) (nI H) 0 = some (bI (!b), M') := q.trans k1
          have s2' := s24.trans k4
          have w' := w2.sm s2'
          have f' : ∀ j, j ≠ 36 → mI M' 86 j = mI M2 86 j := fun j hj => (k5 j hj).trans (f4 j hj)
          rw [q', cI_some]
          refine ⟨M', ?_, sm2.trans (s2'.more (by decide) (by decide)), fun j q0 q1 q2 q3 => (f' j q3).trans (fr2 j q0 q1 q2), co3 s2' f'⟩
          unfold wayX
          cases b
          · rw [show bI (!false) = 1 from rfl, if_neg (by decide), if_neg (show ¬ false = true by decide)]
            by_cases cx : x = -1
            · rw [if_pos cx, if_pos cx, aO_86 w', k2]
            · rw [if_neg cx, if_neg cx, aO_86 w', k2, SM_in0 (by omega), cI_some]
              by_cases ci : ibx n x = true
              · obtain ⟨i, hi, rfl⟩ := ibx_out ci (by omega)
                rw [ci, bI_t, if_neg (by decide), if_pos rfl, aO_86 w', r_86_34 w', aA_103 w' (by omega), nI_clamp (by omega), k3 i hi]
              · rw [Bool.not_eq_true] at ci
                rw [ci, bI_f, if_pos rfl, if_neg (by decide)]
          · rw [show bI (!true) = 0 from rfl, if_pos rfl, if_pos rfl]
        · rw [if_neg c9', if_neg c9', cI_some, if_pos rfl]
          exact ⟨M3, rfl, s3, fun j q0 q1 q2 q3 => (f3 j q3).trans (fr2 j q0 q1 q2), co3 s23 f3⟩
end WAY2
