/-! OTHER AIMS: what matters, what comes up -/
section OTH
variable {M : MM} {P : PG} {o : Nat} {nw : NW}
theorem tw_C (h : CoC M P o nw) {E R : Nat → Nat} : CoC (tw M 37 E R) P o nw := h.sm (tw_sm (a := 37)) rfl (by decide)
theorem S11_oth {p H : Nat} {s : Nat → Nat} (h : CoC M P o (some (p, H, s))) {a1 : Nat} (hP : PgC M a1 P) {o' : Nat} (ho' : o' < 2 ^ 31) (S : Nat → Bool) (g R z : Nat → Nat) (bR : Bd 615 R) (hz : ∀ x, x < 15 → R x = z x) :
    ∃ E R', f1_saturate (tw M 37 (ES S g) R) 37 a1 (nI o') = some (tw M 37 E R) ∧ f1_of (tw M 37 E R) 37 23 = some (lN (val 15 (eC E) z s H p), tw M 37 E R') ∧ Bd 615 R' ∧ Bd 1350 E ∧ GC 15 S (fun y g x => S (ix 15 y g x)) P o' E ∧ DeE (fun y g x => S (ix 15 y g x)) E := by
  obtain ⟨E, d1, d2, d3, d4⟩ := S1_satS h.w (a := 37) (.inr rfl) h.p hP ho' S g R
  have p5 := h.p.1
  have g6 := h.p.2.1
  obtain ⟨w, wp, ho, -, a5, a6, n1, n2, n3⟩ := tw_C h (E := E) (R := R)
  obtain ⟨R', e1, e2, e3⟩ := S1_of (M := tw M 37 E R) (a := 37) (b := 23) w (.inr rfl) (tw_34 (a := 37)) (tw_36 (a := 37)) d2 bR hz (show p < 15 from by have : p < pS P := n1; omega) a6 (show (H + 1) * 15 ≤ nrw 37 from by show (H + 1) * 15 ≤ 615; have : H ≤ 40 := n2; omega) (fun i hi => Nat.lt_of_lt_of_le (n3 i hi) g6)
  rw [tw_tw] at e1
  exact ⟨E, R', d1, e1, e3, d2, d3, d4⟩
theorem CostC.ot {E' R' : Nat → Nat} (h : CostC M P o) (b : Bd 615 R') : CostC (tw M 37 E' R') P o := by
  have s := tw_sm (M := M) (a := 37) (E := E') (R := R')
  unfold CostC at *
  rw [show mI (tw M 37 E' R') 1 13 = mI M 1 13 from rfl, s.j 34 (by decide), s.j 36 (by decide)]
  exact ⟨h.1, h.2.1, R', tw_36 (a := 37), b⟩
/-- a tenth of the pages: what both do with another net -/
theorem M_other {p H : Nat} {s : Nat → Nat} {o' : Nat} (h : CoM M P o' (some (p, H, s))) {T : TG} (hT : TgM M T) (hT2 : okT (pG P) T) : ∃ M' F gg Ab, f12_lay M 86 100 = some (uJ M 100 (mjR F gg)) ∧ M' = uJ (uJ M 100 (mjR F gg)) 101 Ab ∧ Net P o' T F ∧ f12_costNow (uJ M 100 (mjR F gg)) 86 100 = some (mjv (val 21 (e21 T (DX M T) F) (z21 T) s H p), M') := by
  have ho := h.2.2.1
  obtain ⟨F, gg, a1, a2, a3⟩ := SM_lay2 h.w (oa := 100) (.inr rfl) h.pg h.p (o_lt ho) hT hT2
  have h2 : CoM (uJ M 100 (mjR F gg)) P o' (some (p, H, s)) := h.sm (Is := []) (Js := [100]) ((Sm.rfl _ _ M).uJ _ (by decide)) rfl (fun _ _ _ => rfl) h.sz (by decide)
  obtain ⟨Ab, b1, b2⟩ := SM_costN h2 (oa := 100) (.inr rfl) (TgM_J hT) (F := F) (gg := gg) (by rw [mJ_uJ, if_pos rfl]) a3
  exact ⟨_, F, gg, Ab, a1, rfl, a2, b1⟩
theorem okT_h (hp : WP P) {p g : Nat} (h1 : p < pS P) (h2 : g < pG P) : okT (pG P) (hTG p g) := ⟨hp.2.1, show 1 ≤ 4 by omega, fun k _ => ⟨Nat.lt_of_lt_of_le h1 hp.1, show 1 ≤ 3 by omega, show 1 ≤ 1 by omega, fun i _ => h2⟩⟩
theorem okT_n (hp : WP P) {p : Nat} (h1 : p < pS P) : okT (pG P) (nTG p) := ⟨hp.2.1, show 1 ≤ 4 by omega, fun k _ => ⟨Nat.lt_of_lt_of_le h1 hp.1, show 0 ≤ 3 by omega, show 0 ≤ 1 by omega, fun i hi => absurd hi (Nat.not_lt_zero i)⟩⟩
/-- the edges from the start -/
def bs (sg : Nat) (i : Nat) : Bool := (List.range sg).any (fun g => i == ix 15 5 g 5)
theorem allS_h (sg p g : Nat) : allS sg (hTG p g) = fun i => bs sg i || i == ix 15 p g 5 := by
  funext i
  show (bs sg i || (List.range 1).any (fun k => aimS sg (hTG p g) k i)) = _
  congr 1
  simp only [List.range_one, List.any_cons, List.any_nil, Bool.or_false]
  show (decide (1 = 0) && _ || (List.range 1).any (fun j => i == ix 15 (nodeC (hTG p g) 0 j) g (nodeC (hTG p g) 0 (j + 1)))) = _
  simp only [List.range_one, List.any_cons, List.any_nil, Bool.or_false]
  rfl
theorem allS_n (sg p : Nat) : allS sg (nTG p) = bs sg := by
  funext i
  show (bs sg i || (List.range 1).any (fun k => aimS sg (nTG p) k i)) = _
  simp only [List.range_one, List.any_cons, List.any_nil, Bool.or_false]
  have : aimS sg (nTG p) 0 i = false := rfl
  rw [this, Bool.or_false]
theorem endS_h (p g x : Nat) : endS (hTG p g) x = (x == 5 || x == 6) := by
  show ((x == 5 || x == 6) || (List.range 1).any (fun k => decide (1 = 0) && x == p)) = _
  simp
theorem endS_n (p x : Nat) : endS (nTG p) x = ((x == 5 || x == 6) || x == p) := by
  show ((x == 5 || x == 6) || (List.range 1).any (fun k => decide (0 = 0) && x == p)) = _
  simp
/-- what comes up at what cost -/
def cmT (p : Nat) (x : Int32) (T : TG) : Prop := (∃ g, g < 6 ∧ x = nI g ∧ T = hTG p g) ∨ (x = -1 ∧ T = nTG p)
theorem S11_comes90 {p H : Nat} {s : Nat → Nat} (h : CoC M P o (some (p, H, s))) (hc : CostC M P o) {T : TG} {g R : Nat → Nat} (bR : Bd 615 R) (hT : okT (pG P) T) {v : Nat} (hv : costN P o T (some (p, H, s)) v) :
    ∃ E' R', f11_comes_b90 (tw M 37 (ES (allS (pG P) T) g) (ER (endS T) R)) 1 = some (mjv v, tw M 37 E' R') ∧ Bd 615 R' := by
  obtain ⟨a1, b1, b2, b3⟩ := h.2.2.2.1
  have ho := h.lo
  obtain ⟨E, R', d1, d2, d3, d4, d5, d6⟩ := S11_oth h b3 (o_lt ho) (allS (pG P) T) g (ER (endS T) R) (z15 T) (ER_bd bR) ER_z
  have w : ∀ {E R}, Wl (tw M 37 E R) := h.w
  refine ⟨E, R', ?_, d3⟩
  unfold f11_comes_b90
  rw [aO_1 w, aO_1 w, aO_1 w, r_1_6 w, aO_37 w, show mR (tw M 37 (ES (allS (pG P) T) g) (ER (endS T) R)) 1 10 = a1 from b1, show mI (tw M 37 (ES (allS (pG P) T) g) (ER (endS T) R)) 1 12 = nI o from h.2.2.2.2.1, d1, cV_some, aO_1 w, aO_1 w, r_1_6 w, aO_37 w, r_1_2 w, d2, cJ_some]
  have e : v = val 15 (eC E) (z15 T) s H p := hv.2.1 E (z15 T) ⟨d4, d5, d6, fun _ _ => rfl⟩
  rw [← e, S11_told hv.1, cJ_some]
theorem S11_comes (h : CoC M P o nw) (hc : CostC M P o) (x y : Int32) : ∃ M' r, f11_comes M 1 x y = some (r, M') ∧ Sm [1] [39, 41] M M' ∧ mI M' 1 = mI M 1 ∧ CoC M' P o nw ∧ CostC M' P o ∧
    (nw = none → r = -1) ∧ ((ibx (pS P) x && (decide (y = -1) || ibx (pG P) y)) = false → r = -1) ∧
    ∀ p T v, p < pS P → x = nI p → okT (pG P) T → cmT p y T → costN P o T nw v → r = mjv v := by
  have p5 := h.p.1
  have g6 := h.p.2.1
  obtain ⟨a1, b1, b2, b3⟩ := h.2.2.2.1
  have w := h.w
  -- the part behind the first tests
  have key : ∀ b : Bool, b = (ibx (pS P) x && (decide (y = -1) || ibx (pG P) y)) → ∃ M' r, f11_comes_b32 M 1 x y (bI b) = some (r, M') ∧ Sm [1] [39, 41] M M' ∧ mI M' 1 = mI M 1 ∧ CoC M' P o nw ∧ CostC M' P o ∧
      (nw = none → r = -1) ∧ ((ibx (pS P) x && (decide (y = -1) || ibx (pG P) y)) = false → r = -1) ∧
      ∀ p T v, p < pS P → x = nI p → okT (pG P) T → cmT p y T → costN P o T nw v → r = mjv v := by
    intro b hb
    unfold f11_comes_b32
    rw [aO_1 w, r_1_2 w, aO_23 w, S6_isNone w h.2.2.2.2.2.1 h.2.2.2.2.2.2 h.p, cI_some]
    rcases nw with _ | ⟨p0, H, s⟩
    · rw [if_neg (show ¬ bI (Option.isNone (none : NW)) = 0 by decide)]
      refine ⟨M, -1, rfl, Sm.rfl _ _ _, rfl, h, hc, fun _ => rfl, fun _ => rfl, fun p T v _ _ _ _ hv => ?_⟩
      rw [hv.2, mjv_far]
    · rw [if_pos (show bI (Option.isNone (some (p0, H, s) : NW)) = 0 from rfl)]
      cases b
      · rw [bI_f, if_pos rfl]
        refine ⟨M, -1, rfl, Sm.rfl _ _ _, rfl, h, hc, fun _ => rfl, fun _ => rfl, fun p T v hp e1 hT hm _ => ?_⟩
        exfalso
        rw [e1, ibx_nI (by omega) (by omega), decide_eq_true hp, Bool.true_and] at hb
        rcases hm with ⟨g, hg, e2, e3⟩ | ⟨e2, e3⟩
        · have : g < pG P := by
            rw [e3] at hT
            exact (hT.2.2 0 (show 0 < 1 by omega)).2.2.2 0 (show 0 < 1 by omega)
          rw [e2, ibx_nI (by omega) (by omega), decide_eq_true this, Bool.or_true] at hb
          cases hb
        · rw [e2] at hb
          cases hb
      · have hb2 := hb.symm
        rw [Bool.and_eq_true] at hb2
        obtain ⟨p, hp, rfl⟩ := ibx_out hb2.1 (by omega)
        rw [bI_t, if_neg (by decide), aO_1 w, aO_1 w, b1, b3.o w, r_1_6 w, aO_37 w, b3.g]
        obtain ⟨E0, e0⟩ := lR_ex (mJ M 39)
        obtain ⟨R0, e1, bR⟩ := hc.2.2
        have st := S1_start w (a := 37) (.inr rfl) g6 E0 R0
        rw [tw_self (a := 37) e0 e1] at st
        have wt : ∀ {E R}, Wl (tw M 37 E R) := w
        rw [st, cV_some]
        have fin : ∀ T : TG, okT (pG P) T → (∀ v, costN P o T (some (p0, H, s)) v → ∀ p' T' v', p' < pS P → nI p = nI p' → okT (pG P) T' → cmT p' y T' → costN P o T' (some (p0, H, s)) v' → T' = T) →
            ∃ M' r, f11_comes_b90 (tw M 37 (ES (allS (pG P) T) E0) (ER (endS T) R0)) 1 = some (r, M') ∧ Sm [1] [39, 41] M M' ∧ mI M' 1 = mI M 1 ∧ CoC M' P o (some (p0, H, s)) ∧ CostC M' P o ∧
            ((some (p0, H, s) : NW) = none → r = -1) ∧ ((ibx (pS P) (nI p) && (decide (y = -1) || ibx (pG P) y)) = false → r = -1) ∧
            ∀ p' T' v', p' < pS P → nI p = nI p' → okT (pG P) T' → cmT p' y T' → costN P o T' (some (p0, H, s)) v' → r = mjv v' := by
          intro T hT hu
          obtain ⟨v, hv⟩ := costN_ex (nw := some (p0, H, s)) h.p h.2.2.2.2.2.2 o hT
          obtain ⟨E', R', f1, f2⟩ := S11_comes90 h hc (g := E0) bR hT hv
          refine ⟨_, _, f1, (tw_sm (a := 37)).more (by decide) (by decide), rfl, tw_C h, hc.ot f2, (fun q => by cases q), fun q => ?_, fun p' T' v' h1 h2 h3 h4 h5 => ?_⟩
          · rw [← hb] at q
            cases q
          · have := hu v hv p' T' v' h1 h2 h3 h4 h5
            subst this
            have hh := Std_ex h.p o T'
            obtain ⟨E2, R2, k⟩ := hh
            rw [hv.2.1 E2 R2 k, h5.2.1 E2 R2 k]
        by_cases cy : y = -1
        · rw [if_pos cy, aO_1 wt, r_1_6 wt, aO_37 wt, tw_aim w (.inr rfl) (by omega), cV_some, ER_low (by omega)]
          have hT := okT_n h.p hp
          obtain ⟨M', r, k1, k2⟩ := fin (nTG p) hT (fun v hv p' T' v' h1 h2 h3 h4 h5 => by
            rw [nI_eq (by omega) (by omega)] at h2
            rcases h4 with ⟨g, hg, e2, e3⟩ | ⟨e2, e3⟩
            · rw [cy] at e2
              exact absurd e2.symm (nI_neM (by omega))
            · rw [e3, h2])
          refine ⟨M', r, ?_, k2⟩
          rw [← k1, allS_n, show endS (nTG p) = fun x => ((x == 5 || x == 6) || x == p) from funext (endS_n p)]
          rfl
        · have hgg : ibx (pG P) y = true := by
            have := hb2.2
            rw [decide_eq_false cy, Bool.false_or] at this
            exact this
          obtain ⟨g, hg, rfl⟩ := ibx_out hgg (by omega)
          rw [if_neg cy, aO_1 wt, r_1_6 wt, aO_37 wt, tw_head w (.inr rfl) (by omega) (by omega), cV_some]
          have hT := okT_h h.p hp hg
          obtain ⟨M', r, k1, k2⟩ := fin (hTG p g) hT (fun v hv p' T' v' h1 h2 h3 h4 h5 => by
            rw [nI_eq (by omega) (by omega)] at h2
            rcases h4 with ⟨g', hg', e2, e3⟩ | ⟨e2, e3⟩
            · rw [nI_eq (by omega) (by omega)] at e2
              rw [e3, h2, e2]
            · exact absurd e2 (nI_neM (by omega)))
          refine ⟨M', r, ?_, k2⟩
          rw [← k1, allS_h, show endS (hTG p g) = fun x => (x == 5 || x == 6) from funext (endS_h p g)]
          rfl
  unfold f11_comes f11_comes_b31 f11_comes_b27
  rw [aO_1 w, b1, b3.o w, S7_hasState w b3, cI_some]
  by_cases c1 : ibx (pS P) x = true
  · rw [c1, bI_t, if_neg (by decide)]
    by_cases c2 : y = -1
    · rw [if_pos c2]
      have := key true (by rw [c1, c2]; rfl)
      rw [c1] at this
      exact this
    · rw [if_neg c2, aO_1 w, b1, b3.o w, S7_hasSign w b3, cI_some]
      by_cases c3 : ibx (pG P) y = true
      · rw [c3, bI_t, if_neg (by decide)]
        have := key true (by rw [c1, c3, Bool.or_true]; rfl)
        rw [c1, c3] at this
        exact this
      · rw [Bool.not_eq_true] at c3
        rw [c3, bI_f, if_pos rfl]
        have := key false (by rw [c1, c3, decide_eq_false c2]; rfl)
        rw [c1, c3] at this
        exact this
  · rw [Bool.not_eq_true] at c1
    rw [c1, bI_f, if_pos rfl]
    have := key false (by rw [c1, Bool.false_and])
    rw [c1] at this
    exact this
end OTH
