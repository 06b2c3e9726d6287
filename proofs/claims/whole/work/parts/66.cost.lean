/-! COSTS: the class's own calls -/
abbrev NW : Type := Option (Nat × Nat × (Nat → Nat))
def HereC (M : MM) : NW → Prop
  | none => mI M 23 0 = nI 40 ∧ mI M 23 2 = -1 ∧ mI M 23 3 = 0
  | some q => PlC M 23 q.1 q.2.1 q.2.2
def WN (P : PG) : NW → Prop
  | none => True
  | some q => q.1 < pS P ∧ q.2.1 ≤ 40 ∧ ∀ i, i < q.2.1 → q.2.2 i < pG P
def HereM (M : MM) : NW → Prop
  | none => mI M 86 19 = 0
  | some q => mI M 86 19 = 1 ∧ mI M 86 20 = nI q.1 ∧ mI M 86 21 = nI q.2.1 ∧ ∀ i, i < q.2.1 → mI M 92 i = nI (q.2.2 i)
def ProC (M : MM) (P : PG) : Prop := ∃ a1, mR M 1 10 = a1 ∧ mR M 1 11 = 17 - a1 ∧ PgC M a1 P
def CoC (M : MM) (P : PG) (o : Nat) (nw : NW) : Prop := Wl M ∧ WP P ∧ o < 2 ^ 14 ∧ ProC M P ∧ mI M 1 12 = nI o ∧ HereC M nw ∧ WN P nw
def CoM (M : MM) (P : PG) (o : Nat) (nw : NW) : Prop := Wl M ∧ WP P ∧ o < 2 ^ 14 ∧ PgM M P o ∧ HereM M nw ∧ WN P nw ∧ SzM M
def avd (L Is : List Nat) : Bool := L.all fun a => !Is.elem a
theorem avd_n {L Is : List Nat} (h : avd L Is = true) {a : Nat} (ha : a ∈ L) : a ∉ Is := by
  have := List.all_eq_true.mp h a ha
  intro q
  rw [List.elem_eq_true_of_mem q] at this
  exact absurd this (by decide)
theorem PgC.sm {M M' : MM} {a : Nat} {P : PG} {Is Js : List Nat} (h : PgC M a P) (s : Sm Is Js M M') (hi : avd [4, 10, 12, 13, 19, 21] Is = true) : PgC M' a P := by
  unfold PgC at *
  rcases h.1 with rfl | rfl
  · rw [s.i 4 (avd_n hi (by decide)), s.i (4 + 6) (avd_n hi (by decide)), s.i (4 + 8) (avd_n hi (by decide))]
    exact h
  · rw [s.i 13 (avd_n hi (by decide)), s.i (13 + 6) (avd_n hi (by decide)), s.i (13 + 8) (avd_n hi (by decide))]
    exact h
theorem HereC.sm {M M' : MM} {nw : NW} {Is Js : List Nat} (h : HereC M nw) (s : Sm Is Js M M') (hi : avd [23, 25] Is = true) : HereC M' nw := by
  rcases nw with _ | ⟨p, H, q⟩
  · show mI M' 23 0 = nI 40 ∧ mI M' 23 2 = -1 ∧ mI M' 23 3 = 0
    rw [s.i 23 (avd_n hi (by decide))]
    exact h
  · show PlC M' 23 p H q
    unfold PlC
    rw [s.i 23 (avd_n hi (by decide)), s.i (23 + 2) (avd_n hi (by decide))]
    exact h
theorem CoC.sm {M M' : MM} {P : PG} {o : Nat} {nw : NW} {Is Js : List Nat} (h : CoC M P o nw) (s : Sm Is Js M M') (h1 : mI M' 1 12 = mI M 1 12) (hi : avd [4, 10, 12, 13, 19, 21, 23, 25] Is = true) : CoC M' P o nw := by
  obtain ⟨a1, a2, a3, ⟨b, b1, b2, b3⟩, a5, a6, a7⟩ := h
  refine ⟨a1.sm s, a2, a3, ⟨b, by rw [s.r]; exact b1, by rw [s.r]; exact b2, b3.sm s ?_⟩, by rw [h1]; exact a5, a6.sm s ?_, a7⟩
  · exact List.all_eq_true.mpr fun x hx => List.all_eq_true.mp hi x (by revert x; decide)
  · exact List.all_eq_true.mpr fun x hx => List.all_eq_true.mp hi x (by revert x; decide)
theorem HereM.sm {M M' : MM} {nw : NW} {Is Js : List Nat} (h : HereM M nw) (s : Sm Is Js M M') (h1 : ∀ j, 19 ≤ j → j ≤ 21 → mI M' 86 j = mI M 86 j) (hi : 92 ∉ Is) : HereM M' nw := by
  rcases nw with _ | ⟨p, H, q⟩
  · show mI M' 86 19 = 0
    rw [h1 19 (by omega) (by omega)]
    exact h
  · show mI M' 86 19 = 1 ∧ mI M' 86 20 = nI p ∧ mI M' 86 21 = nI H ∧ ∀ i, i < H → mI M' 92 i = nI (q i)
    rw [h1 19 (by omega) (by omega), h1 20 (by omega) (by omega), h1 21 (by omega) (by omega), s.i 92 hi]
    exact h
theorem CoM.sm {M M' : MM} {P : PG} {o : Nat} {nw : NW} {Is Js : List Nat} (h : CoM M P o nw) (s : Sm Is Js M M') (h5 : mI M' 86 5 = mI M 86 5) (h1 : ∀ j, 19 ≤ j → j ≤ 21 → mI M' 86 j = mI M 86 j) (hz : SzM M') (hi : avd [87, 89, 90, 92] Is = true) : CoM M' P o nw := by
  obtain ⟨a1, a2, a3, a4, a5, a6, a7⟩ := h
  exact ⟨a1.sm s, a2, a3, a4.sm s h5 (avd_n hi (by decide)) (avd_n hi (by decide)) (avd_n hi (by decide)), a5.sm s h1 (avd_n hi (by decide)), a6, hz⟩
section SAT2
variable {M : MM} {a a1 : Nat} {P : PG} {o : Nat}
/-- the search out of any first edges -/
theorem S1_satS (w : Wl M) (h : CoA a) (hp : WP P) (hP : PgC M a1 P) (ho : o < 2 ^ 31) (S : Nat → Bool) (g R : Nat → Nat) :
    ∃ E, f1_saturate (tw M a (ES S g) R) a a1 (nI o) = some (tw M a E R) ∧ Bd 1350 E ∧ GC 15 S (fun y g x => S (ix 15 y g x)) P o E ∧ DeE (fun y g x => S (ix 15 y g x)) E := by
  obtain ⟨L, hL⟩ := GC_exists (n := 15) (I := S) (D := fun y g x => S (ix 15 y g x)) (P := P) (o := o) hp (by omega)
  have dE : DeE (fun y g x => S (ix 15 y g x)) (ES S g) := fun y s x h5 hy hs hx => by
    unfold ES
    rw [if_pos (ix15_lt hy hs hx)]
  have sE : Stg 15 S (ES S g) L := by
    refine ⟨fun e he => ES_bd e (by omega), fun e he hi => ?_, fun e he => ?_⟩
    · unfold ES
      rw [if_pos (by omega), if_pos hi]
    · unfold ES
      rw [if_pos (by omega)]
      split
      · rw [hL.1.2.1 e he (by assumption)]
        exact Nat.le_refl _
      · exact hL.1.1 e he
  obtain ⟨E, h1, h2, h3⟩ := S1_saturate (M := uJ M (a + 4) (lR R)) w h hp hP ho hL ES_bd dE sE
  refine ⟨E, h1, fun i hi => ?_, GC_cg hp (by omega) h2 hL, fun y s x h5 hy hs hx => ?_⟩
  · by_cases c : i < 450
    · rw [h2 i c]
      exact hL.1.1 i c
    · rw [h3 i (by omega)]
      exact ES_bd i hi
  · rw [h3 _ (ix_450 h5)]
    exact dE y s x h5 hy hs hx
end SAT2
def Std (P : PG) (o : Nat) (T : TG) (E R : Nat → Nat) : Prop := Bd 1350 E ∧ GC 15 (allS (pG P) T) (D15 (pG P) T) P o E ∧ DeE (D15 (pG P) T) E ∧ ∀ x, x < 15 → R x = z15 T x
theorem ER_z {T : TG} {R0 : Nat → Nat} : ∀ x, x < 15 → ER (endS T) R0 x = z15 T x := fun x hx => by
  unfold ER z15
  rw [if_pos hx]
theorem ER_bd {S : Nat → Bool} {R0 : Nat → Nat} {K : Nat} (h : Bd K R0) : Bd K (ER S R0) := fun i hi => by
  unfold ER
  split
  · split
    · exact Nat.zero_le _
    · exact Nat.le_refl _
  · exact h i hi
def CostC (M : MM) (P : PG) (o : Nat) : Prop := (mI M 1 13 = 0 ∨ mI M 1 13 = 1) ∧ (∃ E R, mJ M 34 = lR E ∧ mJ M 36 = lR R ∧ Bd 2115 R ∧ (mI M 1 13 = 1 → Std P o (gTG P) E R)) ∧ ∃ R', mJ M 41 = lR R' ∧ Bd 615 R'
theorem CostC.sm {M M' : MM} {P : PG} {o : Nat} {Is Js : List Nat} (h : CostC M P o) (s : Sm Is Js M M') (h1 : mI M' 1 13 = mI M 1 13) (hj : avd [34, 36, 41] Js = true) : CostC M' P o := by
  unfold CostC at *
  rw [h1, s.j 34 (avd_n hj (by decide)), s.j 36 (avd_n hj (by decide)), s.j 41 (avd_n hj (by decide))]
  exact h
theorem tw_self {M : MM} {a : Nat} {E R : Nat → Nat} (hE : mJ M (a + 2) = lR E) (hR : mJ M (a + 4) = lR R) : tw M a E R = M := by
  unfold tw
  rw [uJ_eq hR.symm, uJ_eq hE.symm]
theorem tw_34 {M : MM} {a : Nat} {E R : Nat → Nat} : mJ (tw M a E R) (a + 2) = lR E := by
  unfold tw
  rw [mJ_uJ, if_pos rfl]
theorem tw_36 {M : MM} {a : Nat} {E R : Nat → Nat} : mJ (tw M a E R) (a + 4) = lR R := by
  unfold tw
  rw [mJ_uJ, if_neg (by omega), mJ_uJ, if_pos rfl]
theorem tw_sm {M : MM} {a : Nat} {E R : Nat → Nat} : Sm [] [a + 2, a + 4] M (tw M a E R) := ((Sm.rfl _ _ M).uJ _ (by simp)).uJ _ (by simp)
theorem tw_tw {M : MM} {a : Nat} {E R R' : Nat → Nat} : uJ (tw M a E R) (a + 4) (lR R') = tw M a E R' := by
  rw [tw_c, uJ_uJ, ← tw_c]
section SETTLE
variable {M : MM} {P : PG} {o : Nat} {nw : NW}
theorem o_lt {o : Nat} (h : o < 2 ^ 14) : o < 2 ^ 31 := Nat.lt_of_lt_of_le h (by decide)
theorem S11_told {v : Nat} (h : v ≤ FARN) : f11_told M (lN v) = some (mjv v, M) := by
  unfold f11_told mjv
  rw [litF]
  simp only [lN_ltN (le63 h) FARN_lt]
  by_cases c : v < FARN
  · rw [if_pos c, if_neg (by unfold FARN CAPN at *; omega)]
  · rw [if_neg c, if_pos (by unfold FARN CAPN at *; omega)]
theorem S11_settle (h : CoC M P o nw) (hc : CostC M P o) : ∃ M' E R, f11_settleCosts M 1 = some M' ∧ Sm [1] [34, 36] M M' ∧ (∀ j, j ≠ 13 → mI M' 1 j = mI M 1 j) ∧ mI M' 1 13 = 1 ∧ mJ M' 34 = lR E ∧ mJ M' 36 = lR R ∧ Bd 2115 R ∧ Std P o (gTG P) E R := by
  obtain ⟨w, hp, ho, ⟨a1, b1, b2, b3⟩, a5, a6, a7⟩ := h
  obtain ⟨c1, ⟨E0, R0, c2, c3, c4, c5⟩, -⟩ := hc
  unfold f11_settleCosts
  rw [aO_1 w]
  rcases c1 with c | c
  · rw [if_pos c, aO_1 w, aO_1 w, r_1_5 w, aO_32 w, b1]
    have e := S1_sfg w (a := 32) (.inl rfl) hp b3 E0 R0
    rw [tw_self (a := 32) c2 c3] at e
    have wt : ∀ {E R}, Wl (tw M 32 E R) := w
    obtain ⟨E, d1, d2, d3, d4⟩ := S1_satS w (a := 32) (.inl rfl) hp b3 (o_lt ho) (allS (pG P) (gTG P)) E0 (ER (endS (gTG P)) R0)
    rw [e, cV_some, aO_1 wt, aO_1 wt, aO_1 wt, r_1_5 wt, aO_32 wt, show mR (tw M 32 (ES (allS (pG P) (gTG P)) E0) (ER (endS (gTG P)) R0)) 1 10 = a1 from b1, show mI (tw M 32 (ES (allS (pG P) (gTG P)) E0) (ER (endS (gTG P)) R0)) 1 12 = nI o from a5, d1, cV_some, aO_1 wt, bM_e]
    refine ⟨_, E, ER (endS (gTG P)) R0, rfl, ((tw_sm (a := 32)).more (by simp) (by simp)).uI _ (by decide), fun j hj => ?_, ?_, tw_34 (a := 32), tw_36 (a := 32), ER_bd c4, d2, d3, d4, ER_z⟩
    · rw [mI_sI, if_neg (fun q => hj q.2)]
      rfl
    · rw [mI_sI, if_pos ⟨rfl, rfl⟩]
  · rw [if_neg (by rw [c]; decide)]
    exact ⟨M, E0, R0, rfl, Sm.rfl _ _ _, fun _ _ => rfl, c, c2, c3, c4, c5 c⟩
theorem S11_costOfNow {p H : Nat} {s : Nat → Nat} (h : CoC M P o (some (p, H, s))) (hc : CostC M P o) : ∃ M' E R, f11_costOfNow M 1 = some (lN (val 15 (eC E) (z15 (gTG P)) s H p), M') ∧ Sm [1] [34, 36] M M' ∧ (∀ j, j ≠ 13 → mI M' 1 j = mI M 1 j) ∧ mI M' 1 13 = 1 ∧ mJ M' 34 = lR E ∧ mJ M' 36 = lR R ∧ Bd 2115 R ∧ Std P o (gTG P) E R ∧ RwOK E (z15 (gTG P)) s R H := by
  obtain ⟨M1, E, R, d1, d2, d3, d4, d5, d6, d7, d8⟩ := S11_settle h hc
  have h1 := h.sm d2 (d3 12 (by decide)) (by decide)
  have w := h.1
  obtain ⟨w1, hp, ho, -, -, a6, a7⟩ := h1
  have p5 := hp.1
  have g6 := hp.2.1
  obtain ⟨n1, n2, n3⟩ := a7
  obtain ⟨R', e1, e2, e3⟩ := S1_of (a := 32) (b := 23) w1 (.inl rfl) d5 d6 d8.1 d7 d8.2.2.2 (show p < 15 from by have : p < pS P := n1; omega) a6 (show (H + 1) * 15 ≤ nrw 32 from by show (H + 1) * 15 ≤ 2115; have : H ≤ 40 := n2; omega) (fun i hi => Nat.lt_of_lt_of_le (n3 i hi) g6)
  have wt : Wl (uJ M1 36 (lR R')) := w1
  refine ⟨uJ M1 36 (lR R'), E, R', ?_, d2.uJ _ (by decide), fun j hj => d3 j hj, d4, ?_, ?_, e3, ⟨d8.1, d8.2.1, d8.2.2.1, fun x hx => ?_⟩, e2⟩
  · unfold f11_costOfNow
    rw [aO_1 w, d1, cV_some, aO_1 w1, aO_1 w1, r_1_5 w1, aO_32 w1, r_1_2 w1, e1, cJ_some]
  · rw [mJ_uJ, if_neg (by decide)]
    exact d5
  · rw [mJ_uJ, if_pos rfl]
  · have := e2 0 x (Nat.zero_le _) hx
    rw [Nat.zero_mul, Nat.zero_add] at this
    exact this
theorem S6_isNone (w : Wl M) (h : HereC M nw) (hw : WN P nw) (hp : WP P) : f6_isNone M 23 = some (bI nw.isNone, M) := by
  unfold f6_isNone
  rw [aO_23 w]
  rcases nw with _ | ⟨p, H, s⟩
  · have h2 : mI M 23 2 = -1 := h.2.1
    rw [h2, if_pos rfl]
    rfl
  · have h2 : mI M 23 2 = nI p := h.2.2.1
    have : p < pS P := hw.1
    have := hp.1
    rw [h2, if_neg (nI_neM (by omega))]
    rfl
/-- what a place's cost is told as -/
def Told (P : PG) (o : Nat) (T : TG) (nw : NW) (v : Nat) : Prop := ∀ p H s, nw = some (p, H, s) → ∀ E R, Std P o T E R → v = val 15 (eC E) (z15 T) s H p
theorem S11_cost (h : CoC M P o nw) (hc : CostC M P o) : ∃ M' r, f11_cost M 1 = some (r, M') ∧ Sm [1] [34, 36] M M' ∧ (∀ j, j ≠ 13 → mI M' 1 j = mI M 1 j) ∧ CostC M' P o ∧ (nw = none → r = -1) ∧ ∀ p H s, nw = some (p, H, s) → ∃ E R, Std P o (gTG P) E R ∧ r = mjv (val 15 (eC E) (z15 (gTG P)) s H p) := by
  have h' := h
  obtain ⟨w, hp, ho, -, -, a6, a7⟩ := h
  unfold f11_cost
  rw [aO_1 w, r_1_2 w, aO_23 w, S6_isNone w a6 a7 hp, cI_some]
  rcases nw with _ | ⟨p, H, s⟩
  · rw [if_neg (by decide)]
    exact ⟨M, -1, rfl, Sm.rfl _ _ _, fun _ _ => rfl, hc, fun _ => rfl, fun _ _ _ q => by cases q⟩
  · obtain ⟨M1, E, R, d1, d2, d3, d4, d5, d6, d7, d8, d9⟩ := S11_costOfNow h' hc
    have bv : val 15 (eC E) (z15 (gTG P)) s H p ≤ FARN := val_far (fun x _ => by unfold z15; split <;> first | exact Nat.zero_le _ | exact Nat.le_refl _) H p (by have : p < pS P := a7.1; have := hp.1; omega)
    rw [if_pos (show bI (Option.isNone (some (p, H, s) : NW)) = 0 from rfl), aO_1 w, d1, cJ_some, S11_told bv, cJ_some]
    refine ⟨M1, _, rfl, d2, d3, ⟨.inr d4, ⟨E, R, d5, d6, d7, fun _ => d8⟩, ?_⟩, (fun q => by cases q), fun p' H' s' q => ?_⟩
    · rw [d2.j 41 (by decide)]
      exact hc.2.2
    · cases q
      exact ⟨E, R, d8, rfl⟩
end SETTLE
