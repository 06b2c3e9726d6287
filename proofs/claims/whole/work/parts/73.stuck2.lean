/-! WHERE IT GETS STUCK: both sides -/
theorem bI_or (a b : Bool) : bI a ||| bI b = bI (a || b) := by cases a <;> cases b <;> rfl
theorem any_out {f : Nat → Bool} {n : Nat} (h : ∀ k, k < n → f k = false) : (List.range n).any f = false := by
  rw [List.any_eq_false]
  intro k hk
  rw [h k (List.mem_range.mp hk)]
  decide
theorem any_in {f : Nat → Bool} {n k : Nat} (hk : k < n) (h : f k = true) : (List.range n).any f = true := List.any_eq_true.mpr ⟨k, List.mem_range.mpr hk, h⟩
theorem any_iff {f : Nat → Bool} {n : Nat} : (List.range n).any f = true ↔ ∃ k, k < n ∧ f k = true := by
  rw [List.any_eq_true]
  exact ⟨fun ⟨k, a, b⟩ => ⟨k, List.mem_range.mp a, b⟩, fun ⟨k, a, b⟩ => ⟨k, List.mem_range.mpr a, b⟩⟩
def stN (P : PG) (o : Nat) (V : Nat → Nat → Nat) : Nat := mnf (fun p => mnf (fun g => if hasFor P o p g = true then FARN else V p g) (pG P)) (pS P)
def stA (P : PG) (o : Nat) (nw : NW) (r : Int64) : Prop := (nw = none → r = -1) ∧ ∀ p H s, nw = some (p, H, s) → ∀ V, (∀ p' g', p' < pS P → g' < pG P → costN P o (hTG p' g') nw (V p' g')) → r = mjv (stN P o V)
section STU
variable {M : MM} {P : PG} {o : Nat} {nw : NW}
theorem LS7_hasFor {a : Nat} (w : Wl M) (h : PgC M a P) (hp : WP P) (ho : o < 2 ^ 31) {p g : Nat} (h3 : p < 2 ^ 31) (h4 : g < 2 ^ 31) : ∀ (d j : Nat), j + d = pR P → ∀ f, d < f → (∀ k, k < j → rfor P o k p g = false) → LP6 f7_hasRuleFor_b3_body f M a (nI p) (nI g) (nI o) (nI j) = some (bI (hasFor P o p g), M)
  | 0, j, hj, f + 1, _, hn => by
    have h14 := hp.2.2.1
    show f7_hasRuleFor_b3_body _ _ _ _ _ _ _ = _
    generalize LP6 f7_hasRuleFor_b3_body f = K
    unfold f7_hasRuleFor_b3_body hasFor
    rw [h.o w, h.r, if_pos (nI_le (by omega) (by omega)), any_out (fun k hk => hn k (by omega))]
    rfl
  | d + 1, j, hj, f + 1, hf, hn => by
    have h14 := hp.2.2.1
    have ih := LS7_hasFor w h hp ho h3 h4 d (j + 1) (by omega) f (by omega)
    show f7_hasRuleFor_b3_body _ _ _ _ _ _ _ = _
    generalize LP6 f7_hasRuleFor_b3_body f = K at ih ⊢
    unfold f7_hasRuleFor_b3_body
    rw [h.o w, h.r, if_neg (nI_ge (by omega) (by omega)), h.o w, S7_isFor w h hp (by omega) ho h3 h4, cI_some, nI_1]
    by_cases c : rfor P o j p g = true
    · rw [c, bI_t, if_neg (by decide)]
      unfold hasFor
      rw [any_in (k := j) (by omega) c]
      rfl
    · rw [Bool.not_eq_true] at c
      rw [c, bI_f, if_pos rfl]
      exact ih (fun k hk => by
        by_cases e : k = j
        · rw [e, c]
        · exact hn k (by omega))
theorem S7_hasRuleFor {a : Nat} (w : Wl M) (h : PgC M a P) (hp : WP P) (ho : o < 2 ^ 31) {p g : Nat} (h3 : p < 2 ^ 31) (h4 : g < 2 ^ 31) : f7_hasRuleFor M a (nI p) (nI g) (nI o) = some (bI (hasFor P o p g), M) :=
  LS7_hasFor w h hp ho h3 h4 (pR P) 0 (by omega) FU (FU_big (by have := hp.2.2.1; omega)) (fun k hk => absurd hk (Nat.not_lt_zero k))
theorem L11_stuck43 (h : CoC M P o nw) {E0 R : Nat → Nat} {S : Nat → Bool} {p : Nat} (hp : p < pS P) {K30 : MM → Nat → Int32 → Option (Int64 × MM)} : ∀ (d j : Nat), j + d = pG P → ∀ f, d < f →
    LP4 (f11_stuck_b43_body K30) f (tw M 37 (ES (fun i => S i || (List.range j).any (fun g => !hasFor P o p g && i == ix 15 p g 5)) E0) R) 1 (nI p) (nI j) = K30 (tw M 37 (ES (fun i => S i || (List.range (pG P)).any (fun g => !hasFor P o p g && i == ix 15 p g 5)) E0) R) 1 (nI (p + 1))
  | 0, j, hj, f + 1, _ => by
    obtain ⟨a1, b1, b2, b3⟩ := h.2.2.2.1
    have wt : ∀ {E R}, Wl (tw M 37 E R) := h.w
    have bt : ∀ {E R}, mR (tw M 37 E R) 1 10 = a1 := b1
    have pt : ∀ {E R}, PgC (tw M 37 E R) a1 P := b3
    have g6 := h.p.2.1
    have e : j = pG P := by omega
    subst e
    show f11_stuck_b43_body _ _ _ _ _ _ = _
    generalize LP4 (f11_stuck_b43_body K30) f = K
    unfold f11_stuck_b43_body
    rw [aO_1 wt, bt, pt.o wt, pt.g, if_pos (nI_le (Nat.le_refl _) (by omega)), nI_1]
  | d + 1, j, hj, f + 1, hf => by
    obtain ⟨a1, b1, b2, b3⟩ := h.2.2.2.1
    have wt : ∀ {E R}, Wl (tw M 37 E R) := h.w
    have bt : ∀ {E R}, mR (tw M 37 E R) 1 10 = a1 := b1
    have ot : ∀ {E R}, mI (tw M 37 E R) 1 12 = nI o := h.2.2.2.2.1
    have pt : ∀ {E R}, PgC (tw M 37 E R) a1 P := b3
    have g6 := h.p.2.1
    have p5 := h.p.1
    have ih := L11_stuck43 h (E0 := E0) (R := R) (S := S) hp (K30 := K30) d (j + 1) (by omega) f (by omega)
    rw [← ih]
    show f11_stuck_b43_body _ _ _ _ _ _ = _
    generalize LP4 (f11_stuck_b43_body K30) f = K
    unfold f11_stuck_b43_body f11_stuck_b79
    rw [aO_1 wt, bt, pt.o wt, pt.g, if_neg (nI_ge (by omega) (by omega)), aO_1 wt, aO_1 wt, pt.o wt, ot, S7_hasRuleFor wt pt h.p (o_lt h.lo) (by omega) (by omega), cI_some, nI_1]
    by_cases c : hasFor P o p j = true
    · rw [c, bI_t, if_neg (by decide)]
      congr 2
      congr 1
      funext i
      rw [any_succ, c]
      simp
    · rw [Bool.not_eq_true] at c
      rw [c, bI_f, if_pos rfl, aO_1 wt, r_1_6 wt, aO_37 wt, tw_head h.w (.inr rfl) (by omega) (by omega), cV_some]
      congr 2
      congr 1
      funext i
      rw [any_succ, c]
      simp [Bool.or_assoc]
def hdS (P : PG) (o p g : Nat) : Bool := decide (p < pS P) && decide (g < pG P) && !hasFor P o p g
theorem L11_stuck30 (h : CoC M P o nw) {E0 R : Nat → Nat} : ∀ (d j : Nat), j + d = pS P → ∀ f, d < f →
    ∃ f', f = f' + d ∧ LP3 f11_stuck_b30_body f (tw M 37 (ES (fun i => bs (pG P) i || (List.range j).any (fun p => (List.range (pG P)).any (fun g => !hasFor P o p g && i == ix 15 p g 5))) E0) R) 1 (nI j) = LP3 f11_stuck_b30_body f' (tw M 37 (ES (fun i => bs (pG P) i || (List.range (pS P)).any (fun p => (List.range (pG P)).any (fun g => !hasFor P o p g && i == ix 15 p g 5))) E0) R) 1 (nI (pS P))
  | 0, j, hj, f, _ => ⟨f, rfl, by rw [show j = pS P by omega]⟩
  | d + 1, j, hj, f + 1, hf => by
    obtain ⟨a1, b1, b2, b3⟩ := h.2.2.2.1
    have wt : ∀ {E R}, Wl (tw M 37 E R) := h.w
    have bt : ∀ {E R}, mR (tw M 37 E R) 1 10 = a1 := b1
    have pt : ∀ {E R}, PgC (tw M 37 E R) a1 P := b3
    have p5 := h.p.1
    obtain ⟨f', e1, e2⟩ := L11_stuck30 h (E0 := E0) (R := R) d (j + 1) (by omega) f (by omega)
    refine ⟨f', by omega, ?_⟩
    rw [← e2]
    show f11_stuck_b30_body _ _ _ _ = _
    have q := L11_stuck43 h (E0 := E0) (R := R) (S := fun i => bs (pG P) i || (List.range j).any (fun p => (List.range (pG P)).any (fun g => !hasFor P o p g && i == ix 15 p g 5))) (p := j) (by omega) (K30 := LP3 f11_stuck_b30_body f) (pG P) 0 (by omega) FU (FU_big (by have := h.p.2.1; omega))
    generalize LP3 f11_stuck_b30_body f = K at q ⊢
    unfold f11_stuck_b30_body f11_stuck_b43
    rw [aO_1 wt, bt, pt.o wt, pt.s, if_neg (nI_ge (by omega) (by omega))]
    refine Eq.trans ?_ (q.trans ?_)
    · rw [lit_0]
      congr 3
      funext i
      simp
    · congr 3
      funext i
      rw [any_succ, Bool.or_assoc]
theorem S11_stuck (h : CoC M P o nw) (hc : CostC M P o) : ∃ M' r, f11_stuck M 1 = some (r, M') ∧ Sm [1] [39, 41] M M' ∧ mI M' 1 = mI M 1 ∧ CoC M' P o nw ∧ CostC M' P o ∧ stA P o nw r := by
  have w := h.w
  have p5 := h.p.1
  have g6 := h.p.2.1
  obtain ⟨a1, b1, b2, b3⟩ := h.2.2.2.1
  unfold f11_stuck
  rw [aO_1 w, r_1_2 w, aO_23 w, S6_isNone w h.2.2.2.2.2.1 h.2.2.2.2.2.2 h.p, cI_some]
  rcases nw with _ | ⟨p0, H, s⟩
  · rw [if_neg (show ¬ bI (Option.isNone (none : NW)) = 0 by decide)]
    exact ⟨M, -1, rfl, Sm.rfl _ _ _, rfl, h, hc, fun _ => rfl, fun _ _ _ q => by cases q⟩
  · obtain ⟨E0, e0⟩ := lR_ex (mJ M 39)
    obtain ⟨R0, e1, bR⟩ := hc.2.2
    have st := S1_start w (a := 37) (.inr rfl) g6 E0 R0
    rw [tw_self (a := 37) e0 e1] at st
    have wt : ∀ {E R}, Wl (tw M 37 E R) := w
    have bt : ∀ {E R}, mR (tw M 37 E R) 1 10 = a1 := b1
    have ot : ∀ {E R}, mI (tw M 37 E R) 1 12 = nI o := h.2.2.2.2.1
    have pt : ∀ {E R}, PgC (tw M 37 E R) a1 P := b3
    have hS : (fun i => bs (pG P) i || (List.range (pS P)).any (fun p => (List.range (pG P)).any (fun g => !hasFor P o p g && i == ix 15 p g 5))) = sU (pG P) (hdS P o) := by
      funext i
      refine Bool.eq_iff_iff.mpr ?_
      rw [sU_iff, Bool.or_eq_true, any_iff]
      constructor
      · rintro (q | ⟨p, hp, q⟩)
        · exact .inl q
        · obtain ⟨g, hg, q⟩ := any_iff.mp q
          rw [Bool.and_eq_true] at q
          exact .inr ⟨p, g, by omega, by omega, by unfold hdS; rw [decide_eq_true hp, decide_eq_true hg, q.1]; rfl, by simpa using q.2⟩
      · rintro (q | ⟨p, g, hp, hg, q1, q2⟩)
        · exact .inl q
        · unfold hdS at q1
          rw [Bool.and_eq_true, Bool.and_eq_true] at q1
          exact .inr ⟨p, of_decide_eq_true q1.1.1, any_iff.mpr ⟨g, of_decide_eq_true q1.1.2, by rw [q1.2, q2]; simp⟩⟩
    obtain ⟨f', ef, q⟩ := L11_stuck30 h (E0 := E0) (R := ER (fun i => i == 5 || i == 6) R0) (pS P) 0 (by omega) FU (FU_big (by omega))
    obtain ⟨E, R', d1, d2, d3, d4, d5, d6⟩ := S11_oth h b3 (o_lt h.lo) (sU (pG P) (hdS P o)) E0 (ER (fun i => i == 5 || i == 6) R0) (fun x => if x = 5 ∨ x = 6 then 0 else FARN) (ER_bd bR) (fun x hx => by
      unfold ER
      rw [if_pos hx]
      simp)
    have bv : val 15 (eC E) (fun x => if x = 5 ∨ x = 6 then 0 else FARN) s H p0 ≤ FARN := val_far (fun x _ => by show (if x = 5 ∨ x = 6 then 0 else FARN) ≤ FARN; split <;> first | exact Nat.zero_le _ | exact Nat.le_refl _) H p0 (by have : p0 < pS P := h.2.2.2.2.2.2.1; omega)
    have hf' : ∃ f'', f' = f'' + 1 := by
      rcases f' with _ | f''
      · exfalso
        have : (8 : Nat) < FU := FU_big (by omega)
        omega
      · exact ⟨f'', rfl⟩
    obtain ⟨f'', rfl⟩ := hf'
    refine ⟨tw M 37 E R', mjv (val 15 (eC E) (fun x => if x = 5 ∨ x = 6 then 0 else FARN) s H p0), ?_, (tw_sm (a := 37)).more (by decide) (by decide), rfl, tw_C h, hc.ot d3, (fun z => by cases z), fun p H' s' z V hV => ?_⟩
    rotate_left
    · cases z
      -- the least of all
      have hL : ∀ p g, ∃ L : Nat → Nat, ∃ R, Std P o (hTG p g) L R := fun p g => Std_ex h.p o (hTG p g)
      let L : Nat → Nat → Nat → Nat := fun p g => (hL p g).choose
      have hLs : ∀ p g, ∃ R, Std P o (hTG p g) (L p g) R := fun p g => (hL p g).choose_spec
      have DD : ∀ (S : Nat → Bool), (∀ i, S i = true → bs (pG P) i = true ∨ ∃ p g, p < 5 ∧ g < 6 ∧ i = ix 15 p g 5) → (∀ i, bs (pG P) i = true → S i = true) → ∀ y g x, 5 ≤ y → y < 15 → g < 6 → x < 15 → S (ix 15 y g x) = Db (pG P) y g x := fun S h1 h2 y g x hy hy2 hg hx => by
        refine Bool.eq_iff_iff.mpr ⟨fun k => ?_, h2 _⟩
        rcases h1 _ k with k | ⟨p', g', k1, k2, k3⟩
        · exact k
        · have := (ix_inj5 hg hx k2 (by omega) k3).1
          omega
      have sU1 : ∀ i, sU (pG P) (hdS P o) i = true → bs (pG P) i = true ∨ ∃ p g, p < 5 ∧ g < 6 ∧ i = ix 15 p g 5 := fun i k => by
        rcases sU_iff.mp k with k | ⟨p, g, k1, k2, -, k3⟩
        · exact .inl k
        · exact .inr ⟨p, g, k1, k2, k3⟩
      have hT1 : ∀ p g, p < 5 → g < 6 → ∀ i, (bs (pG P) i || i == ix 15 p g 5) = true → bs (pG P) i = true ∨ ∃ p g, p < 5 ∧ g < 6 ∧ i = ix 15 p g 5 := fun p g hp hg i k => by
        rw [Bool.or_eq_true] at k
        rcases k with k | k
        · exact .inl k
        · exact .inr ⟨p, g, hp, hg, by simpa using k⟩
      have gU : GB P o (sU (pG P) (hdS P o)) E := GC_D h.p (DD _ sU1 (fun i k => sU_iff.mpr (.inl k))) d5
      have eU : DeE (Db (pG P)) E := fun y g x h5 hy hg hx => by
        rw [d6 y g x h5 hy hg hx, ← DD _ sU1 (fun i k => sU_iff.mpr (.inl k)) y g x h5 hy hg hx]
      have gL : ∀ p g, p < 5 → g < 6 → hdS P o p g = true → GB P o (fun i => bs (pG P) i || i == ix 15 p g 5) (L p g) := fun p g hp hg _ => by
        obtain ⟨R2, k⟩ := hLs p g
        have k2 := k.2.1
        rw [allS_h] at k2
        refine GC_D h.p (fun y g' x a b c d => ?_) k2
        rw [← DD _ (hT1 p g hp hg) (fun i q => by rw [q]; rfl) y g' x a b c d]
        unfold D15
        rw [allS_h]
      have eL : ∀ p g, p < 5 → g < 6 → hdS P o p g = true → DeE (Db (pG P)) (L p g) := fun p g hp hg _ y g' x h5 hy hg' hx => by
        obtain ⟨R2, k⟩ := hLs p g
        rw [k.2.2.1 y g' x h5 hy hg' hx, ← DD _ (hT1 p g hp hg) (fun i q => by rw [q]; rfl) y g' x h5 hy hg' hx]
        unfold D15
        rw [allS_h]
      have n1 := h.2.2.2.2.2.2
      obtain ⟨m1, m2, m3⟩ := n1
      have mp : p0 < pS P := m1
      obtain ⟨i1, i2, i3⟩ := stuck_val h.p gU eU gL eL (z := fun x => if x = 5 ∨ x = 6 then 0 else FARN) (fun x => rfl) (s := s) H (fun i hi => Nat.lt_of_lt_of_le (m3 i hi) g6)
      have eV : ∀ p g, p < pS P → g < pG P → V p g = val 15 (eC (L p g)) (fun x => if x = 5 ∨ x = 6 then 0 else FARN) s H p0 := fun p g hp hg => by
        obtain ⟨R2, k⟩ := hLs p g
        rw [(hV p g hp hg).2.1 (L p g) R2 k]
        refine val_congr H (fun _ _ => rfl) (fun _ _ _ _ _ _ => rfl) (fun x _ => ?_) p0 (by omega)
        unfold z15
        rw [endS_h]
        simp
      have : val 15 (eC E) (fun x => if x = 5 ∨ x = 6 then 0 else FARN) s H p0 = stN P o V := by
        refine Nat.le_antisymm (mnf_ge _ bv (fun p hp => mnf_ge _ bv (fun g hg => ?_))) ?_
        · by_cases c : hasFor P o p g = true
          · rw [if_pos c]
            exact bv
          · rw [if_neg c, eV p g hp hg]
            rw [Bool.not_eq_true] at c
            exact i1 p g (by omega) (by omega) (by unfold hdS; rw [decide_eq_true hp, decide_eq_true hg, c]; rfl) p0 (by omega)
        · rcases i3 p0 (by omega) with q | ⟨p, g, k1, k2, k3, k4⟩
          · rw [q]
            exact mnf_far _ _
          · unfold hdS at k3
            rw [Bool.and_eq_true, Bool.and_eq_true] at k3
            have hp := of_decide_eq_true k3.1.1
            have hg := of_decide_eq_true k3.1.2
            have c : ¬ hasFor P o p g = true := by
              have := k3.2
              intro z
              rw [z] at this
              cases this
            refine Nat.le_trans (Nat.le_trans (mnf_le _ _ p hp) (mnf_le _ _ g hg)) ?_
            rw [if_neg c, eV p g hp hg]
            exact k4
      exact congrArg mjv this
    · rw [if_pos (show bI (Option.isNone (some (p0, H, s) : NW)) = 0 from rfl), aO_1 w, aO_1 w, b1, b3.o w, r_1_6 w, aO_37 w, b3.g, st, cV_some]
      have q' : f11_stuck_b30 (tw M 37 (ES (fun i => (List.range (pG P)).any (fun g => i == ix 15 5 g 5)) E0) (ER (fun i => i == 5 || i == 6) R0)) 1 0 = LP3 f11_stuck_b30_body (f'' + 1) (tw M 37 (ES (sU (pG P) (hdS P o)) E0) (ER (fun i => i == 5 || i == 6) R0)) 1 (nI (pS P)) := by
        rw [← hS, ← q]
        unfold f11_stuck_b30
        rw [lit_0]
        congr 3
        funext i
        simp
        rfl
      rw [q']
      show f11_stuck_b30_body _ _ _ _ = _
      generalize LP3 f11_stuck_b30_body f'' = K
      unfold f11_stuck_b30_body
      rw [aO_1 wt, bt, pt.o wt, pt.s, if_pos (nI_le (Nat.le_refl _) (by omega)), aO_1 wt, aO_1 wt, aO_1 wt, r_1_6 wt, aO_37 wt, ot, d1, cV_some, aO_1 wt, aO_1 wt, r_1_6 wt, aO_37 wt, r_1_2 wt, d2, cJ_some, S11_told bv, cJ_some]
end STU
