/-! RISES OF HEADS; WHICH HEADS LAST -/
def sucB (P : PG) (cn : Nat → Nat → Nat → Bool) (r h : Nat) : Bool := (decide (1 ≤ rn P r) && h == 6 * rt P r + ra P r) || (decide (rn P r = 2) && (List.range (pS P)).any fun q => cn (rt P r) (ra P r) q && h == 6 * q + rb P r)
def edB (P : PG) (o : Nat) (cn : Nat → Nat → Nat → Bool) (a b : Nat) : Bool := (List.range (pR P)).any fun r => (rin P o r && decide (hdR P r = a)) && sucB P cn r b
/-- the greatest set of heads each of which leads to one of them -/
def LsA (P : PG) (o : Nat) (cn : Nat → Nat → Nat → Bool) (l : Nat → Bool) : Prop := (∀ h, h < 30 → l h = true → ∃ h', h' < 30 ∧ edB P o cn h h' = true ∧ l h' = true) ∧ ∀ X : Nat → Bool, (∀ h, h < 30 → X h = true → ∃ h', h' < 30 ∧ edB P o cn h h' = true ∧ X h' = true) → ∀ h, h < 30 → X h = true → l h = true
theorem LsA_eq {P : PG} {o : Nat} {cn : Nat → Nat → Nat → Bool} {l l' : Nat → Bool} (a : LsA P o cn l) (b : LsA P o cn l') : ∀ h, h < 30 → l h = l' h := fun h hh => Bool.eq_iff_iff.mpr ⟨fun q => b.2 l a.1 h hh q, fun q => a.2 l' b.1 h hh q⟩
section LASTS
variable {P : PG} {o a1 : Nat} {cn : Nat → Nat → Nat → Bool}
theorem sucB_lt (hp : WP P) {r h : Nat} (hr : r < pR P) (hs : sucB P cn r h = true) : h < 30 := by
  have t5 := hp.t5 hr
  have p5 := hp.1
  unfold sucB at hs
  rw [Bool.or_eq_true, Bool.and_eq_true, Bool.and_eq_true] at hs
  rcases hs with ⟨q1, q2⟩ | ⟨q1, q2⟩
  · have := hp.a6 hr (of_decide_eq_true q1)
    have q2 : h = 6 * rt P r + ra P r := by simpa using q2
    omega
  · have := hp.b6 hr (by have := of_decide_eq_true q1; omega)
    obtain ⟨q, hq, q2⟩ := any_iff.mp q2
    rw [Bool.and_eq_true] at q2
    have q2 : h = 6 * q + rb P r := by simpa using q2.2
    omega
/-- whether a rule leads to one of a set, states below j -/
def gtB (P : PG) (cn : Nat → Nat → Nat → Bool) (l : Nat → Bool) (r j : Nat) : Bool := (decide (1 ≤ rn P r) && l (6 * rt P r + ra P r)) || (decide (rn P r = 2) && (List.range j).any fun q => cn (rt P r) (ra P r) q && l (6 * q + rb P r))
theorem gtB_iff {l : Nat → Bool} {r : Nat} : gtB P cn l r (pS P) = true ↔ ∃ h, sucB P cn r h = true ∧ l h = true := by
  unfold gtB sucB
  constructor
  · intro q
    rw [Bool.or_eq_true, Bool.and_eq_true, Bool.and_eq_true] at q
    rcases q with ⟨q1, q2⟩ | ⟨q1, q2⟩
    · exact ⟨_, by rw [q1]; simp, q2⟩
    · obtain ⟨k, hk, q2⟩ := any_iff.mp q2
      rw [Bool.and_eq_true] at q2
      refine ⟨_, ?_, q2.2⟩
      rw [q1, Bool.true_and, any_in hk (by rw [q2.1]; simp), Bool.or_true]
  · rintro ⟨h, q, hl⟩
    rw [Bool.or_eq_true, Bool.and_eq_true, Bool.and_eq_true] at q
    rw [Bool.or_eq_true, Bool.and_eq_true, Bool.and_eq_true]
    rcases q with ⟨q1, q2⟩ | ⟨q1, q2⟩
    · have q2 : h = 6 * rt P r + ra P r := by simpa using q2
      rw [← q2]
      exact .inl ⟨q1, hl⟩
    · obtain ⟨k, hk, q2⟩ := any_iff.mp q2
      rw [Bool.and_eq_true] at q2
      have q3 : h = 6 * k + rb P r := by simpa using q2.2
      exact .inr ⟨q1, any_in hk (by rw [q2.1, ← q3, hl]; rfl)⟩
def bR (n : Nat) (l : Nat → Bool) (g : Nat → Int32) : Nat → Int32 := fun i => if i < n then bI (l i) else g i
theorem bR_at {n k : Nat} {l : Nat → Bool} {g : Nat → Int32} (hk : k < n) : bR n l g k = bI (l k) := if_pos hk
theorem bR_upx {n k : Nat} {v : Bool} {c : Nat → Bool} {g : Nat → Int32} (hk : k < n) : upx (bR n c g) k (bI v) = bR n (upx c k v) g := by
  funext i
  rw [upx_e]
  unfold bR
  rw [upx_e]
  by_cases q : i = k
  · rw [if_pos q, if_pos (by omega), if_pos q]
  · rw [if_neg q, if_neg q]
theorem L2_goes {M : MM} {l : Nat → Bool} {g : Nat → Int32} (hd : HdC M a1 P o cn) (hp : WP P) (hr52 : mI M 52 = bR 30 l g) {r : Nat} (hr : r < pR P) : ∀ (d j : Nat), j + d = pS P → ∀ f, d < f → gtB P cn l r j = false → LP4 f2_goesOnToLasting_b2_body f M 48 (nI r) (nI j) = some (bI (gtB P cn l r (pS P)), M)
  | 0, j, hj, f + 1, _, hn => by
    obtain ⟨w, h1, h2, h3, -⟩ := id hd
    have p5 := hp.1
    rw [show j = pS P by omega] at hn ⊢
    rw [hn]
    show f2_goesOnToLasting_b2_body _ _ _ _ _ = _
    generalize LP4 f2_goesOnToLasting_b2_body f = K
    unfold f2_goesOnToLasting_b2_body
    rw [aO_48 w, h1, h2.o w, h2.s, if_pos (nI_le (by omega) (by omega))]
    rfl
  | d + 1, j, hj, f + 1, hf, hn => by
    obtain ⟨w, h1, h2, h3, -⟩ := id hd
    have p5 := hp.1
    have ih := L2_goes hd hp hr52 hr d (j + 1) (by omega) f (by omega)
    show f2_goesOnToLasting_b2_body _ _ _ _ _ = _
    generalize LP4 f2_goesOnToLasting_b2_body f = K at ih ⊢
    unfold f2_goesOnToLasting_b2_body f2_goesOnToLasting_b39
    rw [aO_48 w, h1, h2.o w, h2.s, if_neg (nI_ge (by omega) (by omega)), aO_48 w, S2_beh hd hp hr (by omega), cI_some, nI_1]
    have hn' := hn
    unfold gtB at hn'
    rw [Bool.or_eq_false_iff, Bool.and_eq_false_iff, Bool.and_eq_false_iff] at hn'
    by_cases c : rn P r = 2 ∧ cn (rt P r) (ra P r) j = true
    · have b6 := hp.b6 hr (by omega)
      rw [if_pos c, if_neg (nI_neM (by omega)), aO_48 w, r_48_1 w, aO_51 w, g_51 w, cI_some, gI_in (by omega) (by omega), hr52, bR_at (by omega)]
      simp only [bI_1]
      by_cases q : l (6 * j + rb P r) = true
      · rw [if_pos q]
        have : gtB P cn l r (pS P) = true := by
          unfold gtB
          rw [decide_eq_true c.1, Bool.true_and, any_in (k := j) (by omega) (by rw [c.2, q]; rfl), Bool.or_true]
        rw [this]
        rfl
      · rw [if_neg q]
        refine ih ?_
        rw [Bool.not_eq_true] at q
        unfold gtB
        rw [any_succ, q, Bool.and_false, Bool.or_false]
        exact hn
    · rw [if_neg c, if_pos rfl]
      refine ih ?_
      unfold gtB
      by_cases c2 : rn P r = 2
      · have : cn (rt P r) (ra P r) j = false := by
          rw [← Bool.not_eq_true]
          exact fun z => c ⟨c2, z⟩
        rw [any_succ, this, Bool.false_and, Bool.or_false]
        exact hn
      · rw [decide_eq_false c2, Bool.false_and, Bool.or_false]
        rcases hn'.1 with z | z <;> rw [z]
        · rw [Bool.false_and]
        · rw [Bool.and_false]
theorem S2_goes {M : MM} {l : Nat → Bool} {g : Nat → Int32} (hd : HdC M a1 P o cn) (hp : WP P) (hr52 : mI M 52 = bR 30 l g) {r : Nat} (hr : r < pR P) : f2_goesOnToLasting M 48 (nI r) = some (bI (gtB P cn l r (pS P)), M) := by
  obtain ⟨w, h1, h2, h3, -⟩ := id hd
  have p5 := hp.1
  have t5 := hp.t5 hr
  obtain ⟨n, hn⟩ : ∃ n, FU = n + 1 := ⟨FU - 1, by have : (8 : Nat) < FU := FU_big (by omega); omega⟩
  have q := L2_goes hd hp hr52 hr (pS P) 0 (by omega) n (by have : (8 : Nat) < FU := FU_big (by omega); omega)
  unfold f2_goesOnToLasting f2_goesOnToLasting_b2
  rw [hn, LP4_s]
  generalize LP4 f2_goesOnToLasting_b2_body n = K at q ⊢
  unfold f2_goesOnToLasting_b2_body f2_goesOnToLasting_b39
  rw [aO_48 w, h1, h2.o w, h2.s, if_neg (show ¬ nI (pS P) ≤ -1 from nI_leM (by omega)), aO_48 w, S2_behTop hd hp hr, cI_some, nI_M1]
  by_cases c0 : rn P r = 0
  · rw [if_pos c0, if_pos rfl]
    refine q ?_
    unfold gtB
    rw [decide_eq_false (show ¬ 1 ≤ rn P r by omega), decide_eq_false (show ¬ rn P r = 2 by omega)]
    rfl
  · have a6 := hp.a6 hr (by omega)
    rw [if_neg c0, if_neg (nI_neM (by omega)), aO_48 w, r_48_1 w, aO_51 w, g_51 w, cI_some, gI_in (by omega) (by omega), hr52, bR_at (by omega)]
    simp only [bI_1]
    by_cases z : l (6 * rt P r + ra P r) = true
    · rw [if_pos z]
      have : gtB P cn l r (pS P) = true := by
        unfold gtB
        rw [decide_eq_true (show 1 ≤ rn P r by omega), z]
        rfl
      rw [this]
      rfl
    · rw [if_neg z]
      refine q ?_
      rw [Bool.not_eq_true] at z
      unfold gtB
      rw [z, Bool.and_false, Bool.false_or]
      simp
/-- whether a head leads to one of a set, by rules below j -/
def ldB (P : PG) (o : Nat) (cn : Nat → Nat → Nat → Bool) (l : Nat → Bool) (h j : Nat) : Bool := (List.range j).any fun r => (rin P o r && decide (hdR P r = h)) && gtB P cn l r (pS P)
theorem ldB_iff (hp : WP P) {l : Nat → Bool} {h : Nat} : ldB P o cn l h (pR P) = true ↔ ∃ h', h' < 30 ∧ edB P o cn h h' = true ∧ l h' = true := by
  unfold ldB edB
  rw [any_iff]
  constructor
  · rintro ⟨r, hr, q⟩
    rw [Bool.and_eq_true] at q
    obtain ⟨h', q1, q2⟩ := gtB_iff.mp q.2
    exact ⟨h', sucB_lt hp hr q1, any_in hr (by rw [q.1, q1]; rfl), q2⟩
  · rintro ⟨h', h30, q, hl⟩
    obtain ⟨r, hr, q⟩ := any_iff.mp q
    rw [Bool.and_eq_true] at q
    exact ⟨r, hr, by rw [q.1, gtB_iff.mpr ⟨h', q.2, hl⟩]; rfl⟩
theorem L2_leads {M : MM} {l : Nat → Bool} {g : Nat → Int32} (hd : HdC M a1 P o cn) (hp : WP P) (ho : o < 2 ^ 31) (hr52 : mI M 52 = bR 30 l g) {h : Nat} (hh : h < 30) : ∀ (d j : Nat), j + d = pR P → ∀ f, d < f → ldB P o cn l h j = false → LP4 f2_leadsToLasting_b2_body f M 48 (nI h) (nI j) = some (bI (ldB P o cn l h (pR P)), M)
  | 0, j, hj, f + 1, _, hn => by
    obtain ⟨w, h1, h2, h3, -⟩ := id hd
    have h14 := hp.2.2.1
    rw [show j = pR P by omega] at hn ⊢
    rw [hn]
    show f2_leadsToLasting_b2_body _ _ _ _ _ = _
    generalize LP4 f2_leadsToLasting_b2_body f = K
    unfold f2_leadsToLasting_b2_body
    rw [aO_48 w, h1, h2.o w, h2.r, if_pos (nI_le (by omega) (by omega))]
    rfl
  | d + 1, j, hj, f + 1, hf, hn => by
    obtain ⟨w, h1, h2, h3, -⟩ := id hd
    have h14 := hp.2.2.1
    have hjl : j < pR P := by omega
    have hl := hd_lt hp hjl
    have ih := L2_leads hd hp ho hr52 hh d (j + 1) (by omega) f (by omega)
    show f2_leadsToLasting_b2_body _ _ _ _ _ = _
    generalize LP4 f2_leadsToLasting_b2_body f = K at ih ⊢
    have go : ((rin P o j && decide (hdR P j = h)) && gtB P cn l j (pS P)) = false → K M 48 (nI h) (nI (j + 1)) = some (bI (ldB P o cn l h (pR P)), M) := fun q => ih (by
      unfold ldB
      rw [any_succ, q, Bool.or_false]
      exact hn)
    unfold f2_leadsToLasting_b2_body f2_leadsToLasting_b47
    rw [aO_48 w, h1, h2.o w, h2.r, if_neg (nI_ge (by omega) (by omega)), aO_48 w, aO_48 w, h2.o w, h3, S7_isIn w h2 hp (by omega) ho, cI_some, nI_1]
    by_cases ci : rin P o j = true
    · rw [ci, bI_t, if_neg (by decide), aO_48 w, S2_headOfRule hd hp hjl, cI_some]
      simp only [c_eq (show hdR P j < 2 ^ 31 by omega) (show h < 2 ^ 31 by omega)]
      by_cases ch : hdR P j = h
      · rw [if_pos ch, aO_48 w, S2_goes hd hp hr52 hjl, cI_some]
        by_cases cg : gtB P cn l j (pS P) = true
        · rw [cg, bI_t, if_neg (by decide)]
          have : ldB P o cn l h (pR P) = true := by
            unfold ldB
            exact any_in hjl (by rw [ci, decide_eq_true ch, cg]; rfl)
          rw [this]
          rfl
        · rw [Bool.not_eq_true] at cg
          rw [cg, bI_f, if_pos rfl]
          exact go (by rw [cg, Bool.and_false])
      · rw [if_neg ch]
        exact go (by rw [decide_eq_false ch, Bool.and_false, Bool.false_and])
    · rw [Bool.not_eq_true] at ci
      rw [ci, bI_f, if_pos rfl]
      exact go (by rw [ci, Bool.false_and, Bool.false_and])
/-- what holds of the set while heads are taken out -/
def LsI (P : PG) (o : Nat) (cn : Nat → Nat → Nat → Bool) (l : Nat → Bool) : Prop := ∀ X : Nat → Bool, (∀ h, h < 30 → X h = true → ∃ h', h' < 30 ∧ edB P o cn h h' = true ∧ X h' = true) → ∀ h, h < 30 → X h = true → l h = true
def cntB (l : Nat → Bool) : Nat → Nat
  | 0 => 0
  | k + 1 => cntB l k + (if l k = true then 1 else 0)
theorem cntB_le (l : Nat → Bool) : ∀ k, cntB l k ≤ k
  | 0 => Nat.le_refl _
  | k + 1 => by
    have := cntB_le l k
    show cntB l k + _ ≤ k + 1
    split <;> omega
theorem cntB_mono {l l' : Nat → Bool} : ∀ k, (∀ h, h < k → l' h = true → l h = true) → cntB l' k ≤ cntB l k
  | 0, _ => Nat.le_refl _
  | k + 1, h => by
    have := cntB_mono k (fun i hi => h i (by omega))
    have hk := h k (by omega)
    show cntB l' k + (if l' k = true then 1 else 0) ≤ cntB l k + (if l k = true then 1 else 0)
    by_cases q : l' k = true
    · rw [if_pos q, if_pos (hk q)]
      omega
    · rw [if_neg q]
      omega
theorem cntB_lt {l l' : Nat → Bool} : ∀ k, (∀ h, h < k → l' h = true → l h = true) → (∃ h, h < k ∧ l h = true ∧ l' h = false) → cntB l' k < cntB l k
  | 0, _, ⟨h, hh, _⟩ => absurd hh (Nat.not_lt_zero h)
  | k + 1, h, ⟨i, hi, q1, q2⟩ => by
    have h0 := cntB_mono k (fun i hi => h i (by omega))
    have hk := h k (by omega)
    show cntB l' k + (if l' k = true then 1 else 0) < cntB l k + (if l k = true then 1 else 0)
    by_cases e : i = k
    · rw [e] at q1 q2
      rw [if_pos q1, if_neg (by rw [q2]; decide)]
      omega
    · have := cntB_lt k (fun i hi => h i (by omega)) ⟨i, by omega, q1, q2⟩
      by_cases q : l' k = true
      · rw [if_pos q, if_pos (hk q)]
        omega
      · rw [if_neg q]
        omega
theorem L2_last26 {M : MM} {g : Nat → Int32} (hd : HdC M a1 P o cn) (hp : WP P) (ho : o < 2 ^ 31) (rnd : Nat) : ∀ (d j : Nat), j + d = 30 → ∀ f, d < f → ∀ (l : Nat → Bool) (ch : Bool), LsI P o cn l →
    ∃ l' ch', (∀ K12, LP5 (f2_findLasting_b26_body K12) f (uI M 52 (bR 30 l g)) 48 (bI ch) (nI rnd) (nI j) = K12 (uI M 52 (bR 30 l' g)) 48 (bI ch') (nI (rnd + 1))) ∧ LsI P o cn l' ∧ (∀ h, l' h = true → l h = true) ∧
      (ch' = false → ch = false ∧ l' = l ∧ ∀ h, j ≤ h → h < 30 → l h = true → ldB P o cn l h (pR P) = true) ∧ (ch' = true → ch = true ∨ ∃ h, h < 30 ∧ l h = true ∧ l' h = false)
  | 0, j, hj, f + 1, _, l, ch, hi => by
    refine ⟨l, ch, fun K12 => ?_, hi, fun _ q => q, fun q => ⟨q, rfl, fun h a b => by omega⟩, fun q => .inl q⟩
    show f2_findLasting_b26_body _ _ _ _ _ _ _ = _
    generalize LP5 (f2_findLasting_b26_body K12) f = K
    unfold f2_findLasting_b26_body
    rw [lit_30, if_pos (nI_le (by omega) (by omega)), nI_1]
  | d + 1, j, hj, f + 1, hf, l, ch, hi => by
    have hdr := hd.r 52 (bR 30 l g) (by decide)
    obtain ⟨w, h1, h2, h3, -⟩ := id hdr
    have row : mI (uI M 52 (bR 30 l g)) 52 = bR 30 l g := by rw [mI_uI, if_pos rfl]
    have q := L2_leads hdr hp ho row (show j < 30 by omega) (pR P) 0 (by omega) FU (FU_big (by have := hp.2.2.1; omega)) rfl
    have q' : f2_leadsToLasting (uI M 52 (bR 30 l g)) 48 (nI j) = some (bI (ldB P o cn l j (pR P)), uI M 52 (bR 30 l g)) := q
    have head : ∀ K12, LP5 (f2_findLasting_b26_body K12) (f + 1) (uI M 52 (bR 30 l g)) 48 (bI ch) (nI rnd) (nI j) = if l j = true ∧ ldB P o cn l j (pR P) = false then LP5 (f2_findLasting_b26_body K12) f (uI M 52 (bR 30 (upx l j false) g)) 48 (bI true) (nI rnd) (nI (j + 1)) else LP5 (f2_findLasting_b26_body K12) f (uI M 52 (bR 30 l g)) 48 (bI ch) (nI rnd) (nI (j + 1)) := fun K12 => by
      show f2_findLasting_b26_body _ _ _ _ _ _ _ = _
      generalize LP5 (f2_findLasting_b26_body K12) f = K
      unfold f2_findLasting_b26_body f2_findLasting_b63
      rw [lit_30, if_neg (nI_ge (by omega) (by omega)), aO_48 w, r_48_1 w, aO_51 w, g_51 w, cI_some, gI_in (by omega) (by omega), row, bR_at (by omega), aO_48 w, q', cI_some, aO_48 w, r_48_1 w, aO_51 w, s_51 w, cV_some, pI_in (by omega) (by omega), row, uI_uI, nI_1]
      simp only [bI_1, bI_0]
      by_cases c1 : l j = true
      · rw [if_pos c1]
        by_cases c2 : ldB P o cn l j (pR P) = false
        · rw [if_pos c2, if_pos ⟨c1, c2⟩, ← bI_f, bR_upx (by omega)]
          rfl
        · rw [if_neg c2, if_neg (fun z => c2 z.2)]
      · rw [if_neg c1, if_neg (fun z => c1 z.1)]
    by_cases c : l j = true ∧ ldB P o cn l j (pR P) = false
    · have hi' : LsI P o cn (upx l j false) := fun X hX h hh hx => by
        rw [upx_e]
        by_cases e : h = j
        · exfalso
          obtain ⟨h', a, b, e'⟩ := hX h hh hx
          have := (ldB_iff (o := o) (cn := cn) (l := l) (h := j) hp).mpr ⟨h', a, by rw [← e]; exact b, hi X hX h' a e'⟩
          rw [c.2] at this
          cases this
        · rw [if_neg e]
          exact hi X hX h hh hx
      obtain ⟨l', ch', i1, i2, i3, i4, i5⟩ := L2_last26 (g := g) hd hp ho rnd d (j + 1) (by omega) f (by omega) (upx l j false) true hi'
      have le : ∀ h, upx l j false h = true → l h = true := fun h z => by
        rw [upx_e] at z
        split at z
        · cases z
        · exact z
      refine ⟨l', ch', fun K12 => by rw [head, if_pos c, i1], i2, fun h z => le h (i3 h z), fun z => ?_, fun z => .inr ⟨j, by omega, c.1, ?_⟩⟩
      · have := (i4 z).1
        cases this
      · rw [← Bool.not_eq_true]
        intro z2
        have := i3 j z2
        rw [upx_e, if_pos rfl] at this
        cases this
    · obtain ⟨l', ch', i1, i2, i3, i4, i5⟩ := L2_last26 (g := g) hd hp ho rnd d (j + 1) (by omega) f (by omega) l ch hi
      refine ⟨l', ch', fun K12 => by rw [head, if_neg c, i1], i2, i3, fun z => ?_, i5⟩
      obtain ⟨z1, z2, z3⟩ := i4 z
      refine ⟨z1, z2, fun h a b hl => ?_⟩
      by_cases e : h = j
      · rw [e] at hl ⊢
        rw [← Bool.not_eq_false]
        exact fun z => c ⟨hl, z⟩
      · exact z3 h (by omega) b hl
theorem last0 (M : MM) (x : Int32) (n : Nat) : LP4 f2_findLasting_b12_body (n + 1) M 48 (bI false) x = some M := by
  rw [LP4_s]
  generalize LP4 f2_findLasting_b12_body n = K
  unfold f2_findLasting_b12_body
  rw [bI_f, if_pos rfl]
theorem L2_last12 {M : MM} {g : Nat → Int32} (hd : HdC M a1 P o cn) (hp : WP P) (ho : o < 2 ^ 31) : ∀ (d k : Nat) (l : Nat → Bool), LsI P o cn l → cntB l 30 ≤ d → k + d ≤ 30 → ∀ fu, d + 1 < fu → ∃ l', LP4 f2_findLasting_b12_body fu (uI M 52 (bR 30 l g)) 48 (bI true) (nI k) = some (uI M 52 (bR 30 l' g)) ∧ LsA P o cn l' := by
  intro d
  induction d with
  | zero =>
    intro k l hi hc hk fu hfu
    obtain ⟨f', rfl⟩ : ∃ q, fu = q + 1 + 1 := ⟨fu - 2, by omega⟩
    obtain ⟨l', ch', i1, i2, i3, i4, i5⟩ := L2_last26 (g := g) hd hp ho k 30 0 (by omega) FU (FU_big (by omega)) l false hi
    have hch : ch' = false := by
      rw [← Bool.not_eq_true]
      intro z
      rcases i5 z with z | z
      · cases z
      · have := cntB_lt 30 (fun h _ => i3 h) z
        omega
    obtain ⟨-, z2, z3⟩ := i4 hch
    refine ⟨l, ?_, fun h hh hl => (ldB_iff hp).mp (z3 h (Nat.zero_le _) hh hl), hi⟩
    have z := i1 (LP4 f2_findLasting_b12_body (f' + 1))
    rw [hch, z2, last0] at z
    rw [bI_f, ← lit_0] at z
    rw [LP4_s]
    generalize LP4 f2_findLasting_b12_body (f' + 1) = K at z ⊢
    unfold f2_findLasting_b12_body f2_findLasting_b26
    rw [bI_t, if_neg (by decide), lit_30, if_neg (by rw [c_lt (by omega) (by omega)]; omega)]
    exact z
  | succ d ih =>
    intro k l hi hc hk fu hfu
    obtain ⟨f', rfl⟩ : ∃ q, fu = q + 1 + 1 := ⟨fu - 2, by omega⟩
    obtain ⟨l', ch', i1, i2, i3, i4, i5⟩ := L2_last26 (g := g) hd hp ho k 30 0 (by omega) FU (FU_big (by omega)) l false hi
    have z := i1 (LP4 f2_findLasting_b12_body (f' + 1))
    rw [bI_f, ← lit_0] at z
    have head : LP4 f2_findLasting_b12_body (f' + 1 + 1) (uI M 52 (bR 30 l g)) 48 (bI true) (nI k) = LP4 f2_findLasting_b12_body (f' + 1) (uI M 52 (bR 30 l' g)) 48 (bI ch') (nI (k + 1)) := by
      rw [← z, LP4_s]
      generalize LP4 f2_findLasting_b12_body (f' + 1) = K
      unfold f2_findLasting_b12_body f2_findLasting_b26
      rw [bI_t, if_neg (by decide), lit_30, if_neg (by rw [c_lt (by omega) (by omega)]; omega)]
    by_cases hch : ch' = true
    · have hlt : cntB l' 30 < cntB l 30 := by
        rcases i5 hch with z | z
        · cases z
        · exact cntB_lt 30 (fun h _ => i3 h) z
      obtain ⟨l'', k1, k2⟩ := ih (k + 1) l' i2 (by omega) (by omega) (f' + 1) (by omega)
      exact ⟨l'', by rw [head, hch, k1], k2⟩
    · rw [Bool.not_eq_true] at hch
      obtain ⟨-, z2, z3⟩ := i4 hch
      exact ⟨l, by rw [head, hch, z2, last0], fun h hh hl => (ldB_iff hp).mp (z3 h (Nat.zero_le _) hh hl), hi⟩
theorem S2_findLasting {M : MM} (hd : HdC M a1 P o cn) (hp : WP P) (ho : o < 2 ^ 31) : ∃ l, f2_findLasting M 48 = some (uI M 52 (bR 30 l (mI M 52))) ∧ LsA P o cn l := by
  have w := hd.1
  obtain ⟨l', a, b⟩ := L2_last12 (g := mI M 52) hd hp ho 30 0 (fun _ => true) (fun _ _ _ _ _ => rfl) (cntB_le _ _) (by omega) FU (FU_big (by omega))
  refine ⟨l', ?_, b⟩
  rw [← a]
  unfold f2_findLasting
  rw [aO_48 w, r_48_1 w, aO_51 w, S3_fill (i_51 w) (by omega), cV_some]
  rfl
theorem S2_isLasting {M : MM} {l : Nat → Bool} {g : Nat → Int32} (hd : HdC M a1 P o cn) (hr : mI M 52 = bR 30 l g) {p s : Nat} (hp5 : p < 5) (hs : s < 6) : f2_isLasting M 48 (nI p) (nI s) = some (bI (l (6 * p + s)), M) := by
  have w := hd.1
  unfold f2_isLasting f2_headOf
  rw [aO_48 w, cI_some, hd_e, r_48_1 w, aO_51 w, g_51 w, cI_some, gI_in (by omega) (by omega), hr, bR_at (by omega)]
  cases l (6 * p + s) <;> rfl
end LASTS
