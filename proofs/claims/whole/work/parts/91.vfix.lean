/-! THE MOST STEPS: sums that may be none, and what is told in the end -/
def sm (a b : Nat) : Nat := if a = 0 ∨ b = 0 then 0 else min (a - 1 + (b - 1)) CAPN + 1
theorem sm_le (a b : Nat) : sm a b ≤ CAPN + 1 := by
  unfold sm
  split <;> omega
theorem sm_mono {a b a' b' : Nat} (h : a ≤ a') (k : b ≤ b') : sm a b ≤ sm a' b' := by
  unfold sm
  split
  · exact Nat.zero_le _
  · rw [if_neg (by omega)]
    omega
theorem sm_assoc (a b c : Nat) : sm (sm a b) c = sm a (sm b c) := by
  unfold sm
  by_cases h1 : a = 0
  · simp [h1]
  · by_cases h2 : b = 0
    · simp [h2]
    · by_cases h3 : c = 0
      · simp [h3]
      · simp only [h1, h2, h3, or_self, if_false, Nat.add_eq_zero_iff, and_false, Nat.succ_ne_self]
        omega
theorem sm_maxL (a b c : Nat) : sm (max a b) c = max (sm a c) (sm b c) := by
  rcases Nat.le_total a b with h | h
  · rw [Nat.max_eq_right h, Nat.max_eq_right (sm_mono h (Nat.le_refl _))]
  · rw [Nat.max_eq_left h, Nat.max_eq_left (sm_mono h (Nat.le_refl _))]
theorem sm_maxR (a b c : Nat) : sm a (max b c) = max (sm a b) (sm a c) := by
  rcases Nat.le_total b c with h | h
  · rw [Nat.max_eq_right h, Nat.max_eq_right (sm_mono (Nat.le_refl _) h)]
  · rw [Nat.max_eq_left h, Nat.max_eq_left (sm_mono (Nat.le_refl _) h)]
theorem sm_0 (a : Nat) : sm a 0 = 0 := by simp [sm]
theorem sm_0' (a : Nat) : sm 0 a = 0 := by simp [sm]
theorem sm_1 {a : Nat} (h : a ≤ CAPN + 1) : sm a 1 = a := by
  unfold sm
  by_cases c : a = 0
  · simp [c]
  · rw [if_neg (by omega)]
    omega
theorem sm_1' {a : Nat} (h : a ≤ CAPN + 1) : sm 1 a = a := by
  unfold sm
  by_cases c : a = 0
  · simp [c]
  · rw [if_neg (by omega)]
    omega
theorem sm_ne {a b : Nat} (h : a ≠ 0) (k : b ≠ 0) : sm a b ≠ 0 := by
  unfold sm
  rw [if_neg (by omega)]
  omega
/-- the greatest of some -/
def mxN (f : Nat → Nat) : Nat → Nat
  | 0 => 0
  | k + 1 => max (mxN f k) (f k)
theorem mxN_ge (f : Nat → Nat) : ∀ k i, i < k → f i ≤ mxN f k
  | 0, i, h => absurd h (Nat.not_lt_zero i)
  | k + 1, i, h => by
    show f i ≤ max (mxN f k) (f k)
    by_cases e : i = k
    · rw [e]
      exact Nat.le_max_right _ _
    · exact Nat.le_trans (mxN_ge f k i (by omega)) (Nat.le_max_left _ _)
theorem mxN_le {f : Nat → Nat} {m : Nat} : ∀ k, (∀ i, i < k → f i ≤ m) → mxN f k ≤ m
  | 0, _ => Nat.zero_le _
  | k + 1, h => Nat.max_le.mpr ⟨mxN_le k (fun i hi => h i (by omega)), h k (by omega)⟩
theorem mxN_cg {f g : Nat → Nat} : ∀ k, (∀ i, i < k → f i = g i) → mxN f k = mxN g k
  | 0, _ => rfl
  | k + 1, h => by
    show max (mxN f k) (f k) = max (mxN g k) (g k)
    rw [mxN_cg k (fun i hi => h i (by omega)), h k (by omega)]
theorem mxN_sm (a : Nat) (f : Nat → Nat) : ∀ k, sm a (mxN f k) = mxN (fun i => sm a (f i)) k
  | 0 => sm_0 a
  | k + 1 => by
    show sm a (max (mxN f k) (f k)) = max (mxN (fun i => sm a (f i)) k) (sm a (f k))
    rw [sm_maxR, mxN_sm a f k]
theorem mxN_ex {f : Nat → Nat} : ∀ k, mxN f k ≠ 0 → ∃ i, i < k ∧ f i = mxN f k ∧ f i ≠ 0
  | 0, h => absurd rfl h
  | k + 1, h => by
    have e : mxN f (k + 1) = max (mxN f k) (f k) := rfl
    rcases Nat.le_total (mxN f k) (f k) with q | q
    · rw [Nat.max_eq_right q] at e
      exact ⟨k, by omega, e.symm, by rw [← e]; exact h⟩
    · rw [Nat.max_eq_left q] at e
      rw [e] at h
      obtain ⟨i, hi, a, b⟩ := mxN_ex k h
      exact ⟨i, by omega, by rw [e]; exact a, b⟩
section VFIX
variable {P : PG} {o : Nat} {cn : Nat → Nat → Nat → Bool}
def hT (P : PG) (r : Nat) : Nat := 6 * rt P r + ra P r
def FA (P : PG) (cn : Nat → Nat → Nat → Bool) (A : Nat → Nat) (r q : Nat) : Nat :=
  if rn P r = 0 then (if rt P r = q then 2 else 0) else if rn P r = 1 then sm 2 (A (5 * hT P r + q))
  else mxN (fun s => if cn (rt P r) (ra P r) s = true then sm 2 (sm (A (5 * hT P r + s)) (A (5 * (6 * s + rb P r) + q))) else 0) (pS P)
def FB (P : PG) (cn : Nat → Nat → Nat → Bool) (A B : Nat → Nat) (r : Nat) : Nat :=
  sm 2 (max (if rn P r = 0 then 1 else B (hT P r)) (mxN (fun q => if rn P r = 2 ∧ cn (rt P r) (ra P r) q = true then sm (A (5 * hT P r + q)) (B (6 * q + rb P r)) else 0) (pS P)))
def ofH (P : PG) (o h r : Nat) : Bool := rin P o r && decide (hdR P r = h)
def PhA (P : PG) (o : Nat) (cn : Nat → Nat → Nat → Bool) (A : Nat → Nat) (i : Nat) : Nat := mxN (fun r => if ofH P o (i / 5) r = true then FA P cn A r (i % 5) else 0) (pR P)
def PhB (P : PG) (o : Nat) (cn : Nat → Nat → Nat → Bool) (A B : Nat → Nat) (h : Nat) : Nat := max 1 (mxN (fun r => if ofH P o h r = true then FB P cn A B r else 0) (pR P))
def KlA (P : PG) (o : Nat) (cn : Nat → Nat → Nat → Bool) : Nat → Nat → Nat
  | 0 => fun _ => 0
  | n + 1 => PhA P o cn (KlA P o cn n)
def KlB (P : PG) (o : Nat) (cn : Nat → Nat → Nat → Bool) : Nat → Nat → Nat
  | 0 => fun _ => 1
  | n + 1 => PhB P o cn (KlA P o cn n) (KlB P o cn n)
/-- heads do not last, and ranks fall along what they lead to -/
def Rk (P : PG) (o : Nat) (cn : Nat → Nat → Nat → Bool) (l : Nat → Bool) (rk : Nat → Nat) : Prop := (∀ h, rk h ≤ 30) ∧ ∀ h h', h < 30 → h' < 30 → l h = false → edB P o cn h h' = true → l h' = false ∧ rk h' < rk h
theorem WsJ_ex (ed : Nat → Nat → Bool) : ∀ m, m ≤ 30 → ∃ B, WsJ ed m B
  | 0, _ => ⟨fun i => ed (i / 30) (i % 30), fun a b ha hb e => by
      show ed ((30 * a + b) / 30) ((30 * a + b) % 30) = true
      rw [show (30 * a + b) / 30 = a by omega, show (30 * a + b) % 30 = b by omega]
      exact e, fun k a b hk => absurd hk (Nat.not_lt_zero k), fun R hR hed a b ha hb e => by
      have e' : ed ((30 * a + b) / 30) ((30 * a + b) % 30) = true := e
      rw [show (30 * a + b) / 30 = a by omega, show (30 * a + b) % 30 = b by omega] at e'
      exact hed a b ha hb e'⟩
  | m + 1, h => by
    obtain ⟨B, hB⟩ := WsJ_ex ed m (by omega)
    exact ⟨_, hB.next (by omega)⟩
theorem Rk_ex {l : Nat → Bool} (hl : LsA P o cn l) : ∃ rk, Rk P o cn l rk := by
  obtain ⟨B, hB⟩ := WsJ_ex (edB P o cn) 30 (Nat.le_refl _)
  have lg := fun a ha => last_ring hB hl.1 hl.2 (a := a) ha
  refine ⟨fun h => cntB (fun b => B (30 * h + b)) 30, fun h => cntB_le _ _, fun h h' hh hh' hn he => ?_⟩
  have hn' : l h' = false := by
    rw [← Bool.not_eq_true]
    intro q
    have := hl.2 (fun x => l x || x == h) (fun x hx qx => by
      rw [Bool.or_eq_true, beq_iff_eq] at qx
      rcases qx with qx | rfl
      · obtain ⟨y, a, b, c⟩ := hl.1 x hx qx
        exact ⟨y, a, b, by rw [c]; rfl⟩
      · exact ⟨h', hh', he, by rw [q]; rfl⟩) h hh (by simp)
    rw [hn] at this
    cases this
  refine ⟨hn', ?_⟩
  have eb := hB.1 h h' hh hh' he
  have no : B (30 * h' + h') = false := by
    rw [← Bool.not_eq_true]
    intro q
    have : gwB B h' = true := any_in hh' (by rw [q]; simp)
    rw [← lg h' hh', hn'] at this
    cases this
  exact cntB_lt 30 (fun b hb q => hB.2.1 h' h b hh' hh' hh hb eb q) ⟨h', hh', eb, no⟩
theorem ed_top (hp : WP P) {r : Nat} (hr : rin P o r = true) (h1 : 1 ≤ rn P r) : edB P o cn (hdR P r) (hT P r) = true ∧ hT P r < 30 := by
  have hl := rin_lt hr
  have t5 := hp.t5 hl
  have a6 := hp.a6 hl h1
  refine ⟨any_in hl ?_, by unfold hT; omega⟩
  rw [hr, decide_eq_true rfl]
  unfold sucB hT
  rw [decide_eq_true h1]
  simp
theorem ed_snd (hp : WP P) {r s : Nat} (hr : rin P o r = true) (h2 : rn P r = 2) (hs : s < pS P) (hc : cn (rt P r) (ra P r) s = true) : edB P o cn (hdR P r) (6 * s + rb P r) = true ∧ 6 * s + rb P r < 30 := by
  have hl := rin_lt hr
  have b6 := hp.b6 hl (by omega)
  have p5 := hp.1
  refine ⟨any_in hl ?_, by omega⟩
  rw [hr, decide_eq_true rfl]
  unfold sucB
  have : ((List.range (pS P)).any fun q => cn (rt P r) (ra P r) q && 6 * s + rb P r == 6 * q + rb P r) = true := any_in hs (by rw [hc]; simp)
  rw [decide_eq_true h2, this]
  simp
theorem ofH_iff {h r : Nat} : ofH P o h r = true ↔ rin P o r = true ∧ hdR P r = h := by
  unfold ofH
  rw [Bool.and_eq_true, decide_eq_true_iff]
/-- what is told of a head rests on those it leads to alone -/
theorem FA_cg (hp : WP P) {A A' : Nat → Nat} {r : Nat} (hr : rin P o r = true) (h : ∀ x, x < 30 → edB P o cn (hdR P r) x = true → ∀ q, q < 5 → A (5 * x + q) = A' (5 * x + q)) {q : Nat} (hq : q < 5) : FA P cn A r q = FA P cn A' r q := by
  have hl := rin_lt hr
  have n2 := hp.n2 hl
  have p5 := hp.1
  unfold FA
  by_cases c0 : rn P r = 0
  · rw [if_pos c0, if_pos c0]
  · obtain ⟨e1, e2⟩ := ed_top (cn := cn) hp hr (by omega)
    rw [if_neg c0, if_neg c0]
    by_cases c1 : rn P r = 1
    · rw [if_pos c1, if_pos c1, h _ e2 e1 q hq]
    · rw [if_neg c1, if_neg c1]
      refine mxN_cg _ (fun s hs => ?_)
      by_cases cc : cn (rt P r) (ra P r) s = true
      · obtain ⟨f1, f2⟩ := ed_snd (o := o) (cn := cn) hp hr (by omega) hs cc
        rw [if_pos cc, if_pos cc, h _ e2 e1 s (by omega), h _ f2 f1 q hq]
      · rw [if_neg cc, if_neg cc]
theorem FB_cg (hp : WP P) {A A' B B' : Nat → Nat} {r : Nat} (hr : rin P o r = true) (h : ∀ x, x < 30 → edB P o cn (hdR P r) x = true → B x = B' x ∧ ∀ q, q < 5 → A (5 * x + q) = A' (5 * x + q)) : FB P cn A B r = FB P cn A' B' r := by
  have hl := rin_lt hr
  have n2 := hp.n2 hl
  have p5 := hp.1
  unfold FB
  congr 2
  · by_cases c0 : rn P r = 0
    · rw [if_pos c0, if_pos c0]
    · obtain ⟨e1, e2⟩ := ed_top (cn := cn) hp hr (by omega)
      rw [if_neg c0, if_neg c0, (h _ e2 e1).1]
  · refine mxN_cg _ (fun s hs => ?_)
    by_cases cc : rn P r = 2 ∧ cn (rt P r) (ra P r) s = true
    · obtain ⟨e1, e2⟩ := ed_top (cn := cn) hp hr (by omega)
      obtain ⟨f1, f2⟩ := ed_snd (o := o) (cn := cn) hp hr cc.1 hs cc.2
      rw [if_pos cc, if_pos cc, (h _ e2 e1).2 s (by omega), (h _ f2 f1).1]
    · rw [if_neg cc, if_neg cc]
theorem Kl_st (hp : WP P) {l : Nat → Bool} {rk : Nat → Nat} (hk : Rk P o cn l rk) : ∀ k h, h < 30 → l h = false → rk h < k → KlB P o cn (k + 1) h = KlB P o cn k h ∧ ∀ q, q < 5 → KlA P o cn (k + 1) (5 * h + q) = KlA P o cn k (5 * h + q)
  | 0, h, _, _, q => absurd q (Nat.not_lt_zero _)
  | k + 1, h, hh, hl, hr => by
    have ih : ∀ x, x < 30 → edB P o cn h x = true → KlB P o cn (k + 1) x = KlB P o cn k x ∧ ∀ q, q < 5 → KlA P o cn (k + 1) (5 * x + q) = KlA P o cn k (5 * x + q) := fun x hx he => by
      obtain ⟨a, b⟩ := hk.2 h x hh hx hl he
      exact Kl_st hp hk k x hx a (by omega)
    constructor
    · show PhB P o cn (KlA P o cn (k + 1)) (KlB P o cn (k + 1)) h = PhB P o cn (KlA P o cn k) (KlB P o cn k) h
      unfold PhB
      congr 1
      refine mxN_cg _ (fun r _ => ?_)
      by_cases c : ofH P o h r = true
      · obtain ⟨c1, c2⟩ := ofH_iff.mp c
        rw [if_pos c, if_pos c]
        refine FB_cg hp c1 (fun x hx he => ?_)
        rw [c2] at he
        exact ih x hx he
      · rw [if_neg c, if_neg c]
    · intro q hq
      show PhA P o cn (KlA P o cn (k + 1)) (5 * h + q) = PhA P o cn (KlA P o cn k) (5 * h + q)
      unfold PhA
      rw [show (5 * h + q) / 5 = h by omega, show (5 * h + q) % 5 = q by omega]
      refine mxN_cg _ (fun r _ => ?_)
      by_cases c : ofH P o h r = true
      · obtain ⟨c1, c2⟩ := ofH_iff.mp c
        rw [if_pos c, if_pos c]
        refine FA_cg hp c1 (fun x hx he => ?_) hq
        rw [c2] at he
        exact (ih x hx he).2
      · rw [if_neg c, if_neg c]
/-- the values in the end -/
def VA (P : PG) (o : Nat) (cn : Nat → Nat → Nat → Bool) : Nat → Nat := KlA P o cn 31
def VB (P : PG) (o : Nat) (cn : Nat → Nat → Nat → Bool) : Nat → Nat := KlB P o cn 31
theorem V_fix (hp : WP P) {l : Nat → Bool} {rk : Nat → Nat} (hk : Rk P o cn l rk) {h : Nat} (hh : h < 30) (hl : l h = false) : VB P o cn h = PhB P o cn (VA P o cn) (VB P o cn) h ∧ ∀ q, q < 5 → VA P o cn (5 * h + q) = PhA P o cn (VA P o cn) (5 * h + q) := by
  have := Kl_st hp hk 31 h hh hl (by have := hk.1 h; omega)
  exact ⟨this.1.symm, fun q hq => (this.2 q hq).symm⟩
theorem FA_le {A : Nat → Nat} {r q : Nat} : FA P cn A r q ≤ CAPN + 1 := by
  unfold FA
  split
  · split
    · unfold CAPN
      omega
    · exact Nat.zero_le _
  · split
    · exact sm_le _ _
    · refine mxN_le _ (fun s _ => ?_)
      split
      · exact sm_le _ _
      · exact Nat.zero_le _
theorem Kl_le : ∀ k i, KlA P o cn k i ≤ CAPN + 1 ∧ 1 ≤ KlB P o cn k i ∧ KlB P o cn k i ≤ CAPN + 1
  | 0, i => ⟨Nat.zero_le _, Nat.le_refl _, show 1 ≤ CAPN + 1 by omega⟩
  | k + 1, i => by
    refine ⟨mxN_le _ (fun r _ => ?_), Nat.le_max_left _ _, Nat.max_le.mpr ⟨by omega, mxN_le _ (fun r _ => ?_)⟩⟩
    · split
      · exact FA_le
      · exact Nat.zero_le _
    · split
      · exact sm_le _ _
      · exact Nat.zero_le _
theorem FA_FB {A B : Nat → Nat} {r q : Nat} (hp : WP P) (hl : r < pR P) (h : ∀ x q, x < 30 → q < 5 → A (5 * x + q) ≤ B x) (hq : q < 5) : FA P cn A r q ≤ FB P cn A B r := by
  have n2 := hp.n2 hl
  have t5 := hp.t5 hl
  have p5 := hp.1
  unfold FA FB
  by_cases c0 : rn P r = 0
  · rw [if_pos c0, if_pos c0]
    refine Nat.le_trans (show _ ≤ sm 2 1 from ?_) (sm_mono (Nat.le_refl _) (Nat.le_max_left _ _))
    rw [sm_1 (by unfold CAPN; omega)]
    split <;> omega
  · have a6 := hp.a6 hl (by omega)
    have t30 : hT P r < 30 := by unfold hT; omega
    rw [if_neg c0, if_neg c0]
    by_cases c1 : rn P r = 1
    · rw [if_pos c1]
      exact sm_mono (Nat.le_refl _) (Nat.le_trans (h _ q t30 hq) (Nat.le_max_left _ _))
    · have b6 := hp.b6 hl (by omega)
      rw [if_neg c1]
      refine mxN_le _ (fun s hs => ?_)
      by_cases cc : cn (rt P r) (ra P r) s = true
      · rw [if_pos cc]
        refine sm_mono (Nat.le_refl _) (Nat.le_trans ?_ (Nat.le_max_right _ _))
        refine Nat.le_trans ?_ (mxN_ge _ _ s hs)
        rw [if_pos ⟨by omega, cc⟩]
        exact sm_mono (Nat.le_refl _) (h _ q (by omega) hq)
      · rw [if_neg cc]
        exact Nat.zero_le _
theorem Kl_AB (hp : WP P) : ∀ k x q, x < 30 → q < 5 → KlA P o cn k (5 * x + q) ≤ KlB P o cn k x
  | 0, _, _, _, _ => Nat.zero_le _
  | k + 1, x, q, hx, hq => by
    show PhA P o cn (KlA P o cn k) (5 * x + q) ≤ PhB P o cn (KlA P o cn k) (KlB P o cn k) x
    unfold PhA PhB
    rw [show (5 * x + q) / 5 = x by omega, show (5 * x + q) % 5 = q by omega]
    refine Nat.le_trans (mxN_le _ (fun r hr => ?_)) (Nat.le_max_right _ _)
    refine Nat.le_trans ?_ (mxN_ge _ _ r hr)
    by_cases c : ofH P o x r = true
    · rw [if_pos c, if_pos c]
      exact FA_FB hp hr (Kl_AB hp k) hq
    · rw [if_neg c]
      exact Nat.zero_le _
/-- pops are closed under rules -/
theorem cn_step (hp : WP P) (hcn : CnOK P o cn) {r : Nat} (hr : rin P o r = true) : (rn P r = 0 → cn (rp P r) (rg P r) (rt P r) = true) ∧ (rn P r = 1 → ∀ q, q < 5 → cn (rt P r) (ra P r) q = true → cn (rp P r) (rg P r) q = true) ∧ (rn P r = 2 → ∀ s q, s < 5 → q < 5 → cn (rt P r) (ra P r) s = true → cn s (rb P r) q = true → cn (rp P r) (rg P r) q = true) := by
  obtain ⟨E, R, hE⟩ := Std_ex hp o (gTG P)
  have hl := rin_lt hr
  have p5 := hp.p5 hl
  have g6 := hp.g6 hl
  have t5 := hp.t5 hl
  have c99 := hp.c99 hl
  have st := hE.2.1.1.2.2 r hr
  have cF : rc P r < FARN := by unfold FARN; omega
  have cpf : ∀ {a b : Nat}, a < FARN → b < FARN → cp a b < FARN := fun h k => by
    unfold cp CAPN FARN at *
    rw [if_neg (by omega)]
    split <;> omega
  have ec : ∀ p g q, p < 5 → g < 6 → q < 5 → (cn p g q = true ↔ E (ix 15 p g q) < FARN) := fun p g q h1 h2 h3 => by
    rw [hcn.1 E R hE p g q h1 h2 h3, decide_eq_true_iff]
  refine ⟨fun c => ?_, fun c q hq h => ?_, fun c s q hs hq h k => ?_⟩
  · rw [ec _ _ _ p5 g6 t5]
    exact Nat.lt_of_le_of_lt (st.1 c) cF
  · rw [ec _ _ _ t5 (hp.a6 hl (by omega)) hq] at h
    rw [ec _ _ _ p5 g6 hq]
    exact Nat.lt_of_le_of_lt (st.2.1 c q (by omega)) (cpf cF h)
  · rw [ec _ _ _ t5 (hp.a6 hl (by omega)) hs] at h
    rw [ec _ _ _ hs (hp.b6 hl (by omega)) hq] at k
    rw [ec _ _ _ p5 g6 hq]
    have := st.2.2 c q (by omega) s (by omega)
    rw [show onw 15 (D15 (pG P) (gTG P)) E s (rb P r) q = E (ix 15 s (rb P r) q) from if_pos hs] at this
    exact Nat.lt_of_le_of_lt this (cpf cF (cpf h k))
theorem Kl_cn (hp : WP P) (hcn : CnOK P o cn) : ∀ k p g q, p < 5 → g < 6 → q < 5 → KlA P o cn k (5 * (6 * p + g) + q) ≠ 0 → cn p g q = true
  | 0, p, g, q, _, _, _, h => absurd rfl h
  | k + 1, p, g, q, hp5, hg, hq, h => by
    have ih := Kl_cn hp hcn k
    have h' : mxN (fun r => if ofH P o ((5 * (6 * p + g) + q) / 5) r = true then FA P cn (KlA P o cn k) r ((5 * (6 * p + g) + q) % 5) else 0) (pR P) ≠ 0 := h
    rw [show (5 * (6 * p + g) + q) / 5 = 6 * p + g by omega, show (5 * (6 * p + g) + q) % 5 = q by omega] at h'
    obtain ⟨r, hr, -, hf⟩ := mxN_ex _ h'
    by_cases c : ofH P o (6 * p + g) r = true
    · rw [if_pos c] at hf
      obtain ⟨c1, c2⟩ := ofH_iff.mp c
      have hrp := hp.p5 hr
      have hrg := hp.g6 hr
      have e1 : rp P r = p := by unfold hdR at c2; omega
      have e2 : rg P r = g := by unfold hdR at c2; omega
      have st := cn_step hp hcn c1
      rw [e1, e2] at st
      have n2 := hp.n2 hr
      have t5 := hp.t5 hr
      have p5 := hp.1
      unfold FA at hf
      by_cases c0 : rn P r = 0
      · rw [if_pos c0] at hf
        by_cases e : rt P r = q
        · rw [← e]
          exact st.1 c0
        · rw [if_neg e] at hf
          exact absurd rfl hf
      · have a6 := hp.a6 hr (by omega)
        rw [if_neg c0] at hf
        by_cases c1' : rn P r = 1
        · rw [if_pos c1'] at hf
          refine st.2.1 c1' q hq (ih _ _ q t5 a6 hq (fun z => hf ?_))
          have z' : KlA P o cn k (5 * hT P r + q) = 0 := z
          rw [z', sm_0]
        · have b6 := hp.b6 hr (by omega)
          rw [if_neg c1'] at hf
          obtain ⟨s, hs, -, hf2⟩ := mxN_ex _ hf
          by_cases cc : cn (rt P r) (ra P r) s = true
          · rw [if_pos cc] at hf2
            refine st.2.2 (by omega) s q (by omega) hq cc (ih s (rb P r) q (by omega) b6 hq (fun z => hf2 ?_))
            rw [z, sm_0, sm_0]
          · rw [if_neg cc] at hf2
            exact absurd rfl hf2
    · rw [if_neg c] at hf
      exact absurd rfl hf
theorem FA_V (hp : WP P) {l : Nat → Bool} {rk : Nat → Nat} (hk : Rk P o cn l rk) {r q : Nat} (hr : rin P o r = true) (hl : l (hdR P r) = false) (hq : q < 5) : FA P cn (VA P o cn) r q ≤ VA P o cn (5 * hdR P r + q) := by
  have hl2 := rin_lt hr
  rw [(V_fix hp hk (hd_lt hp hl2) hl).2 q hq]
  unfold PhA
  rw [show (5 * hdR P r + q) / 5 = hdR P r by omega, show (5 * hdR P r + q) % 5 = q by omega]
  refine Nat.le_trans ?_ (mxN_ge _ _ r hl2)
  rw [if_pos (ofH_iff.mpr ⟨hr, rfl⟩)]
  exact Nat.le_refl _
theorem FB_V (hp : WP P) {l : Nat → Bool} {rk : Nat → Nat} (hk : Rk P o cn l rk) {r : Nat} (hr : rin P o r = true) (hl : l (hdR P r) = false) : FB P cn (VA P o cn) (VB P o cn) r ≤ VB P o cn (hdR P r) := by
  have hl2 := rin_lt hr
  rw [(V_fix hp hk (hd_lt hp hl2) hl).1]
  unfold PhB
  refine Nat.le_trans (Nat.le_trans ?_ (mxN_ge _ _ r hl2)) (Nat.le_max_right _ _)
  rw [if_pos (ofH_iff.mpr ⟨hr, rfl⟩)]
  exact Nat.le_refl _
/-- what can be popped has a number of steps -/
theorem V_pop (hp : WP P) (hcn : CnOK P o cn) {l : Nat → Bool} {rk : Nat → Nat} (hk : Rk P o cn l rk) {p g q : Nat} (h5 : p < 5) (h6 : g < 6) (hq : q < 5) (hl : l (6 * p + g) = false) (hc : cn p g q = true) : VA P o cn (5 * (6 * p + g) + q) ≠ 0 := by
  obtain ⟨L, R, hL⟩ := Std_ex hp o (gTG P)
  intro h0
  -- a net that is closed, and far there
  let N : Nat → Nat := fun e => if e % 15 < 5 ∧ l (e / 15) = false ∧ VA P o cn (5 * (e / 15) + e % 15) = 0 then FARN else L e
  have hN0 : ∀ e, N e = if e % 15 < 5 ∧ l (e / 15) = false ∧ VA P o cn (5 * (e / 15) + e % 15) = 0 then FARN else L e := fun _ => rfl
  have hN : ∀ p g x, x < 15 → N (ix 15 p g x) = if x < 5 ∧ l (6 * p + g) = false ∧ VA P o cn (5 * (6 * p + g) + x) = 0 then FARN else L (ix 15 p g x) := fun p g x hx => by
    rw [hN0, ix_mod hx, ix_div hx]
  have hLN : ∀ e, e < 450 → L e ≤ N e := fun e he => by
    rw [hN0]
    split
    · exact hL.2.1.1.1 e he
    · exact Nat.le_refl _
  have far : ∀ e, e < 450 → N e ≤ FARN := fun e he => by
    rw [hN0]
    split
    · exact Nat.le_refl _
    · exact hL.2.1.1.1 e he
  have clo : Clo 15 (allS (pG P) (gTG P)) (D15 (pG P) (gTG P)) P o N := by
    refine ⟨far, fun e he hi => ?_, fun r hr => ?_⟩
    · obtain ⟨p', g', x, a1, a2, a3, rfl⟩ := ix_of (n := 15) (by omega) he
      have := D15_ge (okT_g hp) a2 a3 hi
      rw [hN _ _ _ a3, if_neg (by omega)]
      exact hL.2.1.1.2.1 _ he hi
    · have hl2 := rin_lt hr
      have p5 := hp.p5 hl2
      have g6 := hp.g6 hl2
      have t5 := hp.t5 hl2
      have st := hL.2.1.1.2.2 r hr
      have hd30 := hd_lt hp hl2
      have bad : ∀ x, x < 15 → N (ix 15 (rp P r) (rg P r) x) = L (ix 15 (rp P r) (rg P r) x) ∨ (x < 5 ∧ l (hdR P r) = false ∧ VA P o cn (5 * hdR P r + x) = 0) := fun x hx => by
        rw [hN _ _ _ hx]
        by_cases c : x < 5 ∧ l (6 * rp P r + rg P r) = false ∧ VA P o cn (5 * (6 * rp P r + rg P r) + x) = 0
        · exact .inr c
        · exact .inl (if_neg c)
      refine ⟨fun c0 => ?_, fun c1 x hx => ?_, fun c2 x hx y hy => ?_⟩
      · rcases bad (rt P r) (by omega) with e | ⟨z1, z2, z3⟩
        · rw [e]
          exact st.1 c0
        · exfalso
          have := FA_V hp hk hr z2 z1
          rw [z3] at this
          unfold FA at this
          rw [if_pos c0, if_pos rfl] at this
          omega
      · have a6 := hp.a6 hl2 (by omega)
        rcases bad x hx with e | ⟨z1, z2, z3⟩
        · rw [e]
          exact Nat.le_trans (st.2.1 c1 x hx) (cp_mono (Nat.le_refl _) (hLN _ (ix_lt t5 a6 hx)))
        · have fa := FA_V hp hk hr z2 z1
          rw [z3] at fa
          unfold FA at fa
          rw [if_neg (by omega), if_pos c1] at fa
          obtain ⟨e1, e2⟩ := ed_top (cn := cn) hp hr (by omega)
          have lt := (hk.2 _ _ hd30 e2 z2 e1).1
          have va : VA P o cn (5 * (6 * rt P r + ra P r) + x) = 0 := by
            refine Classical.byContradiction fun q => ?_
            have := sm_ne (a := 2) (by omega) q
            unfold hT at fa
            omega
          rw [hN (rt P r) (ra P r) x hx, if_pos ⟨z1, lt, va⟩, cp_F]
          exact far _ (ix_lt p5 g6 hx)
      · have a6 := hp.a6 hl2 (by omega)
        have b6 := hp.b6 hl2 (by omega)
        rcases bad x hx with e | ⟨z1, z2, z3⟩
        · rw [e]
          exact Nat.le_trans (st.2.2 c2 x hx y hy) (cp_mono (Nat.le_refl _) (cp_mono (hLN _ (ix_lt t5 a6 hy)) (onw_mono fun q => hLN _ (ix_lt q b6 hx))))
        · have top := far _ (ix_lt (n := 15) p5 g6 hx)
          obtain ⟨e1, e2⟩ := ed_top (cn := cn) hp hr (by omega)
          have lt := (hk.2 _ _ hd30 e2 z2 e1).1
          by_cases cy : y < 5
          · rw [show onw 15 (D15 (pG P) (gTG P)) N y (rb P r) x = N (ix 15 y (rb P r) x) from if_pos cy]
            by_cases va : VA P o cn (5 * (6 * rt P r + ra P r) + y) = 0
            · rw [hN (rt P r) (ra P r) y hy, if_pos ⟨cy, lt, va⟩, cp_F', cp_F]
              exact top
            · have cc := Kl_cn hp hcn 31 (rt P r) (ra P r) y t5 a6 cy va
              by_cases ys : y < pS P
              · obtain ⟨f1, f2⟩ := ed_snd (o := o) (cn := cn) hp hr c2 ys cc
                have lt2 := (hk.2 _ _ hd30 f2 z2 f1).1
                have vb : VA P o cn (5 * (6 * y + rb P r) + x) = 0 := by
                  refine Classical.byContradiction fun q => ?_
                  have fa := FA_V hp hk hr z2 z1
                  rw [z3] at fa
                  unfold FA at fa
                  rw [if_neg (by omega), if_neg (by omega)] at fa
                  have m := mxN_ge (fun s => if cn (rt P r) (ra P r) s = true then sm 2 (sm (VA P o cn (5 * hT P r + s)) (VA P o cn (5 * (6 * s + rb P r) + x))) else 0) (pS P) y ys
                  simp only [cc, if_true] at m
                  have := sm_ne (a := 2) (by omega) (sm_ne va q)
                  unfold hT at m fa
                  omega
                rw [hN y (rb P r) x hx, if_pos ⟨z1, lt2, vb⟩, cp_F, cp_F]
                exact top
              · -- no such state: what is told there is nothing
                exfalso
                have : ∀ k i, (∃ h, i = 5 * h + y) → KlA P o cn k i = 0 := by
                  intro k
                  induction k with
                  | zero => exact fun _ _ => rfl
                  | succ k ihk =>
                    rintro i ⟨h, rfl⟩
                    show PhA P o cn (KlA P o cn k) (5 * h + y) = 0
                    unfold PhA
                    rw [show (5 * h + y) / 5 = h by omega, show (5 * h + y) % 5 = y by omega]
                    refine Nat.eq_zero_of_le_zero (mxN_le _ (fun r' hr' => ?_))
                    split
                    · have ts : rt P r' < pS P := (hp.2.2.2.2.1 r' hr').2.2.1
                      unfold FA
                      split
                      · rw [if_neg (by omega)]
                        exact Nat.le_refl _
                      · split
                        · rw [ihk _ ⟨_, rfl⟩, sm_0]
                          exact Nat.le_refl _
                        · refine mxN_le _ (fun s _ => ?_)
                          split
                          · rw [ihk (5 * (6 * s + rb P r') + y) ⟨_, rfl⟩, sm_0, sm_0]
                            exact Nat.le_refl _
                          · exact Nat.le_refl _
                    · exact Nat.le_refl _
                exact va (this 31 _ ⟨_, rfl⟩)
          · have hd0 : D15 (pG P) (gTG P) y (rb P r) x = false := by
              rw [← Bool.not_eq_true]
              intro q
              have := D15_ge (okT_g hp) b6 hx q
              omega
            rw [show onw 15 (D15 (pG P) (gTG P)) N y (rb P r) x = if D15 (pG P) (gTG P) y (rb P r) x then 0 else FARN from if_neg cy, hd0]
            refine Nat.le_trans top ?_
            rw [if_neg (by decide), cp_F, cp_F]
            exact Nat.le_refl _
  have := hL.2.1.2 N clo _ (ix_lt h5 h6 (show q < 15 by omega))
  rw [hN p g q (by omega), if_pos ⟨hq, hl, h0⟩] at this
  have c := hcn.1 L R hL p g q h5 h6 hq
  rw [hc] at c
  have := of_decide_eq_true c.symm
  omega
end VFIX
