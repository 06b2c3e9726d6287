/-! THE MOST STEPS: a rule's turn -/
def vv (x : Nat) : Int64 := if x = 0 then -1 else lN (x - 1)
theorem vv_s (x : Nat) : vv (x + 1) = lN x := by
  unfold vv
  rw [if_neg (by omega)]
  rfl
theorem vv_ti {x : Nat} (h : x ≤ CAPN + 1) : (vv x).toInt = (x : Int) - 1 := by
  unfold vv
  by_cases c : x = 0
  · rw [if_pos c, c]
    rfl
  · rw [if_neg c, lN_ti63 (by unfold CAPN at h; omega)]
    omega
theorem vv_le {x y : Nat} (hx : x ≤ CAPN + 1) (hy : y ≤ CAPN + 1) : vv x ≤ vv y ↔ x ≤ y := by
  rw [Int64.le_iff_toInt_le, vv_ti hx, vv_ti hy]
  omega
theorem vv_lt {x y : Nat} (hx : x ≤ CAPN + 1) (hy : y ≤ CAPN + 1) : vv x < vv y ↔ x < y := by
  rw [Int64.lt_iff_toInt_lt, vv_ti hx, vv_ti hy]
  omega
theorem vv_lt0 {x : Nat} (h : x ≤ CAPN + 1) : vv x < 0 ↔ x = 0 := by
  rw [Int64.lt_iff_toInt_lt, vv_ti h]
  show (x : Int) - 1 < 0 ↔ _
  omega
theorem vv_ge0 {x : Nat} (h : x ≤ CAPN + 1) : 0 ≤ vv x ↔ x ≠ 0 := by
  rw [Int64.le_iff_toInt_le, vv_ti h]
  show 0 ≤ (x : Int) - 1 ↔ _
  omega
theorem mxL_vv {x y : Nat} (hx : x ≤ CAPN + 1) (hy : y ≤ CAPN + 1) : mxL (vv x) (vv y) = vv (max x y) := by
  show (if vv y < vv x then vv x else vv y) = _
  by_cases c : y < x
  · rw [if_pos ((vv_lt hy hx).mpr c), Nat.max_eq_left (by omega)]
  · rw [if_neg (fun q => c ((vv_lt hy hx).mp q)), Nat.max_eq_right (by omega)]
theorem S4_sv {M : MM} {a b : Nat} (ha : a ≤ CAPN + 1) (hb : b ≤ CAPN + 1) (a0 : a ≠ 0) (b0 : b ≠ 0) : f4_sum M (vv a) (vv b) = some (vv (sm a b), M) := by
  obtain ⟨x, rfl⟩ : ∃ x, a = x + 1 := ⟨a - 1, by omega⟩
  obtain ⟨y, rfl⟩ : ∃ y, b = y + 1 := ⟨b - 1, by omega⟩
  have hx : x ≤ FARN := by unfold FARN CAPN at *; omega
  have hy : y ≤ FARN := by unfold FARN CAPN at *; omega
  have e : sm (x + 1) (y + 1) = cp x y + 1 := by
    unfold sm cp FARN CAPN at *
    rw [if_neg (by omega), if_neg (by omega)]
    split <;> omega
  rw [vv_s, vv_s, S4_sum hx hy, e, vv_s]
theorem vv_1 : (0 : Int64) = vv 1 := rfl
theorem vv_2 : (1 : Int64) = vv 2 := rfl
theorem vv_0 : (-1 : Int64) = vv 0 := rfl
theorem S2_joined {M : MM} {a b : Nat} (ha : a ≤ CAPN + 1) (hb : b ≤ CAPN + 1) : f2_joined M (vv a) (vv b) = some (vv (sm 2 (sm a b)), M) := by
  have c2 : 2 ≤ CAPN + 1 := by unfold CAPN; omega
  unfold f2_joined f2_joined_b12
  by_cases c : a = 0
  · rw [if_pos ((vv_lt0 ha).mpr c), c, sm_0', sm_0, vv_0]
  · rw [if_neg (fun q => c ((vv_lt0 ha).mp q))]
    by_cases d : b = 0
    · rw [if_neg (fun q => (vv_ge0 hb).mp q d), d, sm_0, sm_0, vv_0]
    · rw [if_pos ((vv_ge0 hb).mpr d), S4_sv ha hb c d, cJ_some, vv_2, S4_sv c2 (sm_le _ _) (by omega) (sm_ne c d), cJ_some]
def ABr (M : MM) (b a : Nat) (A B : Nat → Nat) : Prop := (∀ i, i < 150 → mJ M a i = vv (A i)) ∧ ∀ h, h < 30 → mJ M b h = vv (B h)
def FAm (P : PG) (A : Nat → Nat) (r q : Nat) : Nat :=
  if rn P r = 0 then (if rt P r = q then 2 else 0) else if rn P r = 1 then sm 2 (A (5 * hT P r + q))
  else mxN (fun s => sm 2 (sm (A (5 * hT P r + s)) (A (5 * (6 * s + rb P r) + q)))) (pS P)
def fbc (P : PG) (cn : Nat → Nat → Nat → Bool) (A B : Nat → Nat) (r j : Nat) : Nat := max (if rn P r = 0 then 2 else max 2 (sm 2 (B (hT P r)))) (mxN (fun q => if rn P r = 2 ∧ cn (rt P r) (ra P r) q = true then sm (sm 2 (max 1 (A (5 * hT P r + q)))) (B (6 * q + rb P r)) else 0) j)
def FBc (P : PG) (cn : Nat → Nat → Nat → Bool) (A B : Nat → Nat) (r : Nat) : Nat := fbc P cn A B r (pS P)
def FBm (P : PG) (A B : Nat → Nat) (r : Nat) : Nat := sm 2 (max (if rn P r = 0 then 1 else B (hT P r)) (mxN (fun q => if rn P r = 2 then sm (A (5 * hT P r + q)) (B (6 * q + rb P r)) else 0) (pS P)))
theorem FAm_bd {P : PG} {A : Nat → Nat} {r q : Nat} : FAm P A r q ≤ CAPN + 1 := by
  unfold FAm
  split
  · split
    · unfold CAPN
      omega
    · exact Nat.zero_le _
  · split
    · exact sm_le _ _
    · exact mxN_le _ (fun s _ => sm_le _ _)
theorem fbc_bd {P : PG} {cn : Nat → Nat → Nat → Bool} {A B : Nat → Nat} {r j : Nat} : fbc P cn A B r j ≤ CAPN + 1 := by
  unfold fbc
  refine Nat.max_le.mpr ⟨?_, mxN_le _ (fun s _ => ?_)⟩
  · split
    · unfold CAPN
      omega
    · exact Nat.max_le.mpr ⟨by unfold CAPN; omega, sm_le _ _⟩
  · split
    · exact sm_le _ _
    · exact Nat.zero_le _
/-- no rule's turn is told by what it changes -/
def NL (P : PG) (A : Nat → Nat) (r : Nat) : Prop := (1 ≤ rn P r → hT P r ≠ hdR P r) ∧ (rn P r = 2 → ∀ s, s < pS P → A (5 * hT P r + s) ≠ 0 → 6 * s + rb P r ≠ hdR P r)
theorem FAm_nl {P : PG} (hp : WP P) {A A' : Nat → Nat} {r q : Nat} (hr : r < pR P) (nl : NL P A r) (h : ∀ i, i / 5 ≠ hdR P r → A' i = A i) (hq : q < 5) : FAm P A' r q = FAm P A r q := by
  have n2 := hp.n2 hr
  have p5 := hp.1
  unfold FAm
  by_cases c0 : rn P r = 0
  · rw [if_pos c0, if_pos c0]
  · have t := nl.1 (by omega)
    rw [if_neg c0, if_neg c0]
    by_cases c1 : rn P r = 1
    · rw [if_pos c1, if_pos c1, h _ (by omega)]
    · rw [if_neg c1, if_neg c1]
      refine mxN_cg _ (fun s hs => ?_)
      rw [h (5 * hT P r + s) (by omega)]
      by_cases z : A (5 * hT P r + s) = 0
      · rw [z, sm_0', sm_0']
      · have := nl.2 (by omega) s hs z
        rw [h (5 * (6 * s + rb P r) + q) (by omega)]
section TURN
variable {P : PG} {o : Nat} {cn : Nat → Nat → Nat → Bool} {l : Nat → Bool} {rk : Nat → Nat}
def UV (P : PG) (o : Nat) (cn : Nat → Nat → Nat → Bool) (l : Nat → Bool) (A B : Nat → Nat) : Prop := ∀ h, h < 30 → l h = false → (1 ≤ B h ∧ B h ≤ VB P o cn h) ∧ ∀ q, q < 5 → A (5 * h + q) ≤ VA P o cn (5 * h + q)
def LV (P : PG) (o : Nat) (cn : Nat → Nat → Nat → Bool) (l : Nat → Bool) (rk : Nat → Nat) (k : Nat) (A B : Nat → Nat) : Prop := ∀ h, h < 30 → l h = false → rk h < k → B h = VB P o cn h ∧ ∀ q, q < 5 → A (5 * h + q) = VA P o cn (5 * h + q)
theorem UV.pp {A B : Nat → Nat} (u : UV P o cn l A B) (hp : WP P) (hcn : CnOK P o cn) {p g q : Nat} (h5 : p < 5) (h6 : g < 6) (hq : q < 5) (hl : l (6 * p + g) = false) (h0 : A (5 * (6 * p + g) + q) ≠ 0) : cn p g q = true := by
  refine Kl_cn hp hcn 31 p g q h5 h6 hq (fun z => h0 ?_)
  have := (u _ (by omega) hl).2 q hq
  have e : VA P o cn (5 * (6 * p + g) + q) = 0 := z
  omega
theorem UV.nl {A B : Nat → Nat} (u : UV P o cn l A B) (hp : WP P) (hcn : CnOK P o cn) (hk : Rk P o cn l rk) {r : Nat} (hr : rin P o r = true) (hl : l (hdR P r) = false) : NL P A r := by
  have hl2 := rin_lt hr
  have t5 := hp.t5 hl2
  have p5 := hp.1
  have hd30 := hd_lt hp hl2
  refine ⟨fun h1 e => ?_, fun h2 s hs h0 e => ?_⟩
  · obtain ⟨e1, e2⟩ := ed_top (cn := cn) hp hr h1
    have := (hk.2 _ _ hd30 e2 hl e1).2
    rw [e] at this
    omega
  · have a6 := hp.a6 hl2 (by omega)
    obtain ⟨e1, e2⟩ := ed_top (cn := cn) hp hr (by omega)
    have l1 := (hk.2 _ _ hd30 e2 hl e1).1
    have cc := u.pp hp hcn t5 a6 (show s < 5 by omega) l1 h0
    obtain ⟨f1, f2⟩ := ed_snd (o := o) (cn := cn) hp hr h2 hs cc
    have := (hk.2 _ _ hd30 f2 hl f1).2
    rw [e] at this
    omega
theorem FAm_le {A B : Nat → Nat} (u : UV P o cn l A B) (hp : WP P) (hcn : CnOK P o cn) (hk : Rk P o cn l rk) {r q : Nat} (hr : rin P o r = true) (hl : l (hdR P r) = false) (hq : q < 5) : FAm P A r q ≤ VA P o cn (5 * hdR P r + q) := by
  refine Nat.le_trans ?_ (FA_V hp hk hr hl hq)
  have hl2 := rin_lt hr
  have n2 := hp.n2 hl2
  have t5 := hp.t5 hl2
  have p5 := hp.1
  have hd30 := hd_lt hp hl2
  unfold FAm FA
  by_cases c0 : rn P r = 0
  · rw [if_pos c0, if_pos c0]
    exact Nat.le_refl _
  · have a6 := hp.a6 hl2 (by omega)
    obtain ⟨e1, e2⟩ := ed_top (cn := cn) hp hr (by omega)
    have l1 := (hk.2 _ _ hd30 e2 hl e1).1
    rw [if_neg c0, if_neg c0]
    by_cases c1 : rn P r = 1
    · rw [if_pos c1, if_pos c1]
      exact sm_mono (Nat.le_refl _) ((u _ e2 l1).2 q hq)
    · rw [if_neg c1, if_neg c1]
      refine mxN_le _ (fun s hs => ?_)
      by_cases z : A (5 * hT P r + s) = 0
      · rw [z, sm_0', sm_0]
        exact Nat.zero_le _
      · have cc := u.pp hp hcn t5 a6 (show s < 5 by omega) l1 z
        obtain ⟨f1, f2⟩ := ed_snd (o := o) (cn := cn) hp hr (by omega) hs cc
        have l2 := (hk.2 _ _ hd30 f2 hl f1).1
        refine Nat.le_trans ?_ (mxN_ge _ _ s hs)
        rw [if_pos cc]
        exact sm_mono (Nat.le_refl _) (sm_mono ((u _ e2 l1).2 s (by omega)) ((u _ f2 l2).2 q hq))
/-- what a rule leads to is told in full -/
def EqV (P : PG) (o : Nat) (cn : Nat → Nat → Nat → Bool) (A B : Nat → Nat) (h : Nat) : Prop := ∀ x, x < 30 → edB P o cn h x = true → B x = VB P o cn x ∧ ∀ q, q < 5 → A (5 * x + q) = VA P o cn (5 * x + q)
theorem FAm_ge {A B : Nat → Nat} (hp : WP P) {r q : Nat} (hr : rin P o r = true) (eq : EqV P o cn A B (hdR P r)) (hq : q < 5) : FA P cn (VA P o cn) r q ≤ FAm P A r q := by
  have hl2 := rin_lt hr
  have n2 := hp.n2 hl2
  have p5 := hp.1
  unfold FAm FA
  by_cases c0 : rn P r = 0
  · rw [if_pos c0, if_pos c0]
    exact Nat.le_refl _
  · obtain ⟨e1, e2⟩ := ed_top (cn := cn) hp hr (by omega)
    rw [if_neg c0, if_neg c0]
    by_cases c1 : rn P r = 1
    · rw [if_pos c1, if_pos c1, (eq _ e2 e1).2 q hq]
      exact Nat.le_refl _
    · rw [if_neg c1, if_neg c1]
      refine mxN_le _ (fun s hs => ?_)
      by_cases cc : cn (rt P r) (ra P r) s = true
      · obtain ⟨f1, f2⟩ := ed_snd (o := o) (cn := cn) hp hr (by omega) hs cc
        refine Nat.le_trans ?_ (mxN_ge _ _ s hs)
        rw [if_pos cc, (eq _ e2 e1).2 s (by omega), (eq _ f2 f1).2 q hq]
        exact Nat.le_refl _
      · rw [if_neg cc]
        exact Nat.zero_le _
theorem VB_ge (x : Nat) : 1 ≤ VB P o cn x := (Kl_le 31 x).2.1
theorem FBc_le {A B : Nat → Nat} (u : UV P o cn l A B) (hp : WP P) (hcn : CnOK P o cn) (hk : Rk P o cn l rk) {r : Nat} (hr : rin P o r = true) (hl : l (hdR P r) = false) : FBc P cn A B r ≤ VB P o cn (hdR P r) := by
  refine Nat.le_trans ?_ (FB_V hp hk hr hl)
  have hl2 := rin_lt hr
  have n2 := hp.n2 hl2
  have t5 := hp.t5 hl2
  have p5 := hp.1
  have hd30 := hd_lt hp hl2
  have c2 : 2 ≤ CAPN + 1 := by unfold CAPN; omega
  have two : ∀ y, 1 ≤ y → 2 ≤ sm 2 y := fun y hy => by
    have := sm_mono (Nat.le_refl 2) hy
    rw [sm_1 c2] at this
    exact this
  unfold FBc fbc FB
  by_cases c0 : rn P r = 0
  · rw [if_pos c0, if_pos c0]
    refine Nat.max_le.mpr ⟨two _ (Nat.le_max_left _ _), mxN_le _ (fun s hs => ?_)⟩
    rw [if_neg (by omega)]
    exact Nat.zero_le _
  · have a6 := hp.a6 hl2 (by omega)
    obtain ⟨e1, e2⟩ := ed_top (cn := cn) hp hr (by omega)
    have l1 := (hk.2 _ _ hd30 e2 hl e1).1
    rw [if_neg c0, if_neg c0]
    refine Nat.max_le.mpr ⟨Nat.max_le.mpr ⟨two _ (Nat.le_trans (VB_ge _) (Nat.le_max_left _ _)), sm_mono (Nat.le_refl _) (Nat.le_trans (u _ e2 l1).1.2 (Nat.le_max_left _ _))⟩, mxN_le _ (fun s hs => ?_)⟩
    by_cases cc : rn P r = 2 ∧ cn (rt P r) (ra P r) s = true
    · obtain ⟨f1, f2⟩ := ed_snd (o := o) (cn := cn) hp hr cc.1 hs cc.2
      have l2 := (hk.2 _ _ hd30 f2 hl f1).1
      have v0 : VA P o cn (5 * (6 * rt P r + ra P r) + s) ≠ 0 := V_pop hp hcn hk t5 a6 (show s < 5 by omega) l1 cc.2
      have v1 := (u _ e2 l1).2 s (by omega)
      rw [if_pos cc, sm_assoc]
      refine sm_mono (Nat.le_refl _) (Nat.le_trans ?_ (Nat.le_trans (mxN_ge (fun q => if rn P r = 2 ∧ cn (rt P r) (ra P r) q = true then sm (VA P o cn (5 * hT P r + q)) (VB P o cn (6 * q + rb P r)) else 0) (pS P) s hs) (Nat.le_max_right _ _)))
      simp only [cc, and_self, if_true]
      refine sm_mono (Nat.max_le.mpr ⟨?_, v1⟩) (u _ f2 l2).1.2
      unfold hT
      omega
    · rw [if_neg cc]
      exact Nat.zero_le _
theorem FBc_ge {A B : Nat → Nat} (hp : WP P) {r : Nat} (hr : rin P o r = true) (eq : EqV P o cn A B (hdR P r)) : FB P cn (VA P o cn) (VB P o cn) r ≤ FBc P cn A B r := by
  have hl2 := rin_lt hr
  have n2 := hp.n2 hl2
  have p5 := hp.1
  have c2 : 2 ≤ CAPN + 1 := by unfold CAPN; omega
  unfold FBc fbc FB
  rw [sm_maxR, mxN_sm]
  refine Nat.max_le.mpr ⟨Nat.le_trans ?_ (Nat.le_max_left _ _), Nat.le_trans ?_ (Nat.le_max_right _ _)⟩
  · by_cases c0 : rn P r = 0
    · rw [if_pos c0, if_pos c0, sm_1 c2]
      exact Nat.le_refl _
    · obtain ⟨e1, e2⟩ := ed_top (cn := cn) hp hr (by omega)
      rw [if_neg c0, if_neg c0, (eq _ e2 e1).1]
      exact Nat.le_max_right _ _
  · refine mxN_le _ (fun s hs => ?_)
    by_cases cc : rn P r = 2 ∧ cn (rt P r) (ra P r) s = true
    · obtain ⟨e1, e2⟩ := ed_top (cn := cn) hp hr (by omega)
      obtain ⟨f1, f2⟩ := ed_snd (o := o) (cn := cn) hp hr cc.1 hs cc.2
      refine Nat.le_trans ?_ (mxN_ge _ _ s hs)
      rw [if_pos cc, if_pos cc, ← sm_assoc, (eq _ f2 f1).1, (eq _ e2 e1).2 s (by omega)]
      exact sm_mono (sm_mono (Nat.le_refl _) (Nat.le_max_right _ _)) (Nat.le_refl _)
    · rw [if_neg cc, sm_0]
      exact Nat.zero_le _
theorem FBm_le {A B : Nat → Nat} (u : UV P o cn l A B) (hp : WP P) (hcn : CnOK P o cn) (hk : Rk P o cn l rk) {r : Nat} (hr : rin P o r = true) (hl : l (hdR P r) = false) : FBm P A B r ≤ VB P o cn (hdR P r) := by
  refine Nat.le_trans ?_ (FB_V hp hk hr hl)
  have hl2 := rin_lt hr
  have n2 := hp.n2 hl2
  have t5 := hp.t5 hl2
  have p5 := hp.1
  have hd30 := hd_lt hp hl2
  unfold FBm FB
  refine sm_mono (Nat.le_refl _) (Nat.max_le.mpr ⟨Nat.le_trans ?_ (Nat.le_max_left _ _), Nat.le_trans (mxN_le _ (fun s hs => ?_)) (Nat.le_max_right _ _)⟩)
  · by_cases c0 : rn P r = 0
    · rw [if_pos c0, if_pos c0]
      exact Nat.le_refl _
    · obtain ⟨e1, e2⟩ := ed_top (cn := cn) hp hr (by omega)
      rw [if_neg c0, if_neg c0]
      exact (u _ e2 (hk.2 _ _ hd30 e2 hl e1).1).1.2
  · by_cases c2 : rn P r = 2
    · have a6 := hp.a6 hl2 (by omega)
      obtain ⟨e1, e2⟩ := ed_top (cn := cn) hp hr (by omega)
      have l1 := (hk.2 _ _ hd30 e2 hl e1).1
      rw [if_pos c2]
      by_cases z : A (5 * hT P r + s) = 0
      · rw [z, sm_0']
        exact Nat.zero_le _
      · have cc := u.pp hp hcn t5 a6 (show s < 5 by omega) l1 z
        obtain ⟨f1, f2⟩ := ed_snd (o := o) (cn := cn) hp hr (by omega) hs cc
        have l2 := (hk.2 _ _ hd30 f2 hl f1).1
        refine Nat.le_trans ?_ (mxN_ge _ _ s hs)
        rw [if_pos ⟨c2, cc⟩]
        exact sm_mono ((u _ e2 l1).2 s (by omega)) (u _ f2 l2).1.2
    · rw [if_neg c2]
      exact Nat.zero_le _
theorem FBm_ge {A B : Nat → Nat} (hp : WP P) {r : Nat} (hr : rin P o r = true) (eq : EqV P o cn A B (hdR P r)) : FB P cn (VA P o cn) (VB P o cn) r ≤ FBm P A B r := by
  have hl2 := rin_lt hr
  have n2 := hp.n2 hl2
  have p5 := hp.1
  unfold FBm FB
  refine sm_mono (Nat.le_refl _) (Nat.max_le.mpr ⟨Nat.le_trans ?_ (Nat.le_max_left _ _), Nat.le_trans (mxN_le _ (fun s hs => ?_)) (Nat.le_max_right _ _)⟩)
  · by_cases c0 : rn P r = 0
    · rw [if_pos c0, if_pos c0]
      exact Nat.le_refl _
    · obtain ⟨e1, e2⟩ := ed_top (cn := cn) hp hr (by omega)
      rw [if_neg c0, if_neg c0, (eq _ e2 e1).1]
      exact Nat.le_refl _
  · by_cases cc : rn P r = 2 ∧ cn (rt P r) (ra P r) s = true
    · obtain ⟨e1, e2⟩ := ed_top (cn := cn) hp hr (by omega)
      obtain ⟨f1, f2⟩ := ed_snd (o := o) (cn := cn) hp hr cc.1 hs cc.2
      refine Nat.le_trans ?_ (mxN_ge _ _ s hs)
      rw [if_pos cc, if_pos cc.1, (eq _ f2 f1).1, (eq _ e2 e1).2 s (by omega)]
      exact Nat.le_refl _
    · rw [if_neg cc]
      exact Nat.zero_le _
/-- a turn of a rule -/
def Trn (P : PG) (A B : Nat → Nat) (r W : Nat) (A' B' : Nat → Nat) : Prop := (∀ i, A i ≤ A' i) ∧ (∀ x, B x ≤ B' x) ∧ (∀ i, i / 5 ≠ hdR P r → A' i = A i) ∧ (∀ i, ¬ i % 5 < pS P → A' i = A i) ∧ (∀ x, x ≠ hdR P r → B' x = B x) ∧ (NL P A r → (∀ q, q < pS P → A' (5 * hdR P r + q) = max (A (5 * hdR P r + q)) (FAm P A r q)) ∧ B' (hdR P r) = max (B (hdR P r)) W)
/-- what a rule asks for is there -/
def Dn (P : PG) (o : Nat) (cn : Nat → Nat → Nat → Bool) (r : Nat) (A B : Nat → Nat) : Prop := (∀ q, q < pS P → FA P cn (VA P o cn) r q ≤ A (5 * hdR P r + q)) ∧ FB P cn (VA P o cn) (VB P o cn) r ≤ B (hdR P r)
theorem Dn.mono {r : Nat} {A B A' B' : Nat → Nat} (d : Dn P o cn r A B) (ha : ∀ i, A i ≤ A' i) (hb : ∀ x, B x ≤ B' x) : Dn P o cn r A' B' := ⟨fun q hq => Nat.le_trans (d.1 q hq) (ha _), Nat.le_trans d.2 (hb _)⟩
theorem LV.eqV {k : Nat} {A B : Nat → Nat} (v : LV P o cn l rk k A B) (hk : Rk P o cn l rk) {h : Nat} (hh : h < 30) (hl : l h = false) (hr : rk h < k + 1) : EqV P o cn A B h := fun x hx he => by
  obtain ⟨a, b⟩ := hk.2 h x hh hx hl he
  exact v x hx a (by omega)
theorem Trn.go {A B A' B' : Nat → Nat} {r W k : Nat} (t : Trn P A B r W A' B') (hp : WP P) (hcn : CnOK P o cn) (hk : Rk P o cn l rk) (u : UV P o cn l A B) (v : LV P o cn l rk k A B) (hr : rin P o r = true) (hW : l (hdR P r) = false → W ≤ VB P o cn (hdR P r) ∧ (EqV P o cn A B (hdR P r) → FB P cn (VA P o cn) (VB P o cn) r ≤ W)) :
    UV P o cn l A' B' ∧ LV P o cn l rk k A' B' ∧ (l (hdR P r) = false → rk (hdR P r) < k + 1 → Dn P o cn r A' B') := by
  have hl2 := rin_lt hr
  have hd30 := hd_lt hp hl2
  obtain ⟨t1, t2, t3, t3', t4, t5⟩ := t
  have u' : UV P o cn l A' B' := fun h hh hl => by
    obtain ⟨⟨u1, u2⟩, u3⟩ := u h hh hl
    by_cases e : h = hdR P r
    · rw [e] at hl u1 u2 u3 ⊢
      obtain ⟨x1, x2⟩ := t5 (u.nl hp hcn hk hr hl)
      refine ⟨⟨Nat.le_trans u1 (t2 _), ?_⟩, fun q hq => ?_⟩
      · rw [x2]
        exact Nat.max_le.mpr ⟨u2, (hW hl).1⟩
      · by_cases c : q < pS P
        · rw [x1 q c]
          exact Nat.max_le.mpr ⟨u3 q hq, FAm_le u hp hcn hk hr hl hq⟩
        · rw [t3' _ (by omega)]
          exact u3 q hq
    · rw [t4 h e]
      refine ⟨⟨u1, u2⟩, fun q hq => ?_⟩
      rw [t3 _ (by omega)]
      exact u3 q hq
  refine ⟨u', fun h hh hl hr' => ?_, fun hl hr' => ?_⟩
  · obtain ⟨v1, v2⟩ := v h hh hl hr'
    obtain ⟨⟨u1, u2⟩, u3⟩ := u' h hh hl
    refine ⟨?_, fun q hq => ?_⟩
    · have := t2 h
      omega
    · have := t1 (5 * h + q)
      have := v2 q hq
      have := u3 q hq
      omega
  · have eq := v.eqV hk hd30 hl hr'
    obtain ⟨x1, x2⟩ := t5 (u.nl hp hcn hk hr hl)
    refine ⟨fun q hq => ?_, ?_⟩
    · rw [x1 q hq]
      exact Nat.le_trans (FAm_ge hp hr eq (by have := hp.1; omega)) (Nat.le_max_right _ _)
    · rw [x2]
      exact Nat.le_trans ((hW hl).2 eq) (Nat.le_max_right _ _)
theorem KlA_out (hp : WP P) {y : Nat} (hy : ¬ y < pS P) (y5 : y < 5) : ∀ k h, KlA P o cn k (5 * h + y) = 0
  | 0, _ => rfl
  | k + 1, h => by
    have ih := KlA_out hp hy y5 k
    show PhA P o cn (KlA P o cn k) (5 * h + y) = 0
    unfold PhA
    rw [show (5 * h + y) / 5 = h by omega, show (5 * h + y) % 5 = y by omega]
    refine Nat.eq_zero_of_le_zero (mxN_le _ (fun r' hr' => ?_))
    split
    · have ts : rt P r' < pS P := (hp.2.2.2.2.1 r' hr').2.2.1
      unfold FA
      split
      · rw [if_neg (by omega)]
        exact Nat.le_refl _
      · split
        · rw [ih, sm_0]
          exact Nat.le_refl _
        · refine mxN_le _ (fun s _ => ?_)
          split
          · rw [ih, sm_0, sm_0]
            exact Nat.le_refl _
          · exact Nat.le_refl _
    · exact Nat.le_refl _
theorem LV.next {A B : Nat → Nat} {k : Nat} (hp : WP P) (hk : Rk P o cn l rk) (u : UV P o cn l A B) (h : ∀ r, rin P o r = true → l (hdR P r) = false → rk (hdR P r) < k + 1 → Dn P o cn r A B) : LV P o cn l rk (k + 1) A B := fun x hx hl hr => by
  obtain ⟨⟨u1, u2⟩, u3⟩ := u x hx hl
  obtain ⟨f1, f2⟩ := V_fix hp hk hx hl
  refine ⟨Nat.le_antisymm u2 ?_, fun q hq => Nat.le_antisymm (u3 q hq) ?_⟩
  · rw [f1]
    refine Nat.max_le.mpr ⟨u1, mxN_le _ (fun r _ => ?_)⟩
    by_cases c : ofH P o x r = true
    · obtain ⟨c1, c2⟩ := ofH_iff.mp c
      rw [if_pos c]
      have := (h r c1 (by rw [c2]; exact hl) (by rw [c2]; exact hr)).2
      rw [c2] at this
      exact this
    · rw [if_neg c]
      exact Nat.zero_le _
  · by_cases qs : q < pS P
    · rw [f2 q hq]
      unfold PhA
      rw [show (5 * x + q) / 5 = x by omega, show (5 * x + q) % 5 = q by omega]
      refine mxN_le _ (fun r _ => ?_)
      by_cases c : ofH P o x r = true
      · obtain ⟨c1, c2⟩ := ofH_iff.mp c
        rw [if_pos c]
        have := (h r c1 (by rw [c2]; exact hl) (by rw [c2]; exact hr)).1 q qs
        rw [c2] at this
        exact this
      · rw [if_neg c]
        exact Nat.zero_le _
    · have : VA P o cn (5 * x + q) = 0 := KlA_out hp qs hq 31 x
      omega
/-- where nothing changes any more, all is told -/
theorem LV.clo {A B : Nat → Nat} (hp : WP P) (hk : Rk P o cn l rk) (u : UV P o cn l A B) (h : ∀ r, rin P o r = true → l (hdR P r) = false → (∀ q, q < pS P → FAm P A r q ≤ A (5 * hdR P r + q)) ∧ FBc P cn A B r ≤ B (hdR P r)) : ∀ k, LV P o cn l rk k A B
  | 0 => fun _ _ _ q => absurd q (Nat.not_lt_zero _)
  | k + 1 => by
    have ih := LV.clo hp hk u h k
    refine LV.next hp hk u (fun r hr hl hrk => ?_)
    have eq := ih.eqV hk (hd_lt hp (rin_lt hr)) hl hrk
    obtain ⟨a, b⟩ := h r hr hl
    exact ⟨fun q hq => Nat.le_trans (FAm_ge hp hr eq (by have := hp.1; omega)) (a q hq), Nat.le_trans (FBc_ge hp hr eq) b⟩
end TURN
