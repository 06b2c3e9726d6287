/-! WHAT A STACK COSTS, AT THE CLASS -/
def val (n : Nat) (e : Nat → Nat → Nat → Nat) (z : Nat → Nat) (s : Nat → Nat) : Nat → Nat → Nat
  | 0, x => z x
  | h + 1, x => mnf (fun y => cp (e x (s h) y) (val n e z s h y)) n
theorem val_congr {n : Nat} {e e' : Nat → Nat → Nat → Nat} {z z' s s' : Nat → Nat} : ∀ (H : Nat), (∀ h, h < H → s h = s' h) → (∀ h, h < H → ∀ x y, x < n → y < n → e x (s h) y = e' x (s h) y) → (∀ x, x < n → z x = z' x) → ∀ x, x < n → val n e z s H x = val n e' z' s' H x
  | 0, _, _, hz, x, hx => hz x hx
  | H + 1, hs, he, hz, x, hx => by
    show mnf (fun y => cp (e x (s H) y) (val n e z s H y)) n = mnf (fun y => cp (e' x (s' H) y) (val n e' z' s' H y)) n
    refine mnf_congr n (fun y hy => ?_)
    rw [he H (by omega) x y hx hy, hs H (by omega), val_congr H (fun h hh => hs h (by omega)) (fun h hh => he h (by omega)) hz y hy]
theorem val_far {n : Nat} {e : Nat → Nat → Nat → Nat} {z s : Nat → Nat} (hz : ∀ x, x < n → z x ≤ FARN) : ∀ (H : Nat), ∀ x, x < n → val n e z s H x ≤ FARN
  | 0, x, hx => hz x hx
  | H + 1, x, _ => mnf_far _ _
def eC (E : Nat → Nat) : Nat → Nat → Nat → Nat := fun x g y => E (ix 15 x g y)
def RwOK (E z s R : Nat → Nat) (H : Nat) : Prop := ∀ h x, h ≤ H → x < 15 → R (h * 15 + x) = val 15 (eC E) z s h x
def layR (R : Nat → Nat) (k j : Nat) (v : Nat → Nat) : Nat → Nat := fun i => if (k + 1) * 15 ≤ i ∧ i < (k + 1) * 15 + j then v (i - (k + 1) * 15) else R i
theorem RwOK.lay {E z s R : Nat → Nat} {k : Nat} (h : RwOK E z s R k) : RwOK E z s (layR R k 15 (fun x => mnf (fun y => cp (E (ix 15 x (s k) y)) (R (k * 15 + y))) 15)) (k + 1) := by
  intro q x hq hx
  unfold layR
  by_cases c : q = k + 1
  · subst c
    rw [if_pos (by omega), show (k + 1) * 15 + x - (k + 1) * 15 = x by omega]
    show _ = mnf (fun y => cp (eC E x (s k) y) (val 15 (eC E) z s k y)) 15
    exact mnf_congr 15 (fun y hy => by rw [h k y (Nat.le_refl _) hy]; rfl)
  · rw [if_neg (by omega)]
    exact h q x (by omega) hx
theorem RwOK.less {E z s R : Nat → Nat} {k j : Nat} (h : RwOK E z s R k) (q : j ≤ k) : RwOK E z s R j := fun i x hi hx => h i x (by omega) hx
theorem RwOK.cg {E z s s' R : Nat → Nat} {k : Nat} (h : RwOK E z s R k) (q : ∀ i, i < k → s i = s' i) : RwOK E z s' R k := fun i x hi hx => by
  rw [h i x hi hx]
  exact val_congr i (fun j hj => q j (by omega)) (fun _ _ _ _ _ _ => rfl) (fun _ _ => rfl) x hx
/-- a place of the class -/
def PlC (M : MM) (b p H : Nat) (s : Nat → Nat) : Prop := PlA b ∧ mI M b 0 = nI (pcl b) ∧ mI M b 2 = nI p ∧ mI M b 3 = nI H ∧ H ≤ pcl b ∧ ∀ i, i < H → mI M (b + 2) i = nI (s i)
section ROW
variable {M : MM} {a a1 b : Nat} {P : PG}
theorem L1_layRow (w : Wl M) (h : CoA a) {E R v : Nat → Nat} (hE : mJ M (a + 2) = lR E) (bE : Bd 1350 E) (bR : Bd (nrw a) R) {k g : Nat} (hk : (k + 2) * 15 ≤ nrw a) (hg : g < 6) (hv : ∀ x, v x = mnf (fun y => cp (E (ix 15 x g y)) (R (k * 15 + y))) 15) :
    ∀ (d j : Nat), j + d = 15 → ∀ f, d < f → LP5 f1_layRow_b2_body f (uJ M (a + 4) (lR (layR R k j v))) a (nI k) (nI g) (nI j) = some (uJ M (a + 4) (lR (layR R k 15 v)))
  | 0, j, hj, f + 1, _ => by
    have e : j = 15 := by omega
    subst e
    show f1_layRow_b2_body _ _ _ _ _ _ = _
    generalize LP5 f1_layRow_b2_body f = K
    unfold f1_layRow_b2_body
    rw [lit_15, if_pos (nI_le (Nat.le_refl _) (by omega))]
  | d + 1, j, hj, f + 1, hf => by
    have ih := L1_layRow w h hE bE bR hk hg hv d (j + 1) (by omega) f (by omega)
    have h3 := nrw_lt a
    show f1_layRow_b2_body _ _ _ _ _ _ = _
    generalize LP5 f1_layRow_b2_body f = K at ih ⊢
    unfold f1_layRow_b2_body
    have bR' : Bd (nrw a) (layR R k j v) := fun i hi => by
      unfold layR
      split
      · rw [hv]
        exact mnf_far _ _
      · exact bR i hi
    have w' : Wl (uJ M (a + 4) (lR (layR R k j v))) := w
    have hE' : mJ (uJ M (a + 4) (lR (layR R k j v))) (a + 2) = lR E := by
      rw [mJ_uJ, if_neg (by omega), hE]
    have hR' : mJ (uJ M (a + 4) (lR (layR R k j v))) (a + 4) = lR (layR R k j v) := by
      rw [mJ_uJ, if_pos rfl]
    have hj15 : j < 15 := by omega
    have hk15 : k * 15 + 15 ≤ nrw a := by omega
    have el : f1_leftBy (uJ M (a + 4) (lR (layR R k j v))) a (nI k) (nI j) (nI g) = some (lN (v j), uJ M (a + 4) (lR (layR R k j v))) := by
      refine (S1_leftBy w' h hE' hR' bE bR' hk15 hj15 hg).trans ?_
      rw [hv]
      refine congrArg (fun z => some (lN z, uJ M (a + 4) (lR (layR R k j v)))) (mnf_congr 15 (fun y hy => congrArg (cp _) ?_))
      clear hv
      unfold layR
      rw [if_neg (by omega)]
    clear hv
    rw [lit_15, if_neg (nI_ge (by omega) (by omega)), Co.o w' h, Co.o w' h, el, cJ_some, Co.r1 w' h, Co.o3 w' h, nI_1, nI_mulN, nI_add, Co.setR w' h, cV_some, pJ_in (by omega) (by omega), hR', uJ_uJ, lR_upx, nI_1, ← ih]
    congr 3
    funext i
    rw [upx_e]
    unfold layR
    by_cases c : i = (k + 1) * 15 + j
    · rw [if_pos c, if_pos (by omega)]
      congr 1
      omega
    · rw [if_neg c]
      by_cases c2 : (k + 1) * 15 ≤ i ∧ i < (k + 1) * 15 + j
      · rw [if_pos c2, if_pos (by omega)]
      · rw [if_neg c2, if_neg (by omega)]
theorem S1_layRow (w : Wl M) (h : CoA a) {E R : Nat → Nat} (hE : mJ M (a + 2) = lR E) (bE : Bd 1350 E) (bR : Bd (nrw a) R) {k g : Nat} (hk : (k + 2) * 15 ≤ nrw a) (hg : g < 6) :
    f1_layRow (uJ M (a + 4) (lR R)) a (nI k) (nI g) = some (uJ M (a + 4) (lR (layR R k 15 (fun x => mnf (fun y => cp (E (ix 15 x g y)) (R (k * 15 + y))) 15)))) := by
  have q := L1_layRow w h hE bE bR hk hg (fun x => rfl) 15 0 (by omega) FU (FU_big (by omega))
  have e : layR R k 0 (fun x => mnf (fun y => cp (E (ix 15 x g y)) (R (k * 15 + y))) 15) = R := by
    funext i
    unfold layR
    rw [if_neg (by omega)]
  rw [e] at q
  exact q
theorem layR_bd {R v : Nat → Nat} {K k : Nat} (h : Bd K R) (hv : ∀ x, v x ≤ FARN) : Bd K (layR R k 15 v) := fun i hi => by
  unfold layR
  split
  · exact hv _
  · exact h i hi
theorem L1_of (w : Wl M) (h : CoA a) {E z s : Nat → Nat} (hE : mJ M (a + 2) = lR E) (bE : Bd 1350 E) {p H : Nat} (hp : p < 15) (hb : PlC M b p H s) (hH : (H + 1) * 15 ≤ nrw a) (hs : ∀ i, i < H → s i < 6) :
    ∀ (d j : Nat), j + d = H → ∀ f, d < f → ∀ R, Bd (nrw a) R → RwOK E z s R j →
    ∃ R', LP4 f1_of_b2_body f (uJ M (a + 4) (lR R)) a b (nI j) = some (lN (val 15 (eC E) z s H p), uJ M (a + 4) (lR R')) ∧ RwOK E z s R' H ∧ Bd (nrw a) R'
  | 0, j, hj, f + 1, _, R, bR, hR => by
    have e : j = H := by omega
    subst e
    refine ⟨R, ?_, hR, bR⟩
    obtain ⟨hb1, hb0, hb2, hb3, hb4, hb5⟩ := hb
    have hpc := pcl_lt b
    have w' : Wl (uJ M (a + 4) (lR R)) := w
    show f1_of_b2_body _ _ _ _ _ = _
    generalize LP4 f1_of_b2_body f = K
    unfold f1_of_b2_body
    rw [Pl.o w' hb1]
    show (if mI M b 3 ≤ nI j then _ else _) = _
    rw [hb3, if_pos (nI_le (Nat.le_refl _) (by omega)), Pl.o w' hb1, Pl.o w' hb1, Co.o w' h]
    show cJ (f1_left (uJ M (a + 4) (lR R)) a (mI M b 3) (mI M b 2)) _ = _
    rw [hb3, hb2, S1_left w' h (by omega), cJ_some, mJ_uJ, if_pos rfl]
    show some (lN (R (j * 15 + p)), _) = _
    rw [hR j p (Nat.le_refl _) hp]
  | d + 1, j, hj, f + 1, hf, R, bR, hR => by
    have hpc := pcl_lt b
    obtain ⟨R', h1, h2, h3⟩ := L1_of w h hE bE hp hb hH hs d (j + 1) (by omega) f (by omega) _ (layR_bd bR (fun x => mnf_far _ _)) hR.lay
    refine ⟨R', ?_, h2, h3⟩
    obtain ⟨hb1, hb0, hb2, hb3, hb4, hb5⟩ := hb
    have w' : Wl (uJ M (a + 4) (lR R)) := w
    rw [← h1]
    show f1_of_b2_body _ _ _ _ _ = _
    generalize LP4 f1_of_b2_body f = K
    unfold f1_of_b2_body
    rw [Pl.o w' hb1]
    show (if mI M b 3 ≤ nI j then _ else _) = _
    rw [hb3, if_neg (nI_ge (by omega) (by omega)), Pl.o w' hb1, S6_signAt w' hb1 (by omega), cI_some, Co.o w' h]
    show cV (f1_layRow (uJ M (a + 4) (lR R)) a (nI j) (mI M (b + 2) j)) _ = _
    rw [hb5 j (by omega), S1_layRow w h hE bE bR (by omega) (hs j (by omega)), cV_some, nI_1]
theorem S1_of (w : Wl M) (h : CoA a) {E z s R : Nat → Nat} (hE : mJ M (a + 2) = lR E) (hR : mJ M (a + 4) = lR R) (bE : Bd 1350 E) (bR : Bd (nrw a) R) (hz : ∀ x, x < 15 → R x = z x) {p H : Nat} (hp : p < 15) (hb : PlC M b p H s) (hH : (H + 1) * 15 ≤ nrw a) (hs : ∀ i, i < H → s i < 6) :
    ∃ R', f1_of M a b = some (lN (val 15 (eC E) z s H p), uJ M (a + 4) (lR R')) ∧ RwOK E z s R' H ∧ Bd (nrw a) R' := by
  have hpc := pcl_lt b
  have := L1_of w h hE bE hp hb hH hs H 0 (by omega) FU (FU_big (by have := hb.2.2.2.2.1; omega)) R bR (z := z) (fun q x hq hx => by
    have : q = 0 := by omega
    subst this
    rw [Nat.zero_mul, Nat.zero_add, hz x hx]
    rfl)
  rw [uJ_eq hR.symm] at this
  exact this
/-- behind a rule -/
def beh (n : Nat) (e : Nat → Nat → Nat → Nat) (V : Nat → Nat) (P : PG) (r : Nat) : Nat :=
  if rn P r = 0 then V (rt P r) else if rn P r = 1 then mnf (fun y => cp (e (rt P r) (ra P r) y) (V y)) n
  else mnf (fun y => cp (e (rt P r) (ra P r) y) (mnf (fun x => cp (e y (rb P r) x) (V x)) n)) n
theorem L1_beh (w : Wl M) (h : CoA a) {E R : Nat → Nat} (hE : mJ M (a + 2) = lR E) (hR : mJ M (a + 4) = lR R) (bE : Bd 1350 E) (bR : Bd (nrw a) R) {k x g g2 : Nat} (hk : k * 15 + 15 ≤ nrw a) (hx : x < 15) (hg : g < 6) (hg2 : g2 < 6) :
    ∀ (d j : Nat), j + d = 15 → ∀ f, d < f → LP8 f1_behind_b72_body f M a (nI k) (nI x) (nI g) (nI g2) (lN (mnf (fun y => cp (E (ix 15 x g y)) (mnf (fun z => cp (E (ix 15 y g2 z)) (R (k * 15 + z))) 15)) j)) (nI j) = some (lN (mnf (fun y => cp (E (ix 15 x g y)) (mnf (fun z => cp (E (ix 15 y g2 z)) (R (k * 15 + z))) 15)) 15), M)
  | 0, j, hj, f + 1, _ => by
    have e : j = 15 := by omega
    subst e
    show f1_behind_b72_body _ _ _ _ _ _ _ _ _ = _
    generalize LP8 f1_behind_b72_body f = K
    unfold f1_behind_b72_body
    rw [lit_15, if_pos (nI_le (Nat.le_refl _) (by omega))]
  | d + 1, j, hj, f + 1, hf => by
    have ih := L1_beh w h hE hR bE bR hk hx hg hg2 d (j + 1) (by omega) f (by omega)
    show f1_behind_b72_body _ _ _ _ _ _ _ _ _ = _
    generalize LP8 f1_behind_b72_body f = K at ih ⊢
    unfold f1_behind_b72_body f1_behind_b121
    have hi := ix15_lt hx hg (show j < 15 by omega)
    have b1 := bE _ hi
    have b2 := mnf_far (fun z => cp (E (ix 15 j g2 z)) (R (k * 15 + z))) 15
    have b3 := mnf_far (fun y => cp (E (ix 15 x g y)) (mnf (fun z => cp (E (ix 15 y g2 z)) (R (k * 15 + z))) 15)) j
    rw [lit_15, if_neg (nI_ge (by omega) (by omega)), Co.o w h, S1_edge w h hx hg (by omega), cJ_some, hE, nI_1, Co.o w h, S1_leftBy w h hE hR bE bR hk (by omega) hg2, cJ_some]
    show (if lN _ ≤ lN (E (ix 15 x g j)) then _ else cJ (f4_sum M (lN (E (ix 15 x g j))) (lN _)) _) = _
    rw [S4_sum b1 b2, cJ_some, bW_e, mnL_N (le63 b3) (le63 (cp_far _ _))]
    simp only [lN_leN (le63 b3) (le63 b1)]
    by_cases c : mnf (fun y => cp (E (ix 15 x g y)) (mnf (fun z => cp (E (ix 15 y g2 z)) (R (k * 15 + z))) 15)) j ≤ E (ix 15 x g j)
    · have e : mnf (fun y => cp (E (ix 15 x g y)) (mnf (fun z => cp (E (ix 15 y g2 z)) (R (k * 15 + z))) 15)) (j + 1) = mnf (fun y => cp (E (ix 15 x g y)) (mnf (fun z => cp (E (ix 15 y g2 z)) (R (k * 15 + z))) 15)) j := Nat.min_eq_left (Nat.le_trans c (cp_geL b1))
      rw [if_pos c, ← e]
      exact ih
    · rw [if_neg c]
      exact ih
theorem S1_behind (w : Wl M) (h : CoA a) {E R : Nat → Nat} (hE : mJ M (a + 2) = lR E) (hR : mJ M (a + 4) = lR R) (bE : Bd 1350 E) (bR : Bd (nrw a) R) {p H : Nat} {s : Nat → Nat} (hb : PlC M b p (H + 1) s) (hH : H * 15 + 15 ≤ nrw a) (hp : WP P) (hP : PgC M a1 P) {r : Nat} (hr : r < pR P) :
    f1_behind M a b a1 (nI r) = some (lN (beh 15 (eC E) (fun x => R (H * 15 + x)) P r), M) := by
  obtain ⟨hb1, hb0, hb2, hb3, hb4, hb5⟩ := hb
  have t5 := hp.t5 hr
  have n2 := hp.n2 hr
  unfold f1_behind beh
  rw [Pl.o w hb1, hb3, nI_sub1 (by omega), bW_e, hP.o w, S7_or2 w hP hr hp, cI_some, hP.o w, S7_or4 w hP hr hp, cI_some, hP.o w, S7_or5 w hP hr hp, cI_some, Co.o w h, Co.o w h, show H + 1 - 1 = H by omega]
  by_cases c0 : rn P r = 0
  · simp only [if_pos c0, if_true]
    rw [S1_left w h (by omega), cJ_some, hR]
    rfl
  · have a6 := hp.a6 hr (by omega)
    simp only [if_neg c0]
    rw [if_neg (nI_neM (by omega))]
    by_cases c1 : rn P r = 1
    · rw [if_pos c1, if_pos (show rn P r ≤ 1 by omega), if_pos rfl, S1_leftBy w h hE hR bE bR hH (by omega) a6, cJ_some]
      rfl
    · have b6 := hp.b6 hr (by omega)
      rw [if_neg c1, if_neg (show ¬ rn P r ≤ 1 by omega), if_neg (nI_neM (by omega))]
      exact L1_beh w h hE hR bE bR hH (by omega) a6 b6 15 0 (by omega) FU (FU_big (by omega))
end ROW
theorem beh_val {n : Nat} {e : Nat → Nat → Nat → Nat} {z s s' : Nat → Nat} {P : PG} {r H : Nat} (hn : rt P r < n) (n2 : rn P r ≤ 2) (h0 : ∀ i, i < H → s' i = s i) (h1 : rn P r = 1 → s' H = ra P r) (h2 : rn P r = 2 → s' H = rb P r ∧ s' (H + 1) = ra P r) : beh n e (fun x => val n e z s H x) P r = val n e z s' (H + rn P r) (rt P r) := by
  have hv : ∀ x, x < n → val n e z s H x = val n e z s' H x := val_congr H (fun h hh => (h0 h hh).symm) (fun _ _ _ _ _ _ => rfl) (fun _ _ => rfl)
  unfold beh
  by_cases c0 : rn P r = 0
  · rw [if_pos c0, c0]
    exact hv _ hn
  · rw [if_neg c0]
    by_cases c1 : rn P r = 1
    · rw [if_pos c1, c1]
      show _ = mnf (fun y => cp (e (rt P r) (s' H) y) (val n e z s' H y)) n
      rw [h1 c1]
      exact mnf_congr n (fun y hy => congrArg (cp _) (hv y hy))
    · have c2 : rn P r = 2 := by omega
      rw [if_neg c1, c2]
      show _ = mnf (fun y => cp (e (rt P r) (s' (H + 1)) y) (mnf (fun x => cp (e y (s' H) x) (val n e z s' H x)) n)) n
      rw [(h2 c2).1, (h2 c2).2]
      refine mnf_congr n (fun y _ => ?_)
      congr 1
      exact mnf_congr n (fun x hx => congrArg (cp _) (hv x hx))
