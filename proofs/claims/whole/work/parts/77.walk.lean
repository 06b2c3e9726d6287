/-! THE WAY: rules by which a cost is less -/
theorem least_ex {Q : Nat → Prop} : ∀ n, Q n → ∃ m, Q m ∧ m ≤ n ∧ ∀ k, k < m → ¬ Q k := by
  intro n
  induction n using Nat.strongRecOn with
  | ind n ih =>
    intro h
    by_cases c : ∃ k, k < n ∧ Q k
    · obtain ⟨k, hk, q⟩ := c
      obtain ⟨m, a, b, e⟩ := ih k hk q
      exact ⟨m, a, by omega, e⟩
    · exact ⟨n, h, Nat.le_refl _, fun k hk q => c ⟨k, hk, q⟩⟩
section WALK
variable {P : PG} {o : Nat} {T : TG} {E z s : Nat → Nat}
theorem costN_ex2 (hp : WP P) {p H : Nat} (h1 : p < pS P) (h2 : ∀ i, i < H → s i < pG P) (o : Nat) {T : TG} (hT : okT (pG P) T) : ∃ v, costN P o T (some (p, H, s)) v := by
  obtain ⟨E, R, hE⟩ := Std_ex hp o T
  obtain ⟨F, hF⟩ := Net_ex hp o T
  have p5 := hp.1
  have b : val 15 (eC E) (z15 T) s H p ≤ FARN := val_far (fun x _ => z15_far T x) H p (by omega)
  refine ⟨val 15 (eC E) (z15 T) s H p, b, fun E' R' h' => ?_, fun F' D' h' hD' => cost_eq hp hT hD' hE h' h2 h1⟩
  show _ = val 15 (eC E') (z15 T) s H p
  rw [cost_eq hp hT (okD_T T) hE hF h2 h1, cost_eq hp hT (okD_T T) h' hF h2 h1]
theorem D15_ge (hT : okT (pG P) T) {y g x : Nat} (hg : g < 6) (hx : x < 15) (h : allS (pG P) T (ix 15 y g x) = true) : 5 ≤ x := by
  rcases allS_iff.mp h with ⟨g', h1, h2⟩ | ⟨k, hk, h | ⟨j, h1, h2⟩⟩
  · have g6 := hT.1
    have := (ix_inj5 hg hx (by omega) (by omega) h2).2.2
    omega
  · obtain ⟨-, -, g', h1, h2⟩ := h
    have g6 := hT.1
    have := (ix_inj5 hg hx (by omega) (by omega) h2).2.2
    omega
  · have g6 := hT.1
    have g1 := (hT.2.2 k hk).2.2.2 j h1
    have := (ix_inj5 hg hx (by omega) (nodeC_15 hT hk (by omega)) h2).2.2
    rw [this]
    exact nodeC_ge (by omega)
theorem val_z (hT : okT (pG P) T) (dE : DeE (D15 (pG P) T) E) : ∀ h, (∀ i, i < h → s i < 6) → ∀ y, 5 ≤ y → y < 15 → val 15 (eC E) (z15 T) s h y = 0 ∨ val 15 (eC E) (z15 T) s h y = FARN
  | 0, _, y, _, _ => by
    show z15 T y = 0 ∨ z15 T y = FARN
    unfold z15
    split
    · exact .inl rfl
    · exact .inr rfl
  | h + 1, hs, y, h5, hy => by
    have ih := val_z hT dE h (fun i hi => hs i (by omega))
    rcases mnf_ex (fun x => cp (eC E y (s h) x) (val 15 (eC E) (z15 T) s h x)) 15 with q | ⟨x, hx, q⟩
    · exact .inr q
    · have e : val 15 (eC E) (z15 T) s (h + 1) y = cp (E (ix 15 y (s h) x)) (val 15 (eC E) (z15 T) s h x) := q
      rw [e, dE y (s h) x h5 hy (hs h (by omega)) hx]
      by_cases c : D15 (pG P) T y (s h) x = true
      · rw [if_pos c, cp_0F (ih x (D15_ge hT (hs h (by omega)) hx c) hx)]
        exact ih x (D15_ge hT (hs h (by omega)) hx c) hx
      · rw [if_neg c, cp_F']
        exact .inr rfl
theorem beh_cg {n : Nat} {e : Nat → Nat → Nat → Nat} {V V' : Nat → Nat} {r : Nat} (hn : rt P r < n) (h : ∀ x, x < n → V x = V' x) : beh n e V P r = beh n e V' P r := by
  unfold beh
  split
  · exact h _ hn
  · split
    · exact mnf_congr n (fun y hy => by rw [h y hy])
    · exact mnf_congr n (fun y _ => by rw [mnf_congr n (fun x hx => by rw [h x hx])])
theorem push_val {n : Nat} {e : Nat → Nat → Nat → Nat} (hp : WP P) {r H : Nat} (hr : r < pR P) (hn : 5 ≤ n) : beh n e (fun x => val n e z s H x) P r = val n e z (pushR P r H s) (H + rn P r) (rt P r) := by
  have n2 := hp.n2 hr
  refine beh_val (Nat.lt_of_lt_of_le (hp.t5 hr) hn) n2 (fun i hi => ?_) (fun h1 => ?_) (fun h2 => ?_)
  · unfold pushR
    split
    · rfl
    · split
      · rw [upx_e, if_neg (by omega)]
      · rw [upx_e, if_neg (by omega), upx_e, if_neg (by omega)]
  · unfold pushR
    rw [if_neg (by omega), if_pos h1, upx_e, if_pos rfl]
  · unfold pushR
    rw [if_neg (by omega), if_neg (by omega)]
    refine ⟨?_, ?_⟩
    · rw [upx_e, if_neg (by omega), upx_e, if_pos rfl]
    · rw [upx_e, if_pos rfl]
theorem rfor_in {r p g : Nat} (h : rfor P o r p g = true) : rin P o r = true ∧ rp P r = p ∧ rg P r = g := by
  unfold rfor at h
  rw [Bool.and_eq_true, Bool.and_eq_true] at h
  exact ⟨h.1, of_decide_eq_true h.2.1, of_decide_eq_true h.2.2⟩
theorem rfor_of {r : Nat} (h : rin P o r = true) : rfor P o r (rp P r) (rg P r) = true := by
  unfold rfor
  rw [h]
  simp
theorem val_le (hp : WP P) {R : Nat → Nat} (hE : Std P o T E R) {h p r : Nat} (hr : rfor P o r p (s h) = true) : val 15 (eC E) (z15 T) s (h + 1) p ≤ cp (rc P r) (beh 15 (eC E) (fun x => val 15 (eC E) (z15 T) s h x) P r) := by
  obtain ⟨h1, rfl, h3⟩ := rfor_in hr
  have hl := rin_lt h1
  have t5 := hp.t5 hl
  have c99 := hp.c99 hl
  have st := hE.2.1.1.2.2 r h1
  have le : ∀ y, y < 15 → val 15 (eC E) (z15 T) s (h + 1) (rp P r) ≤ cp (E (ix 15 (rp P r) (rg P r) y)) (val 15 (eC E) (z15 T) s h y) := fun y hy => by
    rw [h3]
    exact mnf_le (fun y => cp (eC E (rp P r) (s h) y) (val 15 (eC E) (z15 T) s h y)) 15 y hy
  have top : val 15 (eC E) (z15 T) s (h + 1) (rp P r) ≤ FARN := mnf_far _ _
  unfold beh
  by_cases c0 : rn P r = 0
  · rw [if_pos c0]
    exact Nat.le_trans (le _ (by omega)) (cp_mono (st.1 c0) (Nat.le_refl _))
  · rw [if_neg c0]
    have a6 := hp.a6 hl (by omega)
    by_cases c1 : rn P r = 1
    · rw [if_pos c1]
      rcases mnf_ex (fun y => cp (eC E (rt P r) (ra P r) y) (val 15 (eC E) (z15 T) s h y)) 15 with q | ⟨y, hy, q⟩
      · rw [q, cp_F]
        exact top
      · rw [q, ← cp_assoc]
        exact Nat.le_trans (le y hy) (cp_mono (st.2.1 c1 y hy) (Nat.le_refl _))
    · have c2 : rn P r = 2 := by have := hp.n2 hl; omega
      have b6 := hp.b6 hl (by omega)
      rw [if_neg c1]
      rcases mnf_ex (fun y => cp (eC E (rt P r) (ra P r) y) (mnf (fun x => cp (eC E y (rb P r) x) (val 15 (eC E) (z15 T) s h x)) 15)) 15 with q | ⟨y, hy, q⟩
      · rw [q, cp_F]
        exact top
      · rcases mnf_ex (fun x => cp (eC E y (rb P r) x) (val 15 (eC E) (z15 T) s h x)) 15 with q2 | ⟨x, hx, q2⟩
        · rw [q, q2, cp_F, cp_F]
          exact top
        · rw [q, q2, ← cp_assoc, ← cp_assoc]
          refine Nat.le_trans (le x hx) (cp_mono ?_ (Nat.le_refl _))
          have := st.2.2 c2 x hx y hy
          rw [onw_e hE.2.2.1 hy b6 hx] at this
          rw [cp_assoc]
          exact this
theorem val_ex (hp : WP P) (hT : okT (pG P) T) {R : Nat → Nat} (hE : Std P o T E R) {h p : Nat} (h5 : p < 5) (hs : ∀ i, i < h + 1 → s i < 6) (h0 : 0 < val 15 (eC E) (z15 T) s (h + 1) p) (hF : val 15 (eC E) (z15 T) s (h + 1) p < FARN) : ∃ r, rfor P o r p (s h) = true ∧ cp (rc P r) (beh 15 (eC E) (fun x => val 15 (eC E) (z15 T) s h x) P r) = val 15 (eC E) (z15 T) s (h + 1) p := by
  have hg := hs h (by omega)
  rcases mnf_ex (fun y => cp (eC E p (s h) y) (val 15 (eC E) (z15 T) s h y)) 15 with q | ⟨y, hy, q⟩
  · have : val 15 (eC E) (z15 T) s (h + 1) p = FARN := q
    omega
  · have e : val 15 (eC E) (z15 T) s (h + 1) p = cp (E (ix 15 p (s h) y)) (val 15 (eC E) (z15 T) s h y) := q
    by_cases cI : allS (pG P) T (ix 15 p (s h) y) = true
    · exfalso
      have e0 := hE.2.1.1.2.1 _ (ix_lt h5 hg hy) cI
      have y5 := D15_ge hT hg hy cI
      have vz := val_z hT hE.2.2.1 h (fun i hi => hs i (by omega)) y y5 hy
      rw [e0, cp_0F vz] at e
      omega
    · rw [Bool.not_eq_true] at cI
      have hne : E (ix 15 p (s h) y) ≠ FARN := fun z => by
        rw [z, cp_F'] at e
        omega
      obtain ⟨r, h1, h2, h3, ha⟩ := GC_attain hp (by omega) hE.2.1 h5 hg hy cI hne
      have hl := rin_lt h1
      have hfor : rfor P o r p (s h) = true := by
        have := rfor_of h1
        rw [h2, h3] at this
        exact this
      refine ⟨r, hfor, Nat.le_antisymm ?_ (val_le hp hE hfor)⟩
      rw [e]
      unfold beh
      rcases ha with ⟨c0, q1, q2⟩ | ⟨c1, q2⟩ | ⟨c2, y', hy', q2⟩
      · rw [if_pos c0, q2, q1]
        exact Nat.le_refl _
      · rw [if_neg (by omega), if_pos c1, q2, cp_assoc]
        exact cp_mono (Nat.le_refl _) (mnf_le (fun y => cp (eC E (rt P r) (ra P r) y) (val 15 (eC E) (z15 T) s h y)) 15 y hy)
      · have b6 := hp.b6 hl (by omega)
        rw [onw_e hE.2.2.1 hy' b6 hy] at q2
        rw [if_neg (by omega), if_neg (by omega), q2, cp_assoc, cp_assoc]
        refine cp_mono (Nat.le_refl _) (Nat.le_trans (mnf_le _ 15 y' hy') (cp_mono (Nat.le_refl _) ?_))
        exact mnf_le (fun x => cp (eC E y' (rb P r) x) (val 15 (eC E) (z15 T) s h x)) 15 y hy
/-- a rule of the way -/
def wayQ (P : PG) (o : Nat) (T : TG) (p h : Nat) (s : Nat → Nat) (left r : Nat) : Prop := rfor P o r p (s h) = true ∧ ∀ v, costN P o T (some (rt P r, h + rn P r, pushR P r h s)) v → cp (rc P r) v = left
theorem push_lt (hp : WP P) {r h : Nat} (hr : r < pR P) (hs : ∀ i, i < h → s i < pG P) : ∀ i, i < h + rn P r → pushR P r h s i < pG P := by
  intro i hi
  obtain ⟨-, -, -, n2, a6, b6, -, -⟩ := hp.2.2.2.2.1 r hr
  unfold pushR
  split
  · exact hs i (by omega)
  · split
    · rw [upx_e]
      split
      · exact a6 (by omega)
      · exact hs i (by omega)
    · rw [upx_e]
      split
      · exact a6 (by omega)
      · rw [upx_e]
        split
        · exact b6 (by omega)
        · exact hs i (by omega)
theorem wayQ_ex (hp : WP P) (hT : okT (pG P) T) {p H left : Nat} (h1 : p < pS P) (h2 : ∀ i, i < H → s i < pG P) (hv : costN P o T (some (p, H, s)) left) (h0 : 0 < left) (hF : left < FARN) : ∃ h r, H = h + 1 ∧ r < pR P ∧ wayQ P o T p h s left r ∧ ∀ k, k < r → ¬ wayQ P o T p h s left k := by
  have p5 := hp.1
  have g6 := hp.2.1
  obtain ⟨E, R, hE⟩ := Std_ex hp o T
  have e := hv.2.1 E R hE
  rcases H with _ | h
  · exfalso
    have e' : left = z15 T p := e
    unfold z15 at e'
    split at e' <;> omega
  · have e' : left = val 15 (eC E) (z15 T) s (h + 1) p := e
    obtain ⟨r, q1, q2⟩ := val_ex hp hT hE (show p < 5 by omega) (fun i hi => Nat.lt_of_lt_of_le (h2 i hi) g6) (by omega) (by omega)
    have hl := rin_lt (rfor_in q1).1
    obtain ⟨m, a1, a2, a3⟩ := least_ex (Q := wayQ P o T p h s left) r ⟨q1, fun v hv' => by
      have e2 : v = val 15 (eC E) (z15 T) (pushR P r h s) (h + rn P r) (rt P r) := hv'.2.1 E R hE
      rw [e2, ← push_val hp hl (by omega), e', q2]⟩
    exact ⟨h, m, rfl, by omega, a1, a3⟩
end WALK
section FOLLOW
variable {M : MM} {P : PG} {o a1 : Nat}
/-- the class's walk at a place of the way -/
def WkC (M : MM) (a1 : Nat) (P : PG) (o p H : Nat) (s : Nat → Nat) (t : Nat) (f : Nat → Nat) : Prop := Wl M ∧ PgC M a1 P ∧ PlC M 43 p H s ∧ mI M 42 2 = nI t ∧ mI M 42 3 = 0 ∧ (∀ i, i < t → mI M 47 i = nI (f i)) ∧ ∃ E R, mJ M 34 = lR E ∧ mJ M 36 = lR R ∧ Bd 2115 R ∧ Std P o (gTG P) E R ∧ RwOK E (z15 (gTG P)) s R H
theorem L10_least (hp : WP P) (ho : o < 2 ^ 31) {p h t : Nat} {s f : Nat → Nat} (hw : WkC M a1 P o p (h + 1) s t f) (hp5 : p < pS P) (hs : ∀ i, i < h + 1 → s i < pG P) (hh : h + 1 ≤ 140) {left : Nat} (hl : left ≤ FARN) {r : Nat} (hr : r < pR P) (hq : wayQ P o (gTG P) p h s left r) (hn : ∀ k, k < r → ¬ wayQ P o (gTG P) p h s left k) :
    ∀ (d j : Nat), j + d = r → ∀ f', d < f' → LP7 f10_leastRule_b3_body f' M 42 32 a1 (nI o) (lN left) (nI j) = some (nI r, M) := by
  obtain ⟨w, hP, hb, h2, h3, h4, E, R, e1, e2, e3, e4, e5⟩ := hw
  have p5 := hp.1
  have g6 := hp.2.1
  have h14 := hp.2.2.1
  have head : ∀ j, j < pR P → ∀ f', LP7 f10_leastRule_b3_body (f' + 1) M 42 32 a1 (nI o) (lN left) (nI j) = if rfor P o j p (s h) = true then (if cp (rc P j) (beh 15 (eC E) (fun x => val 15 (eC E) (z15 (gTG P)) s h x) P j) = left then some (nI j, M) else LP7 f10_leastRule_b3_body f' M 42 32 a1 (nI o) (lN left) (nI (j + 1))) else LP7 f10_leastRule_b3_body f' M 42 32 a1 (nI o) (lN left) (nI (j + 1)) := by
    intro j hj f'
    have c99 := hp.c99 hj
    show f10_leastRule_b3_body _ _ _ _ _ _ _ _ = _
    generalize LP7 f10_leastRule_b3_body f' = K
    unfold f10_leastRule_b3_body f10_leastRule_b58
    rw [hP.o w, hP.r, if_neg (nI_ge hj (by omega)), aO_42 w, r_42_0 w, hP.o w, S7_applies w hP hp ho hb (show j < 32 by omega) (by omega) (fun i hi => Nat.lt_of_lt_of_le (hs i hi) g6), cI_some, decide_eq_true (show 0 < h + 1 by omega), Bool.true_and, show h + 1 - 1 = h by omega, nI_1]
    by_cases c : rfor P o j p (s h) = true
    · rw [c, bI_t, if_neg (by decide), if_pos rfl, hP.o w, S7_or6 w hP hj hp, cI_some, aO_42 w, aO_32 w, r_42_0 w, S1_behind (a := 32) (b := 43) w (.inl rfl) e1 e2 e4.1 e3 hb (show h * 15 + 15 ≤ 2115 by omega) hp hP hj, cJ_some, nI_l64 (by omega), beh_cg (by have := hp.t5 hj; omega) (fun x hx => e5 h x (by omega) hx)]
      have bb : beh 15 (eC E) (fun x => val 15 (eC E) (z15 (gTG P)) s h x) P j ≤ FARN := by
        rw [push_val hp hj (by omega)]
        exact val_far (fun x _ => z15_far _ x) _ _ (by have := hp.t5 hj; omega)
      rw [S4_sum (by unfold FARN; omega) bb, cJ_some]
      simp only [lN_eqN (le63 (cp_far (rc P j) (beh 15 (eC E) (fun x => val 15 (eC E) (z15 (gTG P)) s h x) P j))) (le63 hl)]
    · rw [if_neg c]
      rw [Bool.not_eq_true] at c
      rw [c, bI_f, if_pos rfl]
  have ev : ∀ j, j < pR P → ∀ v, costN P o (gTG P) (some (rt P j, h + rn P j, pushR P j h s)) v → v = beh 15 (eC E) (fun x => val 15 (eC E) (z15 (gTG P)) s h x) P j := fun j hj v hv => by
    rw [push_val hp hj (by omega)]
    exact hv.2.1 E R e4
  intro d
  induction d with
  | zero =>
    intro j hj f' hf
    obtain ⟨f'', rfl⟩ : ∃ f'', f' = f'' + 1 := ⟨f' - 1, by omega⟩
    have e : j = r := by omega
    subst e
    obtain ⟨v, hv⟩ := costN_ex2 hp (hp.2.2.2.2.1 j hr).2.2.1 (push_lt (h := h) hp hr (fun i hi => hs i (by omega))) o (okT_g hp)
    have q := hq.2 v hv
    rw [ev j hr v hv] at q
    rw [head j hr, if_pos hq.1, if_pos q]
  | succ d ih =>
    intro j hj f' hf
    obtain ⟨f'', rfl⟩ : ∃ f'', f' = f'' + 1 := ⟨f' - 1, by omega⟩
    have hjl : j < pR P := by omega
    rw [head j hjl]
    have q := ih (j + 1) (by omega) f'' (by omega)
    by_cases c : rfor P o j p (s h) = true
    · rw [if_pos c, if_neg (fun q2 => hn j (by omega) ⟨c, fun v hv => by rw [ev j hjl v hv, q2]⟩), q]
    · rw [if_neg c, q]
theorem L10_step24 (hp : WP P) {E z s R0 : Nat → Nat} {p H : Nat} (hH : H ≤ 140) (hs : ∀ i, i < H → s i < 6) (bE : Bd 1350 E) : ∀ (d j : Nat), j + d = H → ∀ f, d < f → ∀ M R, Wl M → PlC M 43 p H s → mJ M 34 = lR E → mJ M 36 = lR R → Bd 2115 R → RwOK E z s R j →
    ∃ R', LP4 f10_stepBy_b24_body f M 42 32 (nI j) = some (uJ M 36 (lR R')) ∧ RwOK E z s R' H ∧ Bd 2115 R'
  | 0, j, hj, f + 1, _, M, R, w, hb, hE, hR, bR, rk => by
    have e : j = H := by omega
    subst e
    refine ⟨R, ?_, rk, bR⟩
    rw [uJ_eq hR.symm]
    show f10_stepBy_b24_body _ _ _ _ _ = _
    generalize LP4 f10_stepBy_b24_body f = K
    unfold f10_stepBy_b24_body
    rw [aO_42 w, r_42_0 w, aO_43 w, hb.2.2.2.1, if_pos (nI_le (Nat.le_refl _) (by omega))]
  | d + 1, j, hj, f + 1, hf, M, R, w, hb, hE, hR, bR, rk => by
    have hl := S1_layRow (M := M) (a := 32) (R := R) w (.inl rfl) hE bE bR (k := j) (g := s j) (show (j + 2) * 15 ≤ 2115 by omega) (hs j (by omega))
    rw [show (32 + 4 : Nat) = 36 from rfl, uJ_eq hR.symm] at hl
    obtain ⟨R1, hR1⟩ : ∃ R1, R1 = layR R j 15 (fun x => mnf (fun y => cp (E (ix 15 x (s j) y)) (R (j * 15 + y))) 15) := ⟨_, rfl⟩
    rw [← hR1] at hl
    have w1 : Wl (uJ M 36 (lR R1)) := w
    obtain ⟨R', a1, a2, a3⟩ := L10_step24 hp hH hs bE (R0 := R0) d (j + 1) (by omega) f (by omega) (uJ M 36 (lR R1)) R1 w1 hb (by rw [mJ_uJ, if_neg (by decide)]; exact hE) (by rw [mJ_uJ, if_pos rfl]) (by rw [hR1]; exact layR_bd bR (fun _ => mnf_far _ _)) (by rw [hR1]; exact rk.lay)
    refine ⟨R', ?_, a2, a3⟩
    rw [uJ_uJ] at a1
    rw [← a1]
    show f10_stepBy_b24_body _ _ _ _ _ = _
    generalize LP4 f10_stepBy_b24_body f = K
    unfold f10_stepBy_b24_body
    rw [aO_42 w, r_42_0 w, aO_43 w, hb.2.2.2.1, if_neg (nI_ge (by omega) (by omega)), aO_42 w, aO_43 w, S6_signAt w hb.1 (show j < 140 by omega), cI_some, aO_32 w, hb.2.2.2.2.2 j (by omega), hl, cV_some, nI_1]
end FOLLOW
