/-! THE TWO NETS HAVE THE SAME SUMS -/
def okT (sg : Nat) (T : TG) : Prop := sg ≤ 6 ∧ tK T ≤ 4 ∧ ∀ k, k < tK T → tS T k < 5 ∧ tN T k ≤ 3 ∧ tM T k ≤ 1 ∧ ∀ i, i < tN T k → tG T k i < sg
/-- where the reference's nodes of told targets go on -/
def okD (T : TG) (D : Nat → Nat → Nat → Bool) : Prop := ∀ k n g y, k < tK T → n ≤ 3 → y < 21 → (D (5 + 4 * k + n) g y = true ↔ (n = tN T k ∧ tM T k = 1 ∧ y = 5 + 4 * k + n) ∨ (n < tN T k ∧ tG T k n = g ∧ y = 5 + 4 * k + n + 1))
def vld (T : TG) (x : Nat) : Prop := x < 5 ∨ ∃ k n, k < tK T ∧ x = 5 + 4 * k + n ∧ n ≤ tN T k ∧ (n = 0 → tN T k = 0)
def ph (T : TG) (x : Nat) : Nat := if x < 5 then x else if (x - 5) % 4 = tN T ((x - 5) / 4) then (if tM T ((x - 5) / 4) = 1 then 5 else 6) else 7 + 2 * ((x - 5) / 4) + ((x - 5) % 4 - 1)
def D15 (sg : Nat) (T : TG) : Nat → Nat → Nat → Bool := fun y g x => allS sg T (ix 15 y g x)
section PHI
variable {sg : Nat} {T : TG} {D : Nat → Nat → Nat → Bool} {P : PG} {o : Nat}
theorem ph_lt {x : Nat} (h : x < 5) : ph T x = x := if_pos h
theorem ph_k {k n : Nat} (hn : n ≤ 3) : ph T (5 + 4 * k + n) = if n = tN T k then (if tM T k = 1 then 5 else 6) else 7 + 2 * k + (n - 1) := by
  unfold ph
  rw [if_neg (by omega), show (5 + 4 * k + n - 5) % 4 = n by omega, show (5 + 4 * k + n - 5) / 4 = k by omega]
theorem ph_node {k n : Nat} (hn : n ≤ 3) (h0 : 1 ≤ n) : ph T (5 + 4 * k + n) = nodeC T k n := by
  rw [ph_k hn]
  unfold nodeC
  rw [if_neg (by omega : ¬ n = 0)]
theorem ph_bd {x : Nat} (hT : okT sg T) (h : vld T x) : ph T x < 15 := by
  rcases h with h | ⟨k, n, hk, rfl, hn, h0⟩
  · rw [ph_lt h]
    omega
  · have h4 := hT.2.1
    have h3 := (hT.2.2 k hk).2.1
    rw [ph_k (by omega)]
    split
    · split <;> omega
    · next c =>
      have : n ≠ 0 := fun q => c (by rw [q, h0 q])
      omega
theorem vl_21 {x : Nat} (hT : okT sg T) (h : vld T x) : x < 21 := by
  rcases h with h | ⟨k, n, hk, rfl, hn, h0⟩
  · omega
  · have h4 := hT.2.1
    have h3 := (hT.2.2 k hk).2.1
    omega
theorem ph_5 {x : Nat} (h : vld T x) (q : ph T x < 5) : x < 5 ∧ ph T x = x := by
  by_cases c : x < 5
  · exact ⟨c, ph_lt c⟩
  · rcases h with h | ⟨k, n, hk, rfl, hn, h0⟩
    · exact absurd h c
    · exfalso
      unfold ph at q
      rw [if_neg c] at q
      split at q
      · split at q <;> omega
      · omega
theorem allS_iff {i : Nat} : allS sg T i = true ↔ (∃ g, g < sg ∧ i = ix 15 5 g 5) ∨ ∃ k, k < tK T ∧ ((tN T k = 0 ∧ tM T k = 1 ∧ ∃ g, g < sg ∧ i = ix 15 (tS T k) g 5) ∨ ∃ j, j < tN T k ∧ i = ix 15 (nodeC T k j) (tG T k j) (nodeC T k (j + 1))) := by
  unfold allS aimS
  simp [List.any_eq_true, List.mem_range]
theorem initM_iff {i : Nat} : initM sg T i = true ↔ ∃ k, k < tK T ∧ ∃ g, g < sg ∧ ((tN T k = 0 ∧ tM T k = 1 ∧ i = ix 21 (tS T k) g (5 + 4 * k)) ∨ (tN T k ≠ 0 ∧ tG T k 0 = g ∧ i = ix 21 (tS T k) g (5 + 4 * k + 1))) := by
  unfold initM zM
  simp only [List.any_eq_true, List.mem_range]
  constructor
  · rintro ⟨k, hk, g, hg, h⟩
    refine ⟨k, hk, g, hg, ?_⟩
    by_cases c : tN T k = 0
    · rw [if_pos c] at h
      simp at h
      exact .inl ⟨c, h.1, h.2⟩
    · rw [if_neg c] at h
      simp at h
      exact .inr ⟨c, h.1, h.2⟩
  · rintro ⟨k, hk, g, hg, h⟩
    refine ⟨k, hk, g, hg, ?_⟩
    rcases h with ⟨c, h1, h2⟩ | ⟨c, h1, h2⟩
    · rw [if_pos c]
      simp [h1, h2]
    · rw [if_neg c]
      simp [h1, h2]
theorem nodeC_ge {k j : Nat} (h : j ≠ 0) : 5 ≤ nodeC T k j := by
  unfold nodeC
  rw [if_neg h]
  split
  · split <;> omega
  · omega
theorem nodeC_15 {k j : Nat} (hT : okT sg T) (hk : k < tK T) (hj : j ≤ tN T k) : nodeC T k j < 15 := by
  have h4 := hT.2.1
  have h1 := hT.2.2 k hk
  unfold nodeC
  split
  · omega
  · split
    · split <;> omega
    · omega
/-- an edge of the reference's net is one of the class's -/
theorem edgeA (hT : okT sg T) (hD : okD T D) {x g y : Nat} (hx : vld T x) (h5 : 5 ≤ x) (hy : y < 21) (hg : g < sg) (h : D x g y = true) : vld T y ∧ D15 sg T (ph T x) g (ph T y) = true := by
  rcases hx with hx | ⟨k, n, hk, rfl, hn, h0⟩
  · omega
  · have h3 := (hT.2.2 k hk).2.1
    rcases (hD k n g y hk (by omega) hy).mp h with ⟨e1, e2, rfl⟩ | ⟨e1, e2, rfl⟩
    · refine ⟨.inr ⟨k, n, hk, rfl, hn, h0⟩, ?_⟩
      rw [ph_k (by omega), if_pos e1, if_pos e2]
      exact allS_iff.mpr (.inl ⟨g, hg, rfl⟩)
    · refine ⟨.inr ⟨k, n + 1, hk, rfl, by omega, fun q => by omega⟩, ?_⟩
      have hn0 : n ≠ 0 := fun q => by
        have := h0 q
        omega
      rw [ph_node (by omega) (by omega), show 5 + 4 * k + n + 1 = 5 + 4 * k + (n + 1) by omega, ph_node (by omega) (by omega)]
      exact allS_iff.mpr (.inr ⟨k, hk, .inr ⟨n, e1, by rw [e2]⟩⟩)
/-- and the other way round -/
theorem edgeB (hT : okT sg T) (hD : okD T D) {x g z : Nat} (hx : vld T x) (h5 : 5 ≤ x) (hz : z < 15) (hg : g < sg) (h : D15 sg T (ph T x) g z = true) : ∃ y, y < 21 ∧ vld T y ∧ D x g y = true ∧ ph T y = z := by
  have hs6 := hT.1
  have hb := ph_bd hT hx
  have hx21 := vl_21 hT hx
  have hp5 : 5 ≤ ph T x := Nat.le_of_not_lt fun q => by
    have := (ph_5 hx q).1
    omega
  rcases hx with hx | ⟨k, n, hk, rfl, hn, h0⟩
  · omega
  have h3 := (hT.2.2 k hk).2.1
  have h4 := hT.2.1
  have ephx := ph_k (T := T) (k := k) (n := n) (by omega)
  rcases allS_iff.mp h with ⟨g', hg', e⟩ | ⟨k', hk', ⟨e0, e1, g', hg', e⟩ | ⟨j, hj, e⟩⟩
  · obtain ⟨e1, e2, e3⟩ := ix_inj (by omega) hz (by omega) (by omega) e
    rw [ephx] at e1
    have c : n = tN T k := by
      refine Classical.byContradiction fun c => ?_
      rw [if_neg c] at e1
      omega
    rw [if_pos c] at e1
    have c1 : tM T k = 1 := by
      refine Classical.byContradiction fun c1 => ?_
      rw [if_neg c1] at e1
      omega
    refine ⟨_, hx21, .inr ⟨k, n, hk, rfl, hn, h0⟩, (hD k n g _ hk (by omega) hx21).mpr (.inl ⟨c, c1, rfl⟩), ?_⟩
    rw [ephx, if_pos c, if_pos c1, e3]
  · obtain ⟨e1, e2, e3⟩ := ix_inj (by omega) hz (by omega) (by omega) e
    have := (hT.2.2 k' hk').1
    omega
  · have hw := hT.2.2 k' hk'
    obtain ⟨e1, e2, e3⟩ := ix_inj (by omega) hz (Nat.lt_of_lt_of_le (hw.2.2.2 j hj) hs6) (nodeC_15 hT hk' (by omega)) e
    have hj0 : j ≠ 0 := fun q => by
      rw [q] at e1
      unfold nodeC at e1
      rw [if_pos rfl] at e1
      have := hw.1
      omega
    rw [ephx] at e1
    unfold nodeC at e1
    rw [if_neg hj0, if_neg (show ¬ j = tN T k' by omega)] at e1
    have c : ¬ n = tN T k := fun c => by
      rw [if_pos c] at e1
      split at e1 <;> omega
    rw [if_neg c] at e1
    have hn0 : n ≠ 0 := fun q => c (by rw [q, h0 q])
    have ek : k' = k := by omega
    subst ek
    have en : n = j := by omega
    subst en
    refine ⟨5 + 4 * k' + n + 1, by omega, .inr ⟨k', n + 1, hk, rfl, by omega, fun q => by omega⟩, (hD k' n g _ hk (by omega) (by omega)).mpr (.inr ⟨hj, e2.symm, rfl⟩), ?_⟩
    rw [show 5 + 4 * k' + n + 1 = 5 + 4 * k' + (n + 1) by omega, ph_node (by omega) (by omega), e3]
noncomputable def cif (p : Prop) (a b : Nat) : Nat := @ite Nat p (Classical.propDecidable p) a b
theorem cif_pos {p : Prop} {a b : Nat} (h : p) : cif p a b = a := if_pos h
theorem cif_neg {p : Prop} {a b : Nat} (h : ¬ p) : cif p a b = b := if_neg h
noncomputable def pull (T : TG) (E : Nat → Nat) (e : Nat) : Nat := cif (vld T (e % 21)) (E (e / 21 * 15 + ph T (e % 21))) FARN
noncomputable def push (T : TG) (F : Nat → Nat) (e : Nat) : Nat := mnf (fun x => cif (vld T x ∧ ph T x = e % 15) (F (e / 15 * 21 + x)) FARN) 21
theorem ix_div {n p g x : Nat} (hx : x < n) : ix n p g x / n = 6 * p + g := by
  unfold ix
  rw [Nat.mul_comm, Nat.mul_add_div (by omega), Nat.div_eq_of_lt hx]
  rfl
theorem ix_mod {n p g x : Nat} (hx : x < n) : ix n p g x % n = x := by
  unfold ix
  rw [Nat.mul_comm, Nat.mul_add_mod, Nat.mod_eq_of_lt hx]
theorem pull_v {E : Nat → Nat} {p g x : Nat} (hx : x < 21) (h : vld T x) : pull T E (ix 21 p g x) = E (ix 15 p g (ph T x)) := by
  unfold pull
  rw [ix_mod hx, ix_div hx, cif_pos h]
  rfl
theorem pull_n {E : Nat → Nat} {p g x : Nat} (hx : x < 21) (h : ¬ vld T x) : pull T E (ix 21 p g x) = FARN := by
  unfold pull
  rw [ix_mod hx, cif_neg h]
theorem push_e {F : Nat → Nat} {p g z : Nat} (hz : z < 15) : push T F (ix 15 p g z) = mnf (fun x => cif (vld T x ∧ ph T x = z) (F (ix 21 p g x)) FARN) 21 := by
  unfold push
  rw [ix_mod hz, ix_div hz]
  rfl
theorem push_le {F : Nat → Nat} {p g x : Nat} (hT : okT sg T) (hx : vld T x) : push T F (ix 15 p g (ph T x)) ≤ F (ix 21 p g x) := by
  rw [push_e (ph_bd hT hx)]
  refine Nat.le_trans (mnf_le _ 21 x (vl_21 hT hx)) ?_
  rw [cif_pos ⟨hx, rfl⟩]
  exact Nat.le_refl _
theorem push_ex {F : Nat → Nat} {p g z : Nat} (hz : z < 15) : push T F (ix 15 p g z) = FARN ∨ ∃ x, x < 21 ∧ vld T x ∧ ph T x = z ∧ push T F (ix 15 p g z) = F (ix 21 p g x) := by
  rw [push_e hz]
  rcases mnf_ex (fun x => cif (vld T x ∧ ph T x = z) (F (ix 21 p g x)) FARN) 21 with q | ⟨x, hx, q⟩
  · exact .inl q
  · by_cases c : vld T x ∧ ph T x = z
    · refine .inr ⟨x, hx, c.1, c.2, q.trans ?_⟩
      rw [cif_pos c]
    · refine .inl (q.trans ?_)
      rw [cif_neg c]
theorem ix_of {n e : Nat} (hn : 0 < n) (he : e < 30 * n) : ∃ p g x, p < 5 ∧ g < 6 ∧ x < n ∧ e = ix n p g x := by
  have h1 : e / n < 30 := Nat.div_lt_of_lt_mul (by rw [Nat.mul_comm]; exact he)
  refine ⟨e / n / 6, e / n % 6, e % n, by omega, by omega, Nat.mod_lt _ hn, ?_⟩
  unfold ix
  rw [show 6 * (e / n / 6) + e / n % 6 = e / n by omega, Nat.mul_comm, Nat.div_add_mod]
theorem pull_clo (hp : WP P) (hT : okT (pG P) T) (hD : okD T D) {E : Nat → Nat} (hE : GC 15 (allS (pG P) T) (D15 (pG P) T) P o E) : Clo 21 (initM (pG P) T) D P o (pull T E) := by
  have g6 := hp.2.1
  have bE := hE.1.1
  have bp : ∀ e, e < 30 * 21 → pull T E e ≤ FARN := fun e he => by
    obtain ⟨p, g, x, h1, h2, h3, rfl⟩ := ix_of (by omega) he
    by_cases c : vld T x
    · rw [pull_v h3 c]
      exact bE _ (ix_lt h1 h2 (ph_bd hT c))
    · rw [pull_n h3 c]
      exact Nat.le_refl _
  refine ⟨bp, fun e he hi => ?_, fun r hr => ?_⟩
  · obtain ⟨k, hk, g, hg, ⟨e0, e1, rfl⟩ | ⟨e0, e1, rfl⟩⟩ := initM_iff.mp hi
    · have h4 := hT.2.1
      have hw := hT.2.2 k hk
      have hv : vld T (5 + 4 * k) := .inr ⟨k, 0, hk, rfl, by omega, fun _ => e0⟩
      rw [pull_v (by omega) hv, show ph T (5 + 4 * k) = 5 from (ph_k (k := k) (n := 0) (by omega)).trans (by rw [if_pos e0.symm, if_pos e1])]
      exact hE.1.2.1 _ (ix_lt hw.1 (by omega) (by omega)) (allS_iff.mpr (.inr ⟨k, hk, .inl ⟨e0, e1, g, hg, rfl⟩⟩))
    · have h4 := hT.2.1
      have hw := hT.2.2 k hk
      have hv : vld T (5 + 4 * k + 1) := .inr ⟨k, 1, hk, rfl, by omega, fun q => by omega⟩
      rw [pull_v (by omega) hv, ph_node (by omega) (by omega)]
      refine hE.1.2.1 _ (ix_lt hw.1 (by omega) (nodeC_15 hT hk (by omega))) (allS_iff.mpr (.inr ⟨k, hk, .inr ⟨0, by omega, ?_⟩⟩))
      rw [e1]
      rfl
  · have hl := rin_lt hr
    have p5 := hp.p5 hl
    have g6' := hp.g6 hl
    have t5 := hp.t5 hl
    have sE := hE.1.2.2 r hr
    refine ⟨fun h0 => ?_, fun h1 x hx => ?_, fun h2 x hx y hy => ?_⟩
    · rw [pull_v (by omega) (.inl t5), ph_lt t5]
      exact sE.1 h0
    · by_cases c : vld T x
      · rw [pull_v hx c, pull_v hx c]
        exact sE.2.1 h1 _ (ph_bd hT c)
      · rw [pull_n hx c, pull_n hx c, cp_F]
        exact Nat.le_refl _
    · have bx := bp _ (ix_lt p5 g6' hx)
      by_cases cy : vld T y
      · rw [pull_v hy cy]
        by_cases y5 : y < 5
        · unfold onw
          rw [if_pos y5, ph_lt y5]
          by_cases c : vld T x
          · have q := sE.2.2 h2 _ (ph_bd hT c) y (by omega)
            unfold onw at q
            rw [if_pos y5] at q
            rw [pull_v hx c, pull_v hx c]
            exact q
          · rw [pull_n hx c, pull_n hx c, cp_F, cp_F]
            exact Nat.le_refl _
        · unfold onw
          rw [if_neg y5]
          by_cases c : D y (rb P r) x = true
          · rw [if_pos c]
            obtain ⟨vx, dx⟩ := edgeA hT hD cy (by omega) hx ((hp.2.2.2.2.1 r hl).2.2.2.2.2.1 (by omega)) c
            have q := sE.2.2 h2 _ (ph_bd hT vx) _ (ph_bd hT cy)
            unfold onw at q
            have hq5 : ¬ ph T y < 5 := fun z => y5 (ph_5 cy z).1
            rw [if_neg hq5, if_pos dx] at q
            rw [pull_v hx vx]
            exact q
          · rw [if_neg c, cp_F, cp_F]
            exact bx
      · rw [pull_n hy cy, cp_F', cp_F]
        exact bx
theorem push_clo (hp : WP P) (hT : okT (pG P) T) (hD : okD T D) {F : Nat → Nat} (hF : GC 21 (initM (pG P) T) D P o F) : Clo 15 (allS (pG P) T) (D15 (pG P) T) P o (push T F) := by
  have g6 := hp.2.1
  refine ⟨fun e he => mnf_far _ _, fun e he hi => ?_, fun r hr => ?_⟩
  · have h4 := hT.2.1
    rcases allS_iff.mp hi with ⟨g', hg', rfl⟩ | ⟨k, hk, ⟨e0, e1, g', hg', rfl⟩ | ⟨j, hj, rfl⟩⟩
    · exfalso
      have := ix_450 (y := 5) (g := g') (x := 5) (by omega)
      omega
    · have hw := hT.2.2 k hk
      have hv : vld T (5 + 4 * k) := .inr ⟨k, 0, hk, rfl, by omega, fun _ => e0⟩
      have q := push_le (F := F) (p := tS T k) (g := g') hT hv
      rw [show ph T (5 + 4 * k) = 5 from (ph_k (k := k) (n := 0) (by omega)).trans (by rw [if_pos e0.symm, if_pos e1]), hF.1.2.1 _ (ix_lt hw.1 (by omega) (by omega)) (initM_iff.mpr ⟨k, hk, g', hg', .inl ⟨e0, e1, rfl⟩⟩)] at q
      exact Nat.le_zero.mp q
    · have hw := hT.2.2 k hk
      have hj0 : j = 0 := by
        refine Classical.byContradiction fun c => ?_
        have := ix_450 (y := nodeC T k j) (g := tG T k j) (x := nodeC T k (j + 1)) (nodeC_ge c)
        omega
      subst hj0
      have hv : vld T (5 + 4 * k + 1) := .inr ⟨k, 1, hk, rfl, by omega, fun q => by omega⟩
      have q := push_le (F := F) (p := tS T k) (g := tG T k 0) hT hv
      rw [ph_node (by omega) (by omega), hF.1.2.1 _ (ix_lt hw.1 (Nat.lt_of_lt_of_le (hw.2.2.2 0 hj) g6) (by omega)) (initM_iff.mpr ⟨k, hk, tG T k 0, hw.2.2.2 0 hj, .inr ⟨by omega, rfl, rfl⟩⟩)] at q
      exact Nat.le_zero.mp q
  · have hl := rin_lt hr
    have p5 := hp.p5 hl
    have g6' := hp.g6 hl
    have t5 := hp.t5 hl
    have sF := hF.1.2.2 r hr
    refine ⟨fun h0 => ?_, fun h1 z hz => ?_, fun h2 z hz w hw => ?_⟩
    · have q := push_le (F := F) (p := rp P r) (g := rg P r) hT (.inl t5)
      rw [ph_lt t5] at q
      exact Nat.le_trans q (sF.1 h0)
    · rcases push_ex (T := T) (F := F) (p := rt P r) (g := ra P r) hz with q | ⟨x, hx, vx, ex, q⟩
      · rw [q, cp_F]
        exact mnf_far _ _
      · rw [q]
        subst ex
        exact Nat.le_trans (push_le hT vx) (sF.2.1 h1 x hx)
    · rcases push_ex (T := T) (F := F) (p := rt P r) (g := ra P r) hw with q | ⟨y, hy, vy, ey, q⟩
      · rw [q, cp_F', cp_F]
        exact mnf_far _ _
      · rw [q]
        subst ey
        by_cases y5 : y < 5
        · rw [ph_lt y5]
          unfold onw
          rw [if_pos y5]
          rcases push_ex (T := T) (F := F) (p := y) (g := rb P r) hz with q2 | ⟨x, hx, vx, ex, q2⟩
          · rw [q2, cp_F, cp_F]
            exact mnf_far _ _
          · rw [q2]
            subst ex
            have q3 := sF.2.2 h2 x hx y hy
            unfold onw at q3
            rw [if_pos y5] at q3
            exact Nat.le_trans (push_le hT vx) q3
        · have hq5 : ¬ ph T y < 5 := fun z => y5 (ph_5 vy z).1
          unfold onw
          rw [if_neg hq5]
          by_cases c : D15 (pG P) T (ph T y) (rb P r) z = true
          · rw [if_pos c]
            obtain ⟨x, hx, vx, dx, ex⟩ := edgeB hT hD vy (by omega) hz ((hp.2.2.2.2.1 r hl).2.2.2.2.2.1 (by omega)) c
            subst ex
            have q3 := sF.2.2 h2 x hx y hy
            unfold onw at q3
            rw [if_neg y5, if_pos dx] at q3
            exact Nat.le_trans (push_le hT vx) q3
          · rw [if_neg c, cp_F, cp_F]
            exact mnf_far _ _
/-- what the two nets have in common -/
def Sim (T : TG) (E F : Nat → Nat) : Prop :=
  (∀ p g x, p < 5 → g < 6 → x < 21 → vld T x → E (ix 15 p g (ph T x)) ≤ F (ix 21 p g x)) ∧
  (∀ p g x, p < 5 → g < 6 → x < 21 → ¬ vld T x → F (ix 21 p g x) = FARN) ∧
  (∀ p g z, p < 5 → g < 6 → z < 15 → E (ix 15 p g z) = FARN ∨ ∃ x, x < 21 ∧ vld T x ∧ ph T x = z ∧ F (ix 21 p g x) = E (ix 15 p g z)) ∧
  (∀ e, e < 450 → E e ≤ FARN) ∧ (∀ e, e < 630 → F e ≤ FARN)
theorem GC_sim (hp : WP P) (hT : okT (pG P) T) (hD : okD T D) {E F : Nat → Nat} (hE : GC 15 (allS (pG P) T) (D15 (pG P) T) P o E) (hF : GC 21 (initM (pG P) T) D P o F) : Sim T E F := by
  have c1 := hF.2 _ (pull_clo hp hT hD hE)
  have c2 := hE.2 _ (push_clo hp hT hD hF)
  have s1 : ∀ p g x, p < 5 → g < 6 → x < 21 → vld T x → E (ix 15 p g (ph T x)) ≤ F (ix 21 p g x) := fun p g x h1 h2 h3 v => by
    have := c1 _ (ix_lt h1 h2 h3)
    rw [pull_v h3 v] at this
    exact this
  refine ⟨s1, fun p g x h1 h2 h3 v => ?_, fun p g z h1 h2 h3 => ?_, hE.1.1, hF.1.1⟩
  · have := c1 _ (ix_lt h1 h2 h3)
    rw [pull_n h3 v] at this
    exact Nat.le_antisymm (hF.1.1 _ (ix_lt h1 h2 h3)) this
  · have q := c2 _ (ix_lt h1 h2 h3)
    rcases push_ex (T := T) (F := F) (p := p) (g := g) h3 with q1 | ⟨x, hx, vx, ex, q1⟩
    · rw [q1] at q
      exact .inl (Nat.le_antisymm (hE.1.1 _ (ix_lt h1 h2 h3)) q)
    · rw [q1] at q
      refine .inr ⟨x, hx, vx, ex, Nat.le_antisymm q ?_⟩
      rw [← ex]
      exact s1 p g x h1 h2 hx vx
/-- pops are told alike -/
theorem Sim.pop {E F : Nat → Nat} (h : Sim T E F) {p g q : Nat} (hp : p < 5) (hg : g < 6) (hq : q < 5) : E (ix 15 p g q) = F (ix 21 p g q) := by
  have h1 := h.1 p g q hp hg (by omega) (.inl hq)
  rw [ph_lt hq] at h1
  rcases h.2.2.1 p g q hp hg (by omega) with e | ⟨x, hx, vx, ex, e⟩
  · rw [e] at h1 ⊢
    exact Nat.le_antisymm h1 (h.2.2.2.2 _ (ix_lt hp hg (by omega)))
  · have := ph_5 vx (by omega)
    rw [this.2] at ex
    rw [← e, ex]
def z15 (T : TG) (x : Nat) : Nat := if endS T x then 0 else FARN
def isE (T : TG) (x : Nat) : Bool := if x < 5 then (List.range (tK T)).any (fun k => decide (tS T k = x) && decide (tN T k = 0)) else decide ((x - 5) / 4 < tK T) && decide ((x - 5) % 4 = tN T ((x - 5) / 4))
def z21 (T : TG) (x : Nat) : Nat := if isE T x then 0 else FARN
def e21 (T : TG) (D : Nat → Nat → Nat → Bool) (F : Nat → Nat) (x g y : Nat) : Nat := if 5 ≤ x ∧ tK T ≤ (x - 5) / 4 then FARN else onw 21 D F x g y
theorem z_same {x : Nat} (hT : okT sg T) (h : vld T x) : z15 T (ph T x) = z21 T x := by
  unfold z15 z21
  have : endS T (ph T x) = isE T x := by
    by_cases c : x < 5
    · unfold isE
      rw [ph_lt c, if_pos c]
      unfold endS
      have e5 : (x == 5) = false := by simp; omega
      have e6 : (x == 6) = false := by simp; omega
      rw [e5, e6]
      simp only [Bool.or_false, Bool.false_or]
      congr 1
      funext k
      rw [Bool.and_comm]
      congr 1
      by_cases q : tS T k = x
      · simp [q]
      · have q' : ¬ x = tS T k := fun z => q z.symm
        simp [q, q']
    · rcases h with h | ⟨k, n, hk, rfl, hn, h0⟩
      · exact absurd h c
      · have h3 := (hT.2.2 k hk).2.1
        unfold isE
        rw [if_neg c, ph_k (by omega), show (5 + 4 * k + n - 5) / 4 = k by omega, show (5 + 4 * k + n - 5) % 4 = n by omega, decide_eq_true hk, Bool.true_and]
        by_cases q : n = tN T k
        · rw [if_pos q, decide_eq_true q]
          unfold endS
          split <;> simp
        · rw [if_neg q, decide_eq_false q]
          unfold endS
          have e5 : (7 + 2 * k + (n - 1) == 5) = false := by simp; omega
          have e6 : (7 + 2 * k + (n - 1) == 6) = false := by simp; omega
          rw [e5, e6]
          simp only [Bool.or_false, Bool.false_or, List.any_eq_false, List.mem_range]
          intro k' hk'
          have := (hT.2.2 k' hk').1
          simp
          intro _
          omega
  rw [this]
theorem val_same (hT : okT sg T) (hD : okD T D) {E F : Nat → Nat} (h : Sim T E F) (hd : DeE (D15 sg T) E) {s : Nat → Nat} : ∀ (H : Nat), (∀ i, i < H → s i < sg) → ∀ x, x < 21 → vld T x → val 15 (eC E) (z15 T) s H (ph T x) = val 21 (e21 T D F) (z21 T) s H x
  | 0, _, x, _, v => z_same hT v
  | H + 1, hs, x, hx, v => by
    have ih := val_same hT hD h hd H (fun i hi => hs i (by omega))
    have hg := hs H (by omega)
    have hg6 : s H < 6 := Nat.lt_of_lt_of_le hg hT.1
    have b15 : ∀ z, z < 15 → val 15 (eC E) (z15 T) s H z ≤ FARN := val_far (fun z _ => by unfold z15; split <;> first | exact Nat.zero_le _ | exact Nat.le_refl _) H
    have b21 : ∀ z, z < 21 → val 21 (e21 T D F) (z21 T) s H z ≤ FARN := val_far (fun z _ => by unfold z21; split <;> first | exact Nat.zero_le _ | exact Nat.le_refl _) H
    show mnf (fun z => cp (eC E (ph T x) (s H) z) (val 15 (eC E) (z15 T) s H z)) 15 = mnf (fun y => cp (e21 T D F x (s H) y) (val 21 (e21 T D F) (z21 T) s H y)) 21
    by_cases x5 : x < 5
    · have ee : ∀ y, e21 T D F x (s H) y = F (ix 21 x (s H) y) := fun y => by
        unfold e21 onw
        rw [if_neg (by omega), if_pos x5]
      rw [ph_lt x5]
      refine Nat.le_antisymm (mnf_ge 21 (mnf_far _ _) (fun y hy => ?_)) (mnf_ge 15 (mnf_far _ _) (fun z hz => ?_))
      · rw [ee]
        by_cases c : vld T y
        · rw [← ih y hy c]
          exact Nat.le_trans (mnf_le _ 15 (ph T y) (ph_bd hT c)) (cp_mono (h.1 x (s H) y x5 hg6 hy c) (Nat.le_refl _))
        · rw [h.2.1 x (s H) y x5 hg6 hy c, cp_F']
          exact mnf_far _ _
      · rcases h.2.2.1 x (s H) z x5 hg6 hz with e | ⟨y, hy, vy, ey, e⟩
        · show _ ≤ cp (E (ix 15 x (s H) z)) _
          rw [e, cp_F']
          exact mnf_far _ _
        · refine Nat.le_trans (mnf_le _ 21 y hy) ?_
          show cp (e21 T D F x (s H) y) _ ≤ cp (E (ix 15 x (s H) z)) _
          rw [ee, e, ← ih y hy vy, ey]
          exact Nat.le_refl _
    · have hk : ¬ tK T ≤ (x - 5) / 4 := by
        rcases v with v | ⟨k, n, hk, rfl, hn, h0⟩
        · exact absurd v x5
        · have h3 := (hT.2.2 k hk).2.1
          omega
      have ee : ∀ y, e21 T D F x (s H) y = if D x (s H) y then 0 else FARN := fun y => by
        unfold e21 onw
        rw [if_neg (fun q => hk q.2), if_neg x5]
      have hp5 : 5 ≤ ph T x := Nat.le_of_not_lt fun q => x5 (ph_5 v q).1
      have ec : ∀ z, z < 15 → eC E (ph T x) (s H) z = if D15 sg T (ph T x) (s H) z then 0 else FARN := fun z hz => hd _ _ _ hp5 (ph_bd hT v) hg6 hz
      refine Nat.le_antisymm (mnf_ge 21 (mnf_far _ _) (fun y hy => ?_)) (mnf_ge 15 (mnf_far _ _) (fun z hz => ?_))
      · rw [ee]
        by_cases c : D x (s H) y = true
        · obtain ⟨vy, dy⟩ := edgeA hT hD v (by omega) hy hg c
          refine Nat.le_trans (mnf_le _ 15 (ph T y) (ph_bd hT vy)) ?_
          show cp (eC E (ph T x) (s H) (ph T y)) _ ≤ _
          rw [ec _ (ph_bd hT vy), if_pos dy, if_pos c, ih y hy vy]
          exact Nat.le_refl _
        · rw [if_neg c, cp_F']
          exact mnf_far _ _
      · show _ ≤ cp (eC E (ph T x) (s H) z) _
        rw [ec z hz]
        by_cases c : D15 sg T (ph T x) (s H) z = true
        · obtain ⟨y, hy, vy, dy, ey⟩ := edgeB hT hD v (by omega) hz hg c
          refine Nat.le_trans (mnf_le _ 21 y hy) ?_
          show cp (e21 T D F x (s H) y) _ ≤ _
          rw [ee, if_pos dy, if_pos c, ← ih y hy vy, ey]
          exact Nat.le_refl _
        · rw [if_neg c, cp_F']
          exact mnf_far _ _
end PHI
