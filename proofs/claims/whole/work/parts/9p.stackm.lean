/-! MACHINES: how many stacks, at the reference -/
def sumN (f : Nat → Nat) : Nat → Nat
  | 0 => 0
  | j + 1 => sumN f j + f j
theorem sumN_cg {f g : Nat → Nat} : ∀ k, (∀ i, i < k → f i = g i) → sumN f k = sumN g k
  | 0, _ => rfl
  | k + 1, h => by
    show sumN f k + f k = sumN g k + g k
    rw [sumN_cg k (fun i hi => h i (by omega)), h k (by omega)]
/-- how many words of a length lead from a node to a good one -/
def cwN (G : Nat) (nb : Nat → Nat → Nat) (gd : Nat → Bool) : Nat → Nat → Nat
  | 0, k => if gd k = true then 1 else 0
  | i + 1, k => sumN (fun g => cwN G nb gd i (nb k g)) G
section STACKM
variable {P : PG} {o : Nat}
/-- how nodes are read while rows 117 and 118 are written -/
def NDX (M : MM) (P : PG) (q : Nat) (nb : Nat → Nat → Nat) (gd : Nat → Bool) : Prop := q ≤ 7203 ∧ (∀ k g, k < q → g < pG P → nb k g < q) ∧ ∀ M', Sm [118] [117] M M' → Wl M' ∧ f12_signs M' 86 = some (nI (pG P), M') ∧ mI M' 86 52 = nI q ∧ ∀ k, k < q → ∃ ok s, ok ≤ 7202 ∧ mI M' 115 k = nI ok ∧ mI M' 111 ok = nI s ∧ f12_isGoodSet M' 86 (nI s) = some (bI (gd k), M') ∧ ∀ g, g < pG P → ∃ tk, mI M' 112 (6 * ok + g) = nI tk ∧ f12_nodeFor M' 86 (nI tk) = some (nI (nb k g), M')
theorem NDX_of {M : MM} {nw : NW} (h : CoM M P o nw) {p : Nat} {F F' : Nat → Nat} {n : Nat} {S : Nat → Nat} {t : Nat → Nat → Nat} {K : Nat → Nat} {m : Nat} {os : Nat → Nat} {q : Nat} {v : Nat → Nat} (nd : NdI M P o p F n S t K m os q v) (nt : NtM M P o F') : NDX M P q (fun k g => v (pG P * k + g)) (fun k => avS 21 (mM (gTG P) F) (isE (gTG P)) (S (os k)) []) := by
  have hp := h.p
  obtain ⟨a1, a2, a3, a4, a5, a6, a7, a8, a9, no, b1, ⟨b2, b3⟩, b4⟩ := nd
  have qm := no.le a8
  have le := a3.2.1
  have cl : ∀ k g, k < q → g < pG P → v (pG P * k + g) < q ∧ K (os (v (pG P * k + g))) = K (t (os k) g) := fun k g hk hg => by
    have hG : 0 < pG P := by omega
    have lt : pG P * k + g < pG P * q := by
      have : pG P * k + pG P ≤ pG P * q := by
        rw [← Nat.mul_succ]
        exact Nat.mul_le_mul_left _ hk
      omega
    obtain ⟨s1, s2, -⟩ := b2 _ lt
    rw [Nat.mul_add_div hG, Nat.div_eq_of_lt hg, Nat.add_zero, Nat.mul_add_mod, Nat.mod_eq_of_lt hg] at s2
    exact ⟨s1, s2⟩
  refine ⟨by omega, fun k g hk hg => (cl k g hk hg).1, fun M' s => ?_⟩
  have w := h.w.sm s
  have nt' : NtM M' P o F' := nt.sm s (by rw [s.i 86 (by decide)]) (by rw [s.i 86 (by decide)]) (by decide) (by decide)
  have no' := no.sm s (by rw [s.i 86 (by decide)]) (by decide)
  have mt' := a3.sm s (by rw [s.i 86 (by decide)]) (by decide)
  have pk' := a6.sm s (by decide)
  have bm' := a2.sm s (by rw [s.i 86 (by decide)]) (by decide)
  refine ⟨w, SM_signs w nt'.2.1, no'.1, fun k hk => ?_⟩
  obtain ⟨o1, o2⟩ := no'.2.1 k hk
  obtain ⟨s1, s2⟩ := bm'.2.1 (os k) o2
  refine ⟨os k, S (os k), by omega, o1, s1, SM_isGoodSet nt' (s2.v hp a1).1, fun g hg => ?_⟩
  obtain ⟨t1, t2⟩ := mt'.2.2 (os k) g o2 hg
  obtain ⟨c1, c2⟩ := cl k g hk hg
  exact ⟨t (os k) g, t1, SM_nodeOld w no' pk' le a7 a8 t2 c1 c2⟩
def tofs (i : Nat) : Nat := 8192 * (i % 2)
theorem LM_st155 {M0 : MM} {q : Nat} {nb : Nat → Nat → Nat} {gd : Nat → Bool} (nx : NDX M0 P q nb gd) {M : MM} (s : Sm [118] [117] M0 M) {ni i to fr k : Nat} {c : Int64} (hk : k < q) (ht : to ≤ 8192) (K59 : MM → Nat → Int32 → Int32 → Int32 → Int32 → Int32 → Option (Int64 × MM)) : f12_stacks_b155 K59 M 86 (nI ni) (nI i) (nI to) (nI fr) (nI k) c = K59 (uJ M 117 (upx (mJ M 117) (to + k) c)) 86 (nI ni) (nI i) (nI to) (nI fr) (nI (k + 1)) := by
  obtain ⟨w, -⟩ := nx.2.2 M s
  have := nx.1
  unfold f12_stacks_b155
  rw [aO_86 w, r_86_53 w, nI_add, aA_117 w (by omega), bM_e, sJ_e, nI_clamp (by omega), nI_1]
theorem LM_st101 {M0 : MM} (hp : WP P) {q : Nat} {nb : Nat → Nat → Nat} {gd : Nat → Bool} (nx : NDX M0 P q nb gd) {M : MM} (s : Sm [118] [117] M0 M) {ni i to fr k : Nat} (hi : i + 1 < 2 ^ 31) (hk : k < q) (hf : fr ≤ 8192) (ht : to ≤ 8192) (hr : ∀ x, x < q → mJ M 117 (fr + x) = lN (cwN (pG P) nb gd i x)) (K59 : MM → Nat → Int32 → Int32 → Int32 → Int32 → Int32 → Option (Int64 × MM)) : ∀ (d j : Nat), j + d = pG P → ∀ f, d < f →
    LP9 (f12_stacks_b101_body K59) f M 86 (nI ni) (nI (i + 1)) (nI to) (nI fr) (nI k) (lN (sumN (fun g => cwN (pG P) nb gd i (nb k g)) j)) (nI j) = K59 (uJ M 117 (upx (mJ M 117) (to + k) (lN (cwN (pG P) nb gd (i + 1) k)))) 86 (nI ni) (nI (i + 1)) (nI to) (nI fr) (nI (k + 1))
  | 0, j, hj, f + 1, _ => by
    obtain ⟨w, sg, -⟩ := nx.2.2 M s
    have g6 := hp.2.1
    have e : j = pG P := by omega
    rw [e, LP9_s]
    generalize LP9 (f12_stacks_b101_body K59) f = K
    unfold f12_stacks_b101_body
    rw [aO_86 w, sg, cI_some, if_pos (nI_le (Nat.le_refl _) (by omega)), LM_st155 nx s hk ht]
    rfl
  | d + 1, j, hj, f + 1, hf' => by
    obtain ⟨w, sg, -, nd⟩ := nx.2.2 M s
    obtain ⟨ok, ss, ok1, ok2, -, -, ok3⟩ := nd k hk
    obtain ⟨tk, t1, t2⟩ := ok3 j (by omega)
    have g6 := hp.2.1
    have nl := nx.2.1 k j hk (by omega)
    have q7 := nx.1
    have ih := LM_st101 hp nx s (ni := ni) (to := to) (fr := fr) hi hk hf ht hr K59 d (j + 1) (by omega) f (by omega)
    rw [← ih, LP9_s]
    generalize LP9 (f12_stacks_b101_body K59) f = K
    unfold f12_stacks_b101_body
    have n0 : ¬ nI (i + 1) ≤ 0 := by
      rw [lit_0, c_le (by omega) (by omega)]
      omega
    rw [aO_86 w, sg, cI_some, if_neg (nI_ge (by omega) (by omega)), if_neg n0, aO_86 w, aO_86 w, aO_86 w, r_86_50 w, aA_115 w (by omega), r_86_44 w, nI_clamp (by omega), ok2, lit_6, nI_mulN, nI_add, aA_112 w (by omega), aO_86 w, nI_clamp (by omega), t1, t2, cI_some, r_86_53 w, nI_add, aA_117 w (by omega), nI_clamp (by omega), hr _ nl, bW_e, nI_1]
    rw [show lN (sumN (fun g => cwN (pG P) nb gd i (nb k g)) j) + lN (cwN (pG P) nb gd i (nb k j)) = lN (sumN (fun g => cwN (pG P) nb gd i (nb k g)) j + cwN (pG P) nb gd i (nb k j)) from (Int64.ofNat_add _ _).symm]
    rfl
theorem LM_st59 {M0 : MM} (hp : WP P) {q : Nat} {nb : Nat → Nat → Nat} {gd : Nat → Bool} (nx : NDX M0 P q nb gd) {ni i to fr : Nat} (hi : i < 2 ^ 30) (ht : to = tofs i) (hf : fr = 8192 - to) : ∀ (d k : Nat), k + d = q → ∀ f, d < f → ∀ M, Sm [118] [117] M0 M → (∀ x, x < q → 1 ≤ i → mJ M 117 (fr + x) = lN (cwN (pG P) nb gd (i - 1) x)) → (∀ x, x < k → mJ M 117 (to + x) = lN (cwN (pG P) nb gd i x)) →
    ∃ M', (∀ K34, LP7 (f12_stacks_b59_body K34) f M 86 (nI ni) (nI i) (nI to) (nI fr) (nI k) = K34 M' 86 (nI ni) (nI (i + 1))) ∧ Sm [118] [117] M0 M' ∧ ∀ x, x < q → mJ M' 117 (to + x) = lN (cwN (pG P) nb gd i x)
  | 0, k, hk, f + 1, _, M, s, hr, h => by
    obtain ⟨w, sg, r52, nd⟩ := nx.2.2 M s
    have q7 := nx.1
    have e : k = q := by omega
    rw [e] at h ⊢
    refine ⟨M, fun K34 => ?_, s, h⟩
    rw [LP7_s]
    generalize LP7 (f12_stacks_b59_body K34) f = K
    unfold f12_stacks_b59_body
    rw [aO_86 w, r52, if_pos (nI_le (Nat.le_refl _) (by omega)), nI_1]
  | d + 1, k, hk, f + 1, hf', M, s, hr, h => by
    obtain ⟨w, sg, r52, nd⟩ := nx.2.2 M s
    have q7 := nx.1
    have kq : k < q := by omega
    obtain ⟨ok, ss, ok1, ok2, ok3, ok4, -⟩ := nd k kq
    have tofs_le : to ≤ 8192 := by rw [ht]; unfold tofs; omega
    have tf : to = 0 ∨ to = 8192 := by rw [ht]; unfold tofs; omega
    obtain ⟨M', k1, k2, k3⟩ := LM_st59 hp nx (ni := ni) hi ht hf d (k + 1) (by omega) f (by omega) (uJ M 117 (upx (mJ M 117) (to + k) (lN (cwN (pG P) nb gd i k)))) (s.uJ _ (by decide)) (fun x hx h1 => by
      rw [mJ_uJ, if_pos rfl, upx_e, if_neg (by omega)]
      exact hr x hx h1) (fun x hx => by
      rw [mJ_uJ, if_pos rfl, upx_e]
      by_cases e : x = k
      · rw [if_pos (by rw [e]), e]
      · rw [if_neg (by omega)]
        exact h x (by omega))
    refine ⟨M', fun K34 => ?_, k2, k3⟩
    rw [← k1 K34]
    cases i with
    | zero =>
      have out : ∀ c, f12_stacks_b96 (LP7 (f12_stacks_b59_body K34) f) M 86 (nI ni) (nI 0) (nI to) (nI fr) (nI k) c = LP7 (f12_stacks_b59_body K34) f (uJ M 117 (upx (mJ M 117) (to + k) c)) 86 (nI ni) (nI 0) (nI to) (nI fr) (nI (k + 1)) := fun c => by
        obtain ⟨n, hn⟩ : ∃ n, FU = n + 1 := ⟨FU - 1, by have : (8 : Nat) < FU := FU_big (by omega); omega⟩
        unfold f12_stacks_b96 f12_stacks_b101
        rw [hn, LP9_s]
        generalize LP9 (f12_stacks_b101_body (LP7 (f12_stacks_b59_body K34) f)) n = K2
        unfold f12_stacks_b101_body
        rw [aO_86 w, sg, cI_some, if_pos (show nI 0 ≤ 0 by decide), ite_self]
        exact LM_st155 nx s kq tofs_le _
      rw [LP7_s]
      generalize LP7 (f12_stacks_b59_body K34) f = K at out ⊢
      unfold f12_stacks_b59_body f12_stacks_b95
      rw [aO_86 w, r52, if_neg (nI_ge kq (by omega)), if_pos (show nI 0 = 0 from rfl), aO_86 w, aO_86 w, r_86_50 w, aA_115 w (by omega), r_86_43 w, nI_clamp (by omega), ok2, aA_111 w (by omega), aO_86 w, nI_clamp (by omega), ok3, ok4, cI_some, out, out]
      simp only [bI_0]
      show _ = K (uJ M 117 (upx (mJ M 117) (to + k) (lN (if gd k = true then 1 else 0)))) 86 (nI ni) (nI 0) (nI to) (nI fr) (nI (k + 1))
      cases gd k
      · rw [if_pos rfl, if_neg (by decide)]
        rfl
      · rw [if_neg (by decide), if_pos rfl]
        rfl
    | succ i =>
      have q := LM_st101 hp nx s (ni := ni) (i := i) (to := to) (fr := fr) (k := k) (by omega) kq (by omega) tofs_le (fun x hx => hr x hx (by omega)) (LP7 (f12_stacks_b59_body K34) f) (pG P) 0 (by omega) FU (FU_big (by have := hp.2.1; omega))
      rw [LP7_s]
      generalize LP7 (f12_stacks_b59_body K34) f = K at q ⊢
      unfold f12_stacks_b59_body f12_stacks_b95 f12_stacks_b96
      rw [aO_86 w, r52, if_neg (nI_ge kq (by omega)), if_neg (show ¬ nI (i + 1) = 0 by rw [c_eq0 (show i + 1 < 2 ^ 31 by omega)]; omega)]
      exact q
theorem LM_st34 {M0 : MM} (hp : WP P) {q : Nat} {nb : Nat → Nat → Nat} {gd : Nat → Bool} (nx : NDX M0 P q nb gd) (hq : 0 < q) {ni : Nat} (hn : ni ≤ 12) : ∀ (d i : Nat), i + d = ni + 1 → ∀ f, d < f → ∀ M, Sm [118] [117] M0 M → (∀ x, x < q → 1 ≤ i → mJ M 117 (tofs (i - 1) + x) = lN (cwN (pG P) nb gd (i - 1) x)) →
    ∃ M', LP4 f12_stacks_b34_body f M 86 (nI ni) (nI i) = some (lN (cwN (pG P) nb gd ni 0), M') ∧ Sm [118] [117] M0 M'
  | 0, i, hi, f + 1, _, M, s, hr => by
    obtain ⟨w, sg, r52, nd⟩ := nx.2.2 M s
    have e : i = ni + 1 := by omega
    have := hr 0 hq (by omega)
    rw [e, show ni + 1 - 1 = ni by omega, Nat.add_zero] at this
    have tl : tofs ni ≤ 8192 := by unfold tofs; omega
    refine ⟨M, ?_, s⟩
    rw [e, LP4_s]
    generalize LP4 f12_stacks_b34_body f = K
    unfold f12_stacks_b34_body
    rw [if_pos (show nI ni < nI (ni + 1) by rw [c_lt (by omega) (by omega)]; omega), aO_86 w, gd_e (by decide), lit_2, show (8192 : Int32) = nI 8192 from rfl, nI_div (by omega) (by omega) (by omega), nI_mulN, nI_subN (Nat.div_mul_le_self _ _), nI_mulN, show ni - ni / 2 * 2 = ni % 2 by omega, show 8192 * (ni % 2) = tofs ni from rfl, r_86_53 w, aA_117 w (show tofs ni < 16384 by omega), nI_clamp (show tofs ni < 2 ^ 31 by omega)]
    show some (mJ M 117 (tofs ni), M) = _
    rw [this]
  | d + 1, i, hi, f + 1, hf, M, s, hr => by
    have tl : tofs i ≤ 8192 := by unfold tofs; omega
    have alt : 1 ≤ i → 8192 - tofs i = tofs (i - 1) := fun h1 => by unfold tofs; omega
    obtain ⟨M1, k1, k2, k3⟩ := LM_st59 hp nx (ni := ni) (i := i) (by omega) rfl rfl q 0 (by omega) FU (FU_big (by have := nx.1; omega)) M s (fun x hx h1 => by rw [alt h1]; exact hr x hx h1) (fun x hx => absurd hx (Nat.not_lt_zero _))
    obtain ⟨M', z1, z2⟩ := LM_st34 hp nx hq hn d (i + 1) (by omega) f (by omega) M1 k2 (fun x hx _ => k3 x hx)
    refine ⟨M', ?_, z2⟩
    rw [← z1, ← k1 (LP4 f12_stacks_b34_body f), LP4_s]
    generalize LP4 f12_stacks_b34_body f = K
    unfold f12_stacks_b34_body
    rw [if_neg (show ¬ nI ni < nI i by rw [c_lt (by omega) (by omega)]; omega), gd_e (by decide), lit_2, show (8192 : Int32) = nI 8192 from rfl, nI_div (by omega) (by omega) (by omega), nI_mulN, nI_subN (Nat.div_mul_le_self _ _), nI_mulN, show i - i / 2 * 2 = i % 2 by omega, show 8192 * (i % 2) = tofs i from rfl, bW_e, nI_subN tl, bW_e]
    rfl
def fmS : List Nat := [86, 95, 96, 97, 98, 111, 112, 113, 114, 115, 116, 118]
theorem CoM.row {M M' : MM} {nw : NW} (h : CoM M P o nw) (s : Sm [118] [117] M M') : CoM M' P o nw := h.sm s (by rw [s.i 86 (by decide)]) (fun j _ _ => by rw [s.i 86 (by decide)]) (by unfold SzM; rw [s.i 96 (by decide)]; exact h.sz) (by decide)
theorem ToldOK.row {M M' : MM} (h : ToldOK M P o) (s : Sm [118] [117] M M') : ToldOK M' P o := by
  unfold ToldOK at *
  rw [s.i 86 (by decide), s.j 99 (by decide)]
  exact h
theorem MaM.row {M M' : MM} (h : MaM M P o) (s : Sm [118] [117] M M') : MaM M' P o := h.sm s (by rw [s.i 86 (by decide)]) (by rw [s.i 86 (by decide)]) (by rw [s.i 86 (by decide)]) (by decide)
theorem SM_stacks {M : MM} {nw : NW} (h : CoM M P o nw) (ht : ToldOK M P o) (hm : MaM M P o) (x y : Int32) : ∃ M' r, f12_stacks M 86 x y = some (r, M') ∧ Sm fmS [99, 117] M M' ∧ (∀ j, j ≠ 0 → j ≠ 30 → j ≠ 31 → j ≠ 47 → j ≠ 48 → j ≠ 49 → j ≠ 52 → mI M' 86 j = mI M 86 j) ∧ CoM M' P o nw ∧ ToldOK M' P o ∧ MaM M' P o ∧ mI M' 86 0 = 0 ∧ ((ibx (pS P) x && ibx 13 y) = false → r = -1) ∧ ∀ p i, p < pS P → i < 13 → x = nI p → y = nI i → ∃ q nb L gd, NmA P o p q nb L ∧ (∀ k, k < q → gd k = L k []) ∧ 0 < q ∧ r = lN (cwN (pG P) nb gd i 0) := by
  have w := h.w
  have hp := h.p
  have p5 := hp.1
  have w0 : Wl (sI M 86 0 0) := w
  have b12 : (!decide (y < 0) && !decide ((12 : Int32) < y)) = ibx 13 y := by
    have := ib_pred (n := 13) (by omega) y
    rw [show nI 13 - 1 = (12 : Int32) from rfl] at this
    exact this
  unfold f12_stacks
  rw [aO_86 w, bM_e, aO_86 w0, SM_isState w0 (h.th 0).pg hp, cI_some]
  by_cases c : ibx (pS P) x = true
  · obtain ⟨p, hp0, rfl⟩ := ibx_out c (by omega)
    rw [c, bI_t, if_neg (by decide), SM_in, cI_some, b12, Bool.true_and]
    by_cases c2 : ibx 13 y = true
    · obtain ⟨i, hi, rfl⟩ := ibx_out c2 (by omega)
      obtain ⟨M1, F, n, S, t, K, m, os, q, v, a1, a2, a3, a4, a5, a6, a7, F', nt⟩ := SM_layMachine (h.th 0) (ht.th 0) (hm.th 0) hp0
      have nx := NDX_of a4 a7 nt
      have hq : 0 < q := by
        have := (a7.num hp0).2.2.2.2.2
        omega
      obtain ⟨M2, z1, z2⟩ := LM_st34 hp nx hq (show i ≤ 12 by omega) (i + 1) 0 (by omega) FU (FU_big (by omega)) M1 (Sm.rfl _ _ _) (fun _ _ q => absurd q (by omega))
      rw [c2, bI_t, if_neg (by decide), aO_86 w0, a1, cV_some]
      refine ⟨M2, _, z1, ((th_sm.more (by decide) (by decide)).trans (a2.more (by decide) (by decide))).trans (z2.more (by decide) (by decide)), fun j q0 h1 h2 h3 h4 h5 h6 => by rw [z2.i 86 (by decide)]; exact (a3 j h1 h2 h3 h4 h5 h6).trans (th_f q0), a4.row z2, a5.row z2, a6.row z2, ?_, (fun z => by cases z), fun p' i' hp' hi' e1 e2 => ?_⟩
      · rw [z2.i 86 (by decide), a3 0 (by decide) (by decide) (by decide) (by decide) (by decide) (by decide), mI_sI, if_pos ⟨rfl, rfl⟩]
      · rw [nI_eq (by omega) (by omega)] at e1 e2
        rw [← e1, ← e2]
        exact ⟨q, _, _, _, a7.nm hp hp0, fun _ _ => rfl, hq, rfl⟩
    · rw [Bool.not_eq_true] at c2
      rw [c2, bI_f, if_pos rfl]
      refine ⟨_, -1, rfl, th_sm.more (by decide) (by decide), fun j q0 _ _ _ _ _ _ => th_f q0, h.th 0, ht.th 0, hm.th 0, by rw [mI_sI, if_pos ⟨rfl, rfl⟩], fun _ => rfl, fun p' i' hp' hi' e1 e2 => ?_⟩
      rw [e2, ibx_nI (by omega) (by omega), decide_eq_true hi'] at c2
      cases c2
  · rw [Bool.not_eq_true] at c
    rw [c, bI_f, if_pos rfl]
    refine ⟨_, -1, rfl, th_sm.more (by decide) (by decide), fun j q0 _ _ _ _ _ _ => th_f q0, h.th 0, ht.th 0, hm.th 0, by rw [mI_sI, if_pos ⟨rfl, rfl⟩], fun _ => rfl, fun p' g' hp' hg' e1 e2 => ?_⟩
    rw [e1, ibx_nI (by omega) (by omega), decide_eq_true hp'] at c
    cases c
end STACKM
