/-! THE MOST STEPS FROM NOW: the face, the reference -/
section LONGM
variable {P : PG} {o : Nat} {cn : Nat → Nat → Nat → Bool}
/-- told of the levels below i, and of the states below j there -/
def WR (P : PG) (A B : Nat → Nat) (s : Nat → Nat) (i j : Nat) (row : Nat → Int64) : Prop := ∀ i' p, p < 5 → (i' < i ∨ (i' = i ∧ p < j)) → row (5 * i' + p) = vv (dpW P A B s i' p)
theorem LM_lo86 {M : MM} (hd : HdM M P o cn) (hp : WP P) {A B : Nat → Nat} (h : ABr M 108 109 A B) (bd : Bds A B) {H : Nat} {s : Nat → Nat} (hH : H ≤ 40) (hs : ∀ i, i < H → mI M 92 i = nI (s i) ∧ s i < 6) {i p : Nat} (hi : i < H) (hp' : p < pS P) (hr : WR P A B s (i + 1) 0 (mJ M 110)) (K43 : MM → Nat → Int32 → Int32 → Option (Int64 × MM)) : ∀ (d j : Nat), j + d = pS P → ∀ f, d < f →
    LP6 (f12_longest_b86_body K43) f M 86 (nI (i + 1)) (nI p) (vv (max (B (6 * p + s i)) (mxN (fun q => sm (A (5 * (6 * p + s i) + q)) (dpW P A B s i q)) j))) (nI j) = f12_longest_b154 K43 M 86 (nI (i + 1)) (nI p) (vv (dpW P A B s (i + 1) p))
  | 0, j, hj, f + 1, _ => by
    obtain ⟨w, h2, -⟩ := id hd
    have p5 := hp.1
    have e : j = pS P := by omega
    have ew : dpW P A B s (i + 1) p = max (B (6 * p + s i)) (mxN (fun q => sm (A (5 * (6 * p + s i) + q)) (dpW P A B s i q)) (pS P)) := if_pos hp'
    rw [e, ew, LP6_s]
    generalize LP6 (f12_longest_b86_body K43) f = K
    unfold f12_longest_b86_body
    rw [aO_86 w, SM_states w h2, cI_some, if_pos (nI_le (Nat.le_refl _) (by omega))]
  | d + 1, j, hj, f + 1, hf => by
    obtain ⟨w, h2, -⟩ := id hd
    have p5 := hp.1
    obtain ⟨s1, s2⟩ := hs i hi
    have ih := LM_lo86 hd hp h bd hH hs hi hp' hr K43 d (j + 1) (by omega) f (by omega)
    have i1 : 5 * (6 * p + s i) + j < 150 := by omega
    have i2 : 5 * i + j < 205 := by omega
    have wl := dpW_le (P := P) bd (s := s) i j
    rw [← ih, LP6_s]
    generalize LP6 (f12_longest_b86_body K43) f = K
    unfold f12_longest_b86_body
    have n0 : ¬ nI (i + 1) ≤ 0 := by
      rw [lit_0, c_le (by omega) (by omega)]
      omega
    rw [aO_86 w, SM_states w h2, cI_some, if_neg (nI_ge (by omega) (by omega)), if_neg n0, aO_86 w, SM_states w h2, cI_some, if_neg (nI_ge hp' (by omega)), aO_86 w, aO_86 w, r_86_17 w, nI_sub1 (by omega), show i + 1 - 1 = i by omega, aA_92 w (by omega), nI_clamp (by omega), s1, aO_86 w, SM_popCell w, cI_some, r_86_41 w, aA_109 w i1, aO_86 w, r_86_42 w, lit_5, nI_mulN, nI_add, aA_110 w i2, nI_clamp (by omega), nI_clamp (by omega), h.1 _ i1, hr i j (by omega) (.inl (by omega)), SM_sv (bd.1 _) wl.2, cJ_some, SM_longer (Nat.max_le.mpr ⟨(bd.2 _).2, mxN_le _ (fun q _ => sm_le _ _)⟩) (sm_le _ _), cJ_some, nI_1, Nat.max_assoc]
    rfl
theorem LM_lo43 {M0 : MM} (hd0 : HdM M0 P o cn) (hp : WP P) {A B : Nat → Nat} (h0 : ABr M0 108 109 A B) (bd : Bds A B) {H : Nat} {s : Nat → Nat} (hH : H ≤ 40) (hs : ∀ i, i < H → mI M0 92 i = nI (s i) ∧ s i < 6) {i : Nat} (hi : i ≤ H) : ∀ (d j : Nat), j + d = 5 → ∀ f, d < f → ∀ M, Sm [] [110] M0 M → WR P A B s i j (mJ M 110) →
    ∃ M', (∀ K33, LP4 (f12_longest_b43_body K33) f M 86 (nI i) (nI j) = K33 M' 86 (nI (i + 1))) ∧ Sm [] [110] M0 M' ∧ WR P A B s (i + 1) 0 (mJ M' 110)
  | 0, j, hj, f + 1, _, M, sm0, hr => by
    have e : j = 5 := by omega
    rw [e] at hr ⊢
    refine ⟨M, fun K33 => ?_, sm0, fun i' p hp5 q => hr i' p hp5 (by omega)⟩
    rw [LP4_s]
    generalize LP4 (f12_longest_b43_body K33) f = K
    unfold f12_longest_b43_body
    rw [lit_5, if_pos (nI_le (by omega) (by omega)), nI_1]
  | d + 1, j, hj, f + 1, hf, M, sm0, hr => by
    have hd : HdM M P o cn := hd0.sm sm0 (by rw [sm0.i 86 (by decide)]) (by decide) (by decide)
    obtain ⟨w, h2, -⟩ := id hd
    have p5 := hp.1
    have hA : ABr M 108 109 A B := ⟨fun i hi => by rw [sm0.j 109 (by decide)]; exact h0.1 i hi, fun i hi => by rw [sm0.j 108 (by decide)]; exact h0.2 i hi⟩
    have i0 : 5 * i + j < 205 := by omega
    obtain ⟨M', k1, k2, k3⟩ := LM_lo43 hd0 hp h0 bd hH hs hi d (j + 1) (by omega) f (by omega) (uJ M 110 (upx (mJ M 110) (5 * i + j) (vv (dpW P A B s i j)))) (sm0.uJ _ (by decide)) (fun i' p hp5 q => by
      rw [mJ_uJ, if_pos rfl, upx_e]
      by_cases e : 5 * i' + p = 5 * i + j
      · rw [if_pos e, show i' = i by omega, show p = j by omega]
      · rw [if_neg e]
        exact hr i' p hp5 (by omega))
    refine ⟨M', fun K33 => ?_, k2, k3⟩
    -- the cell is written
    have fin : ∀ v, v = vv (dpW P A B s i j) → f12_longest_b154 (LP4 (f12_longest_b43_body K33) f) M 86 (nI i) (nI j) v = K33 M' 86 (nI (i + 1)) := fun v hv => by
      rw [← k1 K33]
      generalize LP4 (f12_longest_b43_body K33) f = K
      unfold f12_longest_b154
      rw [aO_86 w, r_86_42 w, lit_5, nI_mulN, nI_add, aA_110 w i0, bM_e, sJ_e, nI_clamp (by omega), hv, nI_1]
    obtain ⟨n, hn⟩ : ∃ n, FU = n + 1 := ⟨FU - 1, by have : (8 : Nat) < FU := FU_big (by omega); omega⟩
    cases i with
    | zero =>
      have q : f12_longest_b86 (LP4 (f12_longest_b43_body K33) f) M 86 0 (nI j) 0 0 = f12_longest_b154 (LP4 (f12_longest_b43_body K33) f) M 86 0 (nI j) 0 := by
        unfold f12_longest_b86
        rw [hn, LP6_s]
        generalize LP6 (f12_longest_b86_body (LP4 (f12_longest_b43_body K33) f)) n = K2
        unfold f12_longest_b86_body
        rw [aO_86 w, SM_states w h2, cI_some, if_pos (show (0 : Int32) ≤ 0 by decide), ite_self]
      have q2 := q.trans (fin 0 rfl)
      rw [LP4_s]
      generalize LP4 (f12_longest_b43_body K33) f = K at q2 ⊢
      unfold f12_longest_b43_body f12_longest_b60 f12_longest_b82
      rw [lit_5, if_neg (nI_ge (by omega) (by omega)), if_pos (show nI 0 = 0 from rfl)]
      exact q2
    | succ i =>
      have nz : ¬ nI (i + 1) = 0 := by
        rw [c_eq0 (show i + 1 < 2 ^ 31 by omega)]
        omega
      have n0 : ¬ nI (i + 1) ≤ 0 := by
        rw [lit_0, c_le (by omega) (by omega)]
        omega
      obtain ⟨s1, s2⟩ := hs i (by omega)
      have s1' : mI M 92 i = nI (s i) := by rw [sm0.i 92 (by decide)]; exact s1
      by_cases c : j < pS P
      · have q := LM_lo86 hd hp hA bd hH (fun i hi => by rw [sm0.i 92 (by decide)]; exact hs i hi) (show i < H by omega) c (fun i' p hp5 q => hr i' p hp5 (by omega)) (LP4 (f12_longest_b43_body K33) f) (pS P) 0 (by omega) FU (FU_big (by omega))
        have q2 := q.trans (fin _ rfl)
        have i1 : 6 * j + s i < 30 := by omega
        rw [LP4_s]
        generalize LP4 (f12_longest_b43_body K33) f = K at q2 ⊢
        unfold f12_longest_b43_body f12_longest_b60 f12_longest_b82 f12_head
        rw [lit_5, if_neg (nI_ge (by omega) (by omega)), if_neg nz, aO_86 w, SM_states w h2, cI_some, if_pos (show nI j < nI (pS P) by rw [c_lt (by omega) (by omega)]; exact c), aO_86 w, aO_86 w, r_86_17 w, nI_sub1 (by omega), show i + 1 - 1 = i by omega, aA_92 w (by omega), nI_clamp (by omega), s1', aO_86 w, cI_some, hd_e', r_86_40 w, aA_108 w i1, nI_clamp (by omega), hA.2 _ i1]
        refine Eq.trans ?_ q2
        show _ = f12_longest_b86 K M 86 (nI (i + 1)) (nI j) (vv (max (B (6 * j + s i)) 0)) 0
        rw [Nat.max_eq_left (Nat.zero_le _)]
      · have q : f12_longest_b86 (LP4 (f12_longest_b43_body K33) f) M 86 (nI (i + 1)) (nI j) 0 0 = f12_longest_b154 (LP4 (f12_longest_b43_body K33) f) M 86 (nI (i + 1)) (nI j) 0 := by
          unfold f12_longest_b86
          rw [hn, LP6_s]
          generalize LP6 (f12_longest_b86_body (LP4 (f12_longest_b43_body K33) f)) n = K2
          unfold f12_longest_b86_body
          rw [aO_86 w, SM_states w h2, cI_some, if_neg n0, aO_86 w, SM_states w h2, cI_some, if_pos (nI_le (show pS P ≤ j by omega) (by omega)), ite_self]
        have q2 := q.trans (fin 0 (by
          unfold dpW
          rw [if_neg c]
          rfl))
        rw [LP4_s]
        generalize LP4 (f12_longest_b43_body K33) f = K at q2 ⊢
        unfold f12_longest_b43_body f12_longest_b60 f12_longest_b82
        rw [lit_5, if_neg (nI_ge (by omega) (by omega)), if_neg nz, aO_86 w, SM_states w h2, cI_some, if_neg (show ¬ nI j < nI (pS P) by rw [c_lt (by omega) (by omega)]; exact c)]
        exact q2
theorem LM_lo33 {M0 : MM} (hd0 : HdM M0 P o cn) (hp : WP P) {A B : Nat → Nat} (h0 : ABr M0 108 109 A B) (bd : Bds A B) {p0 H : Nat} {s : Nat → Nat} (hp0 : p0 < 5) (h20 : mI M0 86 20 = nI p0) (h21 : mI M0 86 21 = nI H) (hH : H ≤ 40) (hs : ∀ i, i < H → mI M0 92 i = nI (s i) ∧ s i < 6) : ∀ (d i : Nat), i + d = H + 1 → ∀ f, d < f → ∀ M, Sm [] [110] M0 M → WR P A B s i 0 (mJ M 110) →
    ∃ M', LP3 f12_longest_b33_body f M 86 (nI i) = some (vv (dpW P A B s H p0), M') ∧ Sm [] [110] M0 M'
  | 0, i, hi, f + 1, _, M, sm0, hr => by
    have hd : HdM M P o cn := hd0.sm sm0 (by rw [sm0.i 86 (by decide)]) (by decide) (by decide)
    have w := hd.1
    have e : i = H + 1 := by omega
    refine ⟨M, ?_, sm0⟩
    have i0 : 5 * H + p0 < 205 := by omega
    rw [LP3_s]
    generalize LP3 f12_longest_b33_body f = K
    unfold f12_longest_b33_body
    rw [aO_86 w, sm0.i 86 (by decide), h21, h20, if_pos (show nI H < nI i by rw [c_lt (by omega) (by omega)]; omega), aO_86 w, aO_86 w, aO_86 w, r_86_42 w, lit_5, nI_mulN, nI_add, aA_110 w i0, nI_clamp (by omega), hr H p0 hp0 (.inl (by omega))]
  | d + 1, i, hi, f + 1, hf, M, sm0, hr => by
    have hd : HdM M P o cn := hd0.sm sm0 (by rw [sm0.i 86 (by decide)]) (by decide) (by decide)
    have w := hd.1
    obtain ⟨M1, k1, k2, k3⟩ := LM_lo43 hd0 hp h0 bd hH hs (show i ≤ H by omega) 5 0 (by omega) FU (FU_big (by omega)) M sm0 hr
    obtain ⟨M', z1, z2⟩ := LM_lo33 hd0 hp h0 bd hp0 h20 h21 hH hs d (i + 1) (by omega) f (by omega) M1 k2 k3
    refine ⟨M', ?_, z2⟩
    rw [← z1, ← k1 (LP3 f12_longest_b33_body f), LP3_s]
    generalize LP3 f12_longest_b33_body f = K
    unfold f12_longest_b33_body
    rw [aO_86 w, sm0.i 86 (by decide), h21, if_neg (show ¬ nI H < nI i by rw [c_lt (by omega) (by omega)]; omega)]
    rfl
theorem SM_longest {M : MM} {nw : NW} (h : CoM M P o nw) (ht : ToldOK M P o) (hcn : CnOK P o cn) : ∃ M' r, f12_longest M 86 = some (r, M') ∧ Sm [86, 95, 96, 97, 98, 106, 107] [99, 108, 109, 110] M M' ∧ (∀ j, j ≠ 0 → j ≠ 30 → j ≠ 31 → mI M' 86 j = mI M 86 j) ∧ CoM M' P o nw ∧ ToldOK M' P o ∧ (nw = none → r = -2) ∧ ∀ p H s, nw = some (p, H, s) → ∃ l, LsA P o cn l ∧ loA P o cn p H s l r := by
  have w := h.w
  have w0 : Wl (sI M 86 0 0) := w
  unfold f12_longest
  rw [aO_86 w, bM_e, aO_86 w0]
  rcases nw with _ | ⟨p0, H, s⟩
  · rw [show mI (sI M 86 0 0) 86 19 = 0 from (th_f (by decide)).trans h.2.2.2.2.1, if_pos rfl]
    exact ⟨_, -2, rfl, th_sm.more (by decide) (by decide), fun j q _ _ => th_f q, h.th 0, ht.th 0, fun _ => rfl, fun _ _ _ q => by cases q⟩
  · rw [show mI (sI M 86 0 0) 86 19 = 1 from (th_f (by decide)).trans h.2.2.2.2.1.1, if_neg (by decide), aO_86 w0]
    obtain ⟨M1, r, l, a1, a2, a3, a4, a5, a6, a7, a8, a9⟩ := SM_isEndless (h.th 0) (ht.th 0) hcn
    have w1 := a8.w
    rw [a1, cI_some]
    cases r with
    | true =>
      rw [bI_t, if_neg (by decide)]
      exact ⟨M1, -1, rfl, (th_sm.more (by decide) (by decide)).trans (a6.more (by decide) (by decide)), fun j q0 q1 q2 => (a7 j q1 q2).trans (th_f q0), a8, a9, (fun q => by cases q), fun p' H' s' q => by cases q; exact ⟨l, a2, fun _ => rfl, fun z => absurd (a3.mp rfl) z⟩⟩
    | false =>
      have hn : ¬ enP P cn p0 H s l := fun z => by have := a3.mpr z; cases this
      obtain ⟨rk, hrk⟩ := Rk_ex a2
      obtain ⟨M2, A, B, m1, m2, m3, m4, m5⟩ := SM_layMost a5 h.p (o_lt h.2.2.1) hcn hrk
      have w2 := w1.sm m2
      have hd2 : HdM M2 P o cn := a5.sm m2 (by rw [m2.i 86 (by decide)]) (by decide) (by decide)
      obtain ⟨e1, e2, e3, e4⟩ := a8.2.2.2.2.1
      have e2' : mI M2 86 20 = nI p0 := by rw [m2.i 86 (by decide)]; exact e2
      have e3' : mI M2 86 21 = nI H := by rw [m2.i 86 (by decide)]; exact e3
      obtain ⟨n1, n2, n3⟩ := a8.2.2.2.2.2.1
      have n2' : H ≤ 40 := n2
      have p5 := h.p.1
      have hs : ∀ i, i < H → s i < 6 := fun i hi => Nat.lt_of_lt_of_le (n3 i hi) h.p.2.1
      obtain ⟨M3, q1, q2⟩ := LM_lo33 (p0 := p0) (H := H) (s := s) hd2 h.p m3 m4 (Nat.lt_of_lt_of_le n1 p5) e2' e3' n2' (fun i hi => ⟨by rw [m2.i 92 (by decide)]; exact e4 i hi, hs i hi⟩) (H + 1) 0 (by omega) FU (FU_big (by omega)) M2 (Sm.rfl _ _ _) (fun i' p hp5 q => by omega)
      have s3 : Sm [] [108, 109, 110] M1 M3 := (m2.more (by decide) (by decide)).trans (q2.more (by decide) (by decide))
      have eV : vv (dpW P A B s H p0) = vv (dpM P (VA P o cn) (VB P o cn) p0 H s H) := by rw [dpM_W h.p n1 hs, dpW_eq h.p hcn hs (EqD_of h.p hs m5 hn) H 0 p0 (by omega) n1 (decide_eq_true rfl)]
      rw [bI_f, if_pos rfl, aO_86 w1, m1, cV_some]
      refine ⟨M3, _, q1, ((th_sm.more (by decide) (by decide)).trans (a6.more (by decide) (by decide))).trans (s3.more (by decide) (by decide)), fun j q0 z1 z2 => by rw [s3.i 86 (by decide)]; exact (a7 j z1 z2).trans (th_f q0), a8.sm s3 (by rw [s3.i 86 (by decide)]) (fun j _ _ => by rw [s3.i 86 (by decide)]) (by unfold SzM; rw [s3.i 96 (by decide)]; exact a8.sz) (by decide), ?_, (fun q => by cases q), fun p' H' s' q => by cases q; exact ⟨l, a2, fun z => absurd z hn, fun _ => eV⟩⟩
      · unfold ToldOK at *
        rw [s3.i 86 (by decide), s3.j 99 (by decide)]
        exact a9
end LONGM
