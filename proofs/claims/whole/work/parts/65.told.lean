/-! WHAT THE REFERENCE IS TOLD OF GOALS, AND ITS NET WITHOUT THE MEMORY -/
def DT (T : TG) (y g x : Nat) : Bool := decide ((y - 5) / 4 < tK T) && frmD T y g x
theorem okD_T (T : TG) : okD T (DT T) := by
  intro k n g y hk hn hy
  unfold DT frmD
  rw [show (5 + 4 * k + n - 5) % 4 = n by omega, show (5 + 4 * k + n - 5) / 4 = k by omega, decide_eq_true hk, Bool.true_and, decide_eq_true_iff]
theorem okD_eq {T : TG} {D D' : Nat → Nat → Nat → Bool} (h : okD T D) (h' : okD T D') {y g x : Nat} (hy : 5 ≤ y) (hk : (y - 5) / 4 < tK T) (hx : x < 21) : D y g x = D' y g x := by
  have e : y = 5 + 4 * ((y - 5) / 4) + (y - 5) % 4 := by omega
  have a := h _ ((y - 5) % 4) g x hk (by omega) hx
  have b := h' _ ((y - 5) % 4) g x hk (by omega) hx
  rw [← e] at a b
  exact Bool.eq_iff_iff.mpr (a.trans b.symm)
theorem GC_far {P : PG} {o : Nat} {T : TG} {D : Nat → Nat → Nat → Bool} (hp : WP P) (hT : okT (pG P) T) (hD : okD T D) {F : Nat → Nat} (hF : GC 21 (initM (pG P) T) D P o F) {p g x : Nat} (hp5 : p < 5) (hg : g < 6) (hx : x < 21) (hv : ¬ vld T x) : F (ix 21 p g x) = FARN := by
  obtain ⟨E, hE⟩ := GC_exists (n := 15) (I := allS (pG P) T) (D := D15 (pG P) T) (P := P) (o := o) hp (by omega)
  exact (GC_sim hp hT hD hE hF).2.1 p g x hp5 hg hx hv
theorem Clo_DD {P : PG} {o : Nat} {T : TG} {D D' : Nat → Nat → Nat → Bool} (hp : WP P) (hT : okT (pG P) T) (hD : okD T D) (hD' : okD T D') {F : Nat → Nat} (hF : GC 21 (initM (pG P) T) D P o F) : Clo 21 (initM (pG P) T) D' P o F := by
  refine ⟨hF.1.1, hF.1.2.1, fun r hr => ⟨(hF.1.2.2 r hr).1, (hF.1.2.2 r hr).2.1, fun h2 x hx y hy => ?_⟩⟩
  have hl := rin_lt hr
  have q := (hF.1.2.2 r hr).2.2 h2 x hx y hy
  by_cases c : 5 ≤ y ∧ tK T ≤ (y - 5) / 4
  · rw [GC_far hp hT hD hF (hp.t5 hl) (hp.a6 hl (by omega)) hy (by
      rintro (v | ⟨k, n, hk, e, hn, -⟩)
      · omega
      · have := (hT.2.2 k hk).2.1
        omega), cp_F', cp_F]
    exact hF.1.1 _ (ix_lt (hp.p5 hl) (hp.g6 hl) hx)
  · rw [← onw_D (D := D) (fun q5 => okD_eq hD hD' q5 (by omega) hx)]
    exact q
theorem GC_DD {P : PG} {o : Nat} {T : TG} {D D' : Nat → Nat → Nat → Bool} (hp : WP P) (hT : okT (pG P) T) (hD : okD T D) (hD' : okD T D') {F : Nat → Nat} (hF : GC 21 (initM (pG P) T) D P o F) : GC 21 (initM (pG P) T) D' P o F := by
  refine ⟨Clo_DD hp hT hD hD' hF, fun N hN e he => ?_⟩
  obtain ⟨L, hL⟩ := GC_exists (n := 21) (I := initM (pG P) T) (D := D') (P := P) (o := o) hp (by omega)
  exact Nat.le_trans (hL.2 N hN e he) (hF.2 L (Clo_DD hp hT hD' hD hL) e he)
theorem StepC_cg {n : Nat} {D : Nat → Nat → Nat → Bool} {P : PG} {o : Nat} {N N' : Nat → Nat} (hp : WP P) (hn : 5 ≤ n) (h : ∀ e, e < 30 * n → N' e = N e) (k : StepC n D P o N N) : StepC n D P o N' N' :=
  (k.mono hp (fun e he => Nat.le_of_eq (h e he).symm)).monoL hp hn (fun e he => Nat.le_of_eq (h e he))
theorem GC_cg {n : Nat} {I : Nat → Bool} {D : Nat → Nat → Nat → Bool} {P : PG} {o : Nat} {L L' : Nat → Nat} (hp : WP P) (hn : 5 ≤ n) (h : ∀ e, e < 30 * n → L' e = L e) (k : GC n I D P o L) : GC n I D P o L' :=
  ⟨⟨fun e he => by rw [h e he]; exact k.1.1 e he, fun e he hi => by rw [h e he]; exact k.1.2.1 e he hi, StepC_cg hp hn h k.1.2.2⟩, fun N hN e he => by rw [h e he]; exact k.2 N hN e he⟩
theorem okT_g {P : PG} (hp : WP P) : okT (pG P) (gTG P) := by
  obtain ⟨h5, h6, -, h4, -, hk⟩ := hp
  refine ⟨h6, h4, fun k q => ?_⟩
  obtain ⟨a, b, c, d⟩ := hk k q
  exact ⟨Nat.lt_of_lt_of_le a h5, b, c, d⟩
/-- what both sides tell of a place's cost -/
theorem cost_same {P : PG} {o : Nat} {T : TG} {D : Nat → Nat → Nat → Bool} (hp : WP P) (hT : okT (pG P) T) (hD : okD T D) {E F s : Nat → Nat} (hE : GC 15 (allS (pG P) T) (D15 (pG P) T) P o E) (dE : DeE (D15 (pG P) T) E) (hF : GC 21 (initM (pG P) T) (DT T) P o F) {H p : Nat} (hs : ∀ i, i < H → s i < pG P) (hp5 : p < 5) :
    val 15 (eC E) (z15 T) s H p = val 21 (e21 T D F) (z21 T) s H p := by
  have := val_same hT hD (GC_sim hp hT hD hE (GC_DD hp hT (okD_T T) hD hF)) dE H hs p (by omega) (.inl hp5)
  rw [ph_lt hp5] at this
  exact this
section TOLD
variable {M : MM} {P : PG} {o oa : Nat}
def tdM (M : MM) (T : TG) (k : Nat) : Prop := mI M 95 k = nI (tS T k) ∧ tS T k < 5 ∧ mI M 96 k = nI (tN T k) ∧ tN T k ≤ 3 ∧ mI M 97 k = nI (tM T k) ∧ tM T k ≤ 1 ∧ ∀ i, i < tN T k → mI M 98 (3 * k + i) = nI (tG T k i) ∧ tG T k i < 6
theorem LM_tag71 (w : Wl M) {k : Nat} (hk : k < 4) {K12 : MM → Nat → Int32 → Option MM} :
    ∀ (d j : Nat), j + d = 3 → ∀ f, d < f → LP4 (f12_targetsAreGoals_b71_body K12) f (uI M 98 (fun i => if 3 * k ≤ i ∧ i < 3 * k + j then mI M 90 (6 * k + 3 + (i - 3 * k)) else mI M 98 i)) 86 (nI k) (nI j) = K12 (uI M 98 (fun i => if 3 * k ≤ i ∧ i < 3 * k + 3 then mI M 90 (6 * k + 3 + (i - 3 * k)) else mI M 98 i)) 86 (nI (k + 1))
  | 0, j, hj, f + 1, _ => by
    have e : j = 3 := by omega
    subst e
    show f12_targetsAreGoals_b71_body _ _ _ _ _ _ = _
    generalize LP4 (f12_targetsAreGoals_b71_body K12) f = K
    unfold f12_targetsAreGoals_b71_body
    rw [lit_3, if_pos (nI_le (Nat.le_refl _) (by omega)), nI_1]
  | d + 1, j, hj, f + 1, hf => by
    have ih := LM_tag71 w hk (K12 := K12) d (j + 1) (by omega) f (by omega)
    have w' : ∀ {r}, Wl (uI M 98 r) := w
    rw [← ih]
    show f12_targetsAreGoals_b71_body _ _ _ _ _ _ = _
    generalize LP4 (f12_targetsAreGoals_b71_body K12) f = K
    unfold f12_targetsAreGoals_b71_body
    rw [lit_3, if_neg (nI_ge (show j < 3 by omega) (by omega)), aO_86 w', r_86_4 w', lit_6, nI_mulN, nI_add, nI_add, nI_mulN, nI_add, aO_86 w', r_86_27 w', aA_90 w' (by omega), aA_98 w' (by omega), nI_clamp (by omega), nI_clamp (by omega), bM_e, sI_e, mI_uI, if_pos rfl, uI_uI, nI_1]
    congr 2
    funext i
    show (if i = 3 * k + j then mI M 90 (6 * k + 3 + j) else if 3 * k ≤ i ∧ i < 3 * k + j then mI M 90 (6 * k + 3 + (i - 3 * k)) else mI M 98 i) = _
    by_cases c : i = 3 * k + j
    · rw [if_pos c, if_pos (by omega), c, show 6 * k + 3 + (3 * k + j - 3 * k) = 6 * k + 3 + j by omega]
    · rw [if_neg c]
      by_cases c2 : 3 * k ≤ i ∧ i < 3 * k + j
      · rw [if_pos c2, if_pos (by omega)]
      · rw [if_neg c2, if_neg (by omega)]
theorem PgM.sm {M M' : MM} {Is Js : List Nat} (h : PgM M P o) (s : Sm Is Js M M') (h1 : mI M' 86 5 = mI M 86 5) (h2 : 87 ∉ Is) (h3 : 89 ∉ Is) (h4 : 90 ∉ Is) : PgM M' P o := by
  unfold PgM at *
  rw [h1, s.i 87 h2, s.i 89 h3, s.i 90 h4]
  exact h
theorem tdM.cg {M M' : MM} {T : TG} {k : Nat} (h : tdM M T k) (h1 : mI M' 95 k = mI M 95 k) (h2 : mI M' 96 k = mI M 96 k) (h3 : mI M' 97 k = mI M 97 k) (h4 : ∀ i, i < 3 → mI M' 98 (3 * k + i) = mI M 98 (3 * k + i)) : tdM M' T k := by
  unfold tdM at *
  obtain ⟨a1, a2, a3, a4, a5, a6, a7⟩ := h
  rw [h1, h2, h3]
  exact ⟨a1, a2, a3, a4, a5, a6, fun i hi => by rw [h4 i (by omega)]; exact a7 i hi⟩
theorem LM_tag12 (hp : WP P) : ∀ (d j : Nat), j + d = pK P → ∀ f, d < f → ∀ M, Wl M → PgM M P o → mI M 86 30 = nI (pK P) → SzM M → (∀ k, k < j → tdM M (gTG P) k) →
    ∃ M', LP3 f12_targetsAreGoals_b12_body f M 86 (nI j) = some M' ∧ Sm [95, 96, 97, 98] [] M M' ∧ SzM M' ∧ ∀ k, k < pK P → tdM M' (gTG P) k
  | 0, j, hj, f + 1, _, M, w, h, h30, hs, hk => by
    have e : j = pK P := by omega
    subst e
    refine ⟨M, ?_, Sm.rfl _ _ _, hs, hk⟩
    show f12_targetsAreGoals_b12_body _ _ _ _ = _
    generalize LP3 f12_targetsAreGoals_b12_body f = K
    unfold f12_targetsAreGoals_b12_body
    have := hp.2.2.2.1
    rw [aO_86 w, h30, if_pos (nI_le (Nat.le_refl _) (by omega))]
  | d + 1, j, hj, f + 1, hf, M, w, h, h30, hs, hk => by
    have k4 := hp.2.2.2.1
    have hj4 : j < 4 := by omega
    obtain ⟨g1, g2, g3, g4⟩ := hp.2.2.2.2.2 j (by omega)
    have p5 := hp.1
    have g6 := hp.2.1
    obtain ⟨M1, hM1⟩ : ∃ M1, M1 = sI M 95 j (mI M 90 (6 * j)) := ⟨_, rfl⟩
    obtain ⟨M2, hM2⟩ : ∃ M2, M2 = sI M1 96 j (mI M1 90 (6 * j + 1)) := ⟨_, rfl⟩
    obtain ⟨M3, hM3⟩ : ∃ M3, M3 = sI M2 97 j (mI M2 90 (6 * j + 2)) := ⟨_, rfl⟩
    obtain ⟨M4, hM4⟩ : ∃ M4, M4 = uI M3 98 (fun i => if 3 * j ≤ i ∧ i < 3 * j + 3 then mI M3 90 (6 * j + 3 + (i - 3 * j)) else mI M3 98 i) := ⟨_, rfl⟩
    have w1 : Wl M1 := by rw [hM1]; exact w
    have w2 : Wl M2 := by rw [hM2]; exact w1
    have w3 : Wl M3 := by rw [hM3]; exact w2
    have w4 : Wl M4 := by rw [hM4]; exact w3
    have sm : Sm [95, 96, 97, 98] [] M M4 := by
      subst hM4 hM3 hM2 hM1
      exact ((((Sm.rfl _ _ M).uI _ (by decide)).uI _ (by decide)).uI _ (by decide)).uI _ (by decide)
    have n1 : mI M1 90 = mI M 90 := by subst hM1; rfl
    have n2 : mI M2 90 = mI M 90 := by subst hM2; exact n1
    have n3 : mI M3 90 = mI M 90 := by subst hM3; exact n2
    have h30' : mI M4 86 30 = nI (pK P) := by
      subst hM4 hM3 hM2 hM1
      exact h30
    have h' : PgM M4 P o := by
      subst hM4 hM3 hM2 hM1
      exact h
    have kk := h.kk j (by omega)
    have r0 : mI M 90 (6 * j) = nI (kp P j) := kk 0 (by omega)
    have r1 : mI M 90 (6 * j + 1) = nI (kn P j) := kk 1 (by omega)
    have r2 : mI M 90 (6 * j + 2) = nI (km P j) := kk 2 (by omega)
    have t95 : ∀ k, mI M4 95 k = if k = j then nI (kp P j) else mI M 95 k := fun k => by
      subst hM4 hM3 hM2 hM1
      show upx (mI M 95) j (mI M 90 (6 * j)) k = _
      rw [upx_e, r0]
    have t96 : ∀ k, mI M4 96 k = if k = j then nI (kn P j) else mI M 96 k := fun k => by
      subst hM4 hM3 hM2 hM1
      show upx (mI M 96) j (mI M 90 (6 * j + 1)) k = _
      rw [upx_e, r1]
    have t97 : ∀ k, mI M4 97 k = if k = j then nI (km P j) else mI M 97 k := fun k => by
      subst hM4 hM3 hM2 hM1
      show upx (mI M 97) j (mI M 90 (6 * j + 2)) k = _
      rw [upx_e, r2]
    have t98 : ∀ i, mI M4 98 i = if 3 * j ≤ i ∧ i < 3 * j + 3 then mI M 90 (6 * j + 3 + (i - 3 * j)) else mI M 98 i := fun i => by
      subst hM4 hM3 hM2 hM1
      rfl
    obtain ⟨M', h1, h2, h3, h4⟩ := LM_tag12 hp d (j + 1) (by omega) f (by omega) M4 w4 h' h30' (fun k hk4 => by
      rw [t96]
      by_cases c : k = j
      · rw [if_pos c]
        exact ⟨_, g2, rfl⟩
      · rw [if_neg c]
        exact hs k hk4) (fun k hkj => by
      by_cases c : k = j
      · subst c
        refine ⟨by rw [t95, if_pos rfl]; rfl, Nat.lt_of_lt_of_le g1 p5, by rw [t96, if_pos rfl]; rfl, g2, by rw [t97, if_pos rfl]; rfl, g3, fun i hi => ?_⟩
        have hi' : i < kn P k := hi
        rw [t98, if_pos (by omega), show 6 * k + 3 + (3 * k + i - 3 * k) = 6 * k + (3 + i) by omega]
        exact ⟨kk (3 + i) (by omega), Nat.lt_of_lt_of_le (g4 i hi) g6⟩
      · exact (hk k (by omega)).cg (by rw [t95, if_neg c]) (by rw [t96, if_neg c]) (by rw [t97, if_neg c]) (fun i hi => by rw [t98, if_neg (by omega)]))
    refine ⟨M', ?_, sm.trans h2, h3, h4⟩
    rw [← h1]
    show f12_targetsAreGoals_b12_body _ _ _ _ = _
    have q := LM_tag71 w3 hj4 (K12 := LP3 f12_targetsAreGoals_b12_body f) 3 0 (by omega) FU (FU_big (by omega))
    have e0 : uI M3 98 (fun i => if 3 * j ≤ i ∧ i < 3 * j + 0 then mI M3 90 (6 * j + 3 + (i - 3 * j)) else mI M3 98 i) = M3 := uI_eq (by
      funext i
      rw [if_neg (by omega)])
    rw [e0, ← hM4] at q
    generalize LP3 f12_targetsAreGoals_b12_body f = K at q ⊢
    unfold f12_targetsAreGoals_b12_body f12_targetsAreGoals_b71
    rw [aO_86 w, h30, if_neg (nI_ge (by omega) (by omega)), aO_86 w, r_86_4 w, lit_6, nI_mulN, aO_86 w, r_86_24 w, aA_90 w (by omega), aA_95 w hj4, bM_e, nI_clamp (by omega), nI_clamp (by omega), ← hM1, aO_86 w1, aO_86 w1, r_86_4 w1, r_86_25 w1, nI_1, aA_90 w1 (by omega), aA_96 w1 hj4, bM_e, nI_clamp (by omega), ← hM2, aO_86 w2, aO_86 w2, r_86_4 w2, r_86_26 w2, lit_2, nI_add, aA_90 w2 (by omega), aA_97 w2 hj4, bM_e, nI_clamp (by omega), ← hM3]
    rw [lit_0]
    exact q
theorem SM_tag (w : Wl M) (h : PgM M P o) (hp : WP P) (hs : SzM M) : ∃ M', f12_targetsAreGoals M 86 = some M' ∧ Sm [86, 95, 96, 97, 98] [] M M' ∧ (∀ j, j ≠ 30 → mI M' 86 j = mI M 86 j) ∧ TgM M' (gTG P) := by
  let M1 := uI M 86 (upx (mI M 86) 30 (nI (pK P)))
  have w1 : Wl M1 := w
  have s1 : Sm [86, 95, 96, 97, 98] [] M M1 := (Sm.rfl _ _ M).uI _ (by decide)
  have f1 : ∀ j, j ≠ 30 → mI M1 86 j = mI M 86 j := fun j hj => by
    show upx (mI M 86) 30 _ j = _
    rw [upx_e, if_neg hj]
  have h1 : PgM M1 P o := by
    unfold PgM at *
    rw [f1 5 (by decide)]
    exact h
  obtain ⟨M', a1, a2, a3, a4⟩ := LM_tag12 (o := o) hp (pK P) 0 (by omega) FU (FU_big (by have := hp.2.2.2.1; omega)) M1 w1 h1 rfl hs (fun k hk => absurd hk (Nat.not_lt_zero k))
  refine ⟨M', ?_, s1.trans (a2.more (by decide) (by decide)), fun j hj => by rw [a2.i 86 (by decide), f1 j hj], ?_⟩
  · rw [← a1]
    unfold f12_targetsAreGoals
    rw [aO_86 w, r_86_1 w, lit_3, aA_87 w (by omega), aO_86 w, bM_e, nI_clamp (by omega), h.k, sI_e]
    rfl
  · exact ⟨by rw [a2.i 86 (by decide)]; rfl, hp.2.2.2.1, a3, a4⟩
theorem TgM.sm {M M' : MM} {T : TG} {Is Js : List Nat} (h : TgM M T) (s : Sm Is Js M M') (h1 : mI M' 86 30 = mI M 86 30) (h2 : 95 ∉ Is) (h3 : 96 ∉ Is) (h4 : 97 ∉ Is) (h5 : 98 ∉ Is) : TgM M' T := by
  unfold TgM SzM at *
  rw [h1, s.i 95 h2, s.i 96 h3, s.i 97 h4, s.i 98 h5]
  exact h
def Net (P : PG) (o : Nat) (T : TG) (F : Nat → Nat) : Prop := GC 21 (initM (pG P) T) (DT T) P o F
def ToldOK (M : MM) (P : PG) (o : Nat) : Prop := (mI M 86 31 = 0 ∨ mI M 86 31 = 1) ∧ (mI M 86 31 = 1 → ∃ F gg, mJ M 99 = mjR F gg ∧ Net P o (gTG P) F)
theorem SM_lay2 (w : Wl M) (ha : OfA oa) (h : PgM M P o) (hp : WP P) (ho : o < 2 ^ 31) {T : TG} (hT : TgM M T) (hT2 : okT (pG P) T) : ∃ F gg, f12_lay M 86 oa = some (uJ M oa (mjR F gg)) ∧ Net P o T F ∧ Bd 630 F := by
  obtain ⟨L, hL⟩ := GC_exists (n := 21) (I := initM (pG P) T) (D := DX M T) (P := P) (o := o) hp (by omega)
  obtain ⟨E, gg, h1, h2⟩ := SM_lay w ha h hp ho hT (GC_D hp (fun y g x _ _ hg _ => DX_6 hg) hL)
  exact ⟨E, gg, h1, GC_DD hp hT2 (okD_X hT) (okD_T T) (GC_cg hp (by omega) h2 hL), fun i hi => by rw [h2 i hi]; exact hL.1.1 i hi⟩
theorem SM_layTold (w : Wl M) (h : PgM M P o) (hp : WP P) (ho : o < 2 ^ 31) (hs : SzM M) (ht : ToldOK M P o) : ∃ M' F gg, f12_layTold M 86 = some M' ∧ Sm [86, 95, 96, 97, 98] [99] M M' ∧ (∀ j, j ≠ 30 → j ≠ 31 → mI M' 86 j = mI M 86 j) ∧ TgM M' (gTG P) ∧ mI M' 86 31 = 1 ∧ mJ M' 99 = mjR F gg ∧ Net P o (gTG P) F := by
  obtain ⟨M1, a1, a2, a3, a4⟩ := SM_tag w h hp hs
  have w1 : Wl M1 := w.sm a2
  have h31 := a3 31 (by decide)
  have e99 : mJ M1 99 = mJ M 99 := a2.j 99 (by decide)
  unfold f12_layTold
  rw [aO_86 w, a1, cV_some, aO_86 w1, h31]
  rcases ht.1 with c | c
  · rw [if_pos c, aO_86 w1, bM_e]
    let M2 := sI M1 86 31 1
    have w2 : Wl M2 := w1
    have s2 : Sm [86, 95, 96, 97, 98] [99] M M2 := (a2.more (fun _ q => q) (fun _ q => by cases q)).uI _ (by decide)
    have f2 : ∀ j, j ≠ 31 → mI M2 86 j = mI M1 86 j := fun j hj => by
      show mI (sI M1 86 31 1) 86 j = _
      rw [mI_sI, if_neg (fun q => hj q.2)]
    have p2 : PgM M2 P o := h.sm s2 (by rw [f2 5 (by decide), a3 5 (by decide)]) (by decide) (by decide) (by decide)
    have t2 : TgM M2 (gTG P) := a4.sm (Is := [86]) (Js := []) ((Sm.rfl _ _ M1).uI _ (by decide)) (f2 30 (by decide)) (by decide) (by decide) (by decide) (by decide)
    obtain ⟨F, gg, b1, b2, b3⟩ := SM_lay2 w2 (oa := 99) (.inl rfl) p2 hp ho t2 (okT_g hp)
    refine ⟨uJ M2 99 (mjR F gg), F, gg, ?_, s2.uJ _ (by decide), fun j q1 q2 => ?_, TgM_J t2, ?_, by rw [mJ_uJ, if_pos rfl], b2⟩
    · show aO M2 86 12 _ = _
      rw [aO_86 w2, aO_86 w2, r_86_28 w2, b1, cV_some]
    · rw [mI_uJ, f2 j q2, a3 j q1]
    · rw [mI_uJ]
      show mI (sI M1 86 31 1) 86 31 = 1
      rw [mI_sI, if_pos ⟨rfl, rfl⟩]
  · rw [if_neg (by rw [c]; decide)]
    obtain ⟨F, gg, b1, b2⟩ := ht.2 c
    exact ⟨M1, F, gg, rfl, a2.more (fun _ q => q) (fun _ q => by cases q), fun j q1 _ => a3 j q1, a4, by rw [h31, c], by rw [e99, b1], b2⟩
/-- one target: a head, or nothing on the stack -/
theorem SM_targetIs (w : Wl M) (hs : SzM M) {p : Nat} (hp : p < 5) {x : Int32} {T : TG} (hx : (∃ g, g < 6 ∧ x = nI g ∧ T = hTG p g) ∨ (x = -1 ∧ T = nTG p)) : ∃ M', f12_targetIs M 86 (nI p) x = some M' ∧ Sm [86, 95, 96, 97, 98] [] M M' ∧ (∀ j, j ≠ 30 → mI M' 86 j = mI M 86 j) ∧ TgM M' T := by
  have w1 : Wl (sI M 86 30 1) := w
  have w2 : Wl (sI (sI M 86 30 1) 95 0 (nI p)) := w
  have e0 : ∀ b : Nat, f12_targetIs_b26 (sI (sI M 86 30 1) 95 0 (nI p)) 86 x (nI b) 0 96 = if 0 ≤ x then f12_targetIs_b41 (sI (sI (sI M 86 30 1) 95 0 (nI p)) 96 0 (nI b)) 86 x 1 0 97 else f12_targetIs_b41 (sI (sI (sI M 86 30 1) 95 0 (nI p)) 96 0 (nI b)) 86 x 0 0 97 := fun b => by
    have w3 : Wl (sI (sI (sI M 86 30 1) 95 0 (nI p)) 96 0 (nI b)) := w
    unfold f12_targetIs_b26
    rw [lit_0, aA_96 w2 (by omega), nI_clamp (by omega), bM_e, aO_86 w3, r_86_26 w3]
  have e1 : ∀ b c : Nat, f12_targetIs_b41 (sI (sI (sI M 86 30 1) 95 0 (nI p)) 96 0 (nI b)) 86 x (nI c) 0 97 = some (sI (sI (sI (sI (sI M 86 30 1) 95 0 (nI p)) 96 0 (nI b)) 97 0 (nI c)) 98 0 x) := fun b c => by
    have w3 : Wl (sI (sI (sI M 86 30 1) 95 0 (nI p)) 96 0 (nI b)) := w
    have w4 : Wl (sI (sI (sI (sI M 86 30 1) 95 0 (nI p)) 96 0 (nI b)) 97 0 (nI c)) := w
    unfold f12_targetIs_b41
    rw [lit_0, aA_97 w3 (by omega), nI_clamp (by omega), bM_e, aO_86 w4, r_86_27 w4, aA_98 w4 (by omega), bM_e]
  have ef : f12_targetIs M 86 (nI p) x = if 0 ≤ x then f12_targetIs_b26 (sI (sI M 86 30 1) 95 0 (nI p)) 86 x 1 0 96 else f12_targetIs_b26 (sI (sI M 86 30 1) 95 0 (nI p)) 86 x 0 0 96 := by
    unfold f12_targetIs
    rw [aO_86 w, bM_e, aO_86 w1, r_86_24 w1, lit_0, aA_95 w1 (by omega), nI_clamp (by omega), bM_e, aO_86 w2, r_86_25 w2]
  have fin : ∀ b : Nat, b ≤ 1 → (b = 1 → ∃ g, g < 6 ∧ x = nI g ∧ T = hTG p g) → (b = 0 → T = nTG p) →
      Sm [86, 95, 96, 97, 98] [] M (sI (sI (sI (sI (sI M 86 30 1) 95 0 (nI p)) 96 0 (nI b)) 97 0 (nI b)) 98 0 x) ∧ (∀ j, j ≠ 30 → mI (sI (sI (sI (sI (sI M 86 30 1) 95 0 (nI p)) 96 0 (nI b)) 97 0 (nI b)) 98 0 x) 86 j = mI M 86 j) ∧ TgM (sI (sI (sI (sI (sI M 86 30 1) 95 0 (nI p)) 96 0 (nI b)) 97 0 (nI b)) 98 0 x) T := fun b hb h1 h0 => by
    refine ⟨((((((Sm.rfl _ _ M).uI _ (by decide)).uI _ (by decide)).uI _ (by decide)).uI _ (by decide)).uI _ (by decide)), fun j hj => ?_, ?_⟩
    · simp only [mI_sI]
      simp [hj]
    · have t95 : mI (sI (sI (sI (sI (sI M 86 30 1) 95 0 (nI p)) 96 0 (nI b)) 97 0 (nI b)) 98 0 x) 95 0 = nI p := by simp [mI_sI]
      have t97 : mI (sI (sI (sI (sI (sI M 86 30 1) 95 0 (nI p)) 96 0 (nI b)) 97 0 (nI b)) 98 0 x) 97 0 = nI b := by simp [mI_sI]
      have t98 : mI (sI (sI (sI (sI (sI M 86 30 1) 95 0 (nI p)) 96 0 (nI b)) 97 0 (nI b)) 98 0 x) 98 0 = x := by simp [mI_sI]
      have t96 : ∀ k, mI (sI (sI (sI (sI (sI M 86 30 1) 95 0 (nI p)) 96 0 (nI b)) 97 0 (nI b)) 98 0 x) 96 k = if k = 0 then nI b else mI M 96 k := fun k => by simp [mI_sI]
      have sz : SzM (sI (sI (sI (sI (sI M 86 30 1) 95 0 (nI p)) 96 0 (nI b)) 97 0 (nI b)) 98 0 x) := fun k hk => by
        rw [t96]
        split
        · exact ⟨b, by omega, rfl⟩
        · exact hs k hk
      have t30 : mI (sI (sI (sI (sI (sI M 86 30 1) 95 0 (nI p)) 96 0 (nI b)) 97 0 (nI b)) 98 0 x) 86 30 = 1 := by simp [mI_sI]
      by_cases c : b = 1
      · obtain ⟨g, hg, rfl, rfl⟩ := h1 c
        subst c
        refine ⟨t30, show 1 ≤ 4 by omega, sz, fun k hk => ?_⟩
        have hk' : k < 1 := hk
        have k0 : k = 0 := by omega
        subst k0
        refine ⟨t95, hp, by rw [t96]; rfl, show 1 ≤ 3 by omega, t97, show 1 ≤ 1 by omega, fun i hi => ?_⟩
        have hi' : i < 1 := hi
        have i0 : i = 0 := by omega
        subst i0
        exact ⟨t98, hg⟩
      · have c0 : b = 0 := by omega
        rw [h0 c0]
        subst c0
        refine ⟨t30, show 1 ≤ 4 by omega, sz, fun k hk => ?_⟩
        have hk' : k < 1 := hk
        have k0 : k = 0 := by omega
        subst k0
        exact ⟨t95, hp, by rw [t96]; rfl, show 0 ≤ 3 by omega, t97, show 0 ≤ 1 by omega, fun i hi => absurd hi (Nat.not_lt_zero i)⟩
  rcases hx with ⟨g, hg, rfl, rfl⟩ | ⟨rfl, rfl⟩
  · obtain ⟨f1, f2, f3⟩ := fin 1 (by omega) (fun _ => ⟨g, hg, rfl, rfl⟩) (fun q => by omega)
    refine ⟨_, ?_, f1, f2, f3⟩
    rw [ef, if_pos (nI_pos' (by omega))]
    exact (e0 1).trans ((if_pos (nI_pos' (by omega))).trans (e1 1 1))
  · obtain ⟨f1, f2, f3⟩ := fin 0 (by omega) (fun q => by omega) (fun _ => rfl)
    refine ⟨_, ?_, f1, f2, f3⟩
    rw [ef, if_neg (by decide)]
    exact (e0 0).trans ((if_neg (by decide)).trans (e1 0 0))
end TOLD
