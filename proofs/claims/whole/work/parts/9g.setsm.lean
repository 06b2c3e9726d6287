/-! MACHINES: sets at the reference -/
section SETSM
variable {P : PG} {o : Nat} {T : TG} {F : Nat → Nat}
/-- the reference's net, laid -/
def NtM (M : MM) (P : PG) (o : Nat) (F : Nat → Nat) : Prop := Wl M ∧ PgM M P o ∧ TgM M (gTG P) ∧ (∃ gg, mJ M 99 = mjR F gg) ∧ Net P o (gTG P) F
theorem NtM.sm {M M' : MM} (h : NtM M P o F) {Is Js : List Nat} (s : Sm Is Js M M') (h30 : mI M' 86 30 = mI M 86 30) (h5 : mI M' 86 5 = mI M 86 5) (hi : avd [87, 89, 90, 95, 96, 97, 98] Is = true) (hj : 99 ∉ Js) : NtM M' P o F := by
  obtain ⟨a, b, c, ⟨gg, d⟩, e⟩ := h
  refine ⟨a.sm s, b.sm s h5 (avd_n hi (by decide)) (avd_n hi (by decide)) (avd_n hi (by decide)), c.sm s h30 (avd_n hi (by decide)) (avd_n hi (by decide)) (avd_n hi (by decide)) (avd_n hi (by decide)), ⟨gg, by rw [s.j 99 hj]; exact d⟩, e⟩
theorem gt_node {M : MM} (hT : TgM M T) {k n g : Nat} (hk : k < tK T) (hn : n ≤ tN T k) (hg : g < 6) : (gtM M (5 + 4 * k + n) g = -1 ∧ ∀ y, y < 21 → mM T F (5 + 4 * k + n) g y = false) ∨ ∃ y0, y0 < 21 ∧ gtM M (5 + 4 * k + n) g = nI y0 ∧ ∀ y, y < 21 → mM T F (5 + 4 * k + n) g y = decide (y = y0) := by
  have t4 := hT.2.1
  have t3 := (hT.2.2.2 k hk).2.2.2.1
  have main : ∀ y, y < 21 → (mM T F (5 + 4 * k + n) g y = true ↔ gtM M (5 + 4 * k + n) g = nI y) := fun y hy => by
    have a := okD_X hT k n g y hk (by omega) hy
    have b := okD_T T k n g y hk (by omega) hy
    rw [DX_6 hg] at a
    unfold DM at a
    rw [decide_eq_true_iff] at a
    rw [a, ← b]
    unfold mM e21 onw
    rw [if_neg (by omega), if_neg (by omega), decide_eq_true_iff]
    cases DT T (5 + 4 * k + n) g y
    · rw [if_neg (by decide)]
      exact ⟨fun q => by omega, fun q => by cases q⟩
    · rw [if_pos rfl]
      exact ⟨fun _ => rfl, fun _ => by unfold FARN; omega⟩
  have val : gtM M (5 + 4 * k + n) g = -1 ∨ ∃ y0, y0 < 21 ∧ gtM M (5 + 4 * k + n) g = nI y0 := by
    have t := hT.2.2.2 k hk
    unfold gtM
    rw [show (5 + 4 * k + n - 5) % 4 = n by omega, show (5 + 4 * k + n - 5) / 4 = k by omega, t.2.2.1]
    by_cases c : n = tN T k
    · rw [if_pos (by rw [c])]
      split
      · exact .inr ⟨_, by omega, rfl⟩
      · exact .inl rfl
    · rw [if_neg (fun z => c ((nI_eq (by omega) (by omega)).mp z)), if_neg (nI_ge (by omega) (by omega))]
      split
      · exact .inr ⟨_, by omega, rfl⟩
      · exact .inl rfl
  rcases val with e | ⟨y0, h0, e⟩
  · refine .inl ⟨e, fun y hy => ?_⟩
    rw [← Bool.not_eq_true, main y hy, e]
    exact fun z => nI_neM (by omega) z.symm
  · refine .inr ⟨y0, h0, e, fun y hy => ?_⟩
    refine Bool.eq_iff_iff.mpr ?_
    rw [main y hy, e, decide_eq_true_iff, nI_eq (by omega) (by omega)]
    exact ⟨fun z => z.symm, fun z => z.symm⟩
def acx (m : Nat → Nat → Nat → Bool) (S g x : Nat) : Nat := bsN (fun y => (List.range x).any fun x' => S.testBit x' && m x' g y) 21
theorem acx_s {m : Nat → Nat → Nat → Bool} {S g x : Nat} : acx m S g (x + 1) = if S.testBit x = true then acx m S g x ||| bsN (fun y => m x g y) 21 else acx m S g x := by
  have b : ∀ y, (acx m S g (x + 1)).testBit y = (decide (y < 21) && (((List.range x).any fun x' => S.testBit x' && m x' g y) || (S.testBit x && m x g y))) := fun y => by
    unfold acx
    rw [bsN_bit, any_succ]
  have a : ∀ y, (acx m S g x).testBit y = (decide (y < 21) && ((List.range x).any fun x' => S.testBit x' && m x' g y)) := fun y => bsN_bit _ _ _
  refine Nat.eq_of_testBit_eq (fun y => ?_)
  rw [b]
  by_cases c : S.testBit x = true
  · rw [if_pos c, Nat.testBit_or, a, bsN_bit, c, Bool.true_and]
    cases decide (y < 21) <;> simp
  · rw [if_neg c, a]
    rw [Bool.not_eq_true] at c
    rw [c, Bool.false_and, Bool.or_false]
theorem acx_lt {m : Nat → Nat → Nat → Bool} {S g x : Nat} : acx m S g x < 2 ^ 21 := bsN_lt _ _
theorem mjv_lt0' {M : MM} (h : NtM M P o F) {p g y : Nat} (hp : p < 5) (hg : g < 6) (hy : y < 21) : ((mJ M 99 (ix 21 p g y)) < 0) = (¬ mM (gTG P) F p g y = true) := by
  obtain ⟨w, -, -, ⟨gg, e⟩, hF⟩ := h
  have hi := ix21_lt hp hg hy
  have b : F (ix 21 p g y) ≤ FARN := hF.1.1 _ hi
  rw [e, show mjR F gg (ix 21 p g y) = mjv (F (ix 21 p g y)) from if_pos hi, mjv_lt0 b]
  unfold mM e21 onw
  rw [if_neg (by omega), if_pos hp, decide_eq_true_iff, eq_iff_iff]
  omega
theorem LM_sb61 {M : MM} (h : NtM M P o F) {S g x : Nat} (hg : g < 6) (hx : x < 5) {K103 : MM → Nat → Int32 → Int32 → Int32 → Int32 → Option (Int32 × MM)} : ∀ (d j : Nat), j + d = 21 → ∀ f, d < f → ∀ a, LP7 (f12_setBehind_b61_body K103) f M 86 (nI S) (nI g) (nI (a ||| bsN (fun y => mM (gTG P) F x g y) j)) (nI x) (nI j) = K103 M 86 (nI S) (nI g) (nI (a ||| bsN (fun y => mM (gTG P) F x g y) 21)) (nI x)
  | 0, j, hj, f + 1, _, a => by
    have e : j = 21 := by omega
    rw [e, LP7_s]
    generalize LP7 (f12_setBehind_b61_body K103) f = K
    unfold f12_setBehind_b61_body
    rw [show (21 : Int32) = nI 21 from rfl, if_pos (nI_le (by omega) (by omega))]
  | d + 1, j, hj, f + 1, hf, a => by
    have w := h.1
    have ih := LM_sb61 h (S := S) hg hx (K103 := K103) d (j + 1) (by omega) f (by omega) a
    rw [← ih, LP7_s]
    generalize LP7 (f12_setBehind_b61_body K103) f = K
    unfold f12_setBehind_b61_body f12_setBehind_b95
    rw [show (21 : Int32) = nI 21 from rfl, if_neg (nI_ge (by omega) (by omega)), aO_86 w, aO_86 w, r_86_28 w, SM_costOf w (.inl rfl) hx hg (by omega), cJ_some]
    simp only [mjv_lt0' h hx hg (show j < 21 by omega)]
    have e : bsN (fun y => mM (gTG P) F x g y) (j + 1) = bsN (fun y => mM (gTG P) F x g y) j ||| (if mM (gTG P) F x g j = true then 2 ^ j else 0) := rfl
    rw [e, ← Nat.or_assoc]
    by_cases c : mM (gTG P) F x g j = true
    · rw [if_neg (fun z => z c), if_pos c, shl_nI (by omega), nI_or, bW_e, nI_1]
    · rw [if_pos c, if_neg c, lit_0, nI_or, bW_e, nI_1]
theorem LM_sb5 {M : MM} (h : NtM M P o F) {S g : Nat} (hS : VS (gTG P) S) (hg : g < 6) : ∀ (d x : Nat), x + d = 21 → ∀ f, d < f → LP6 f12_setBehind_b5_body f M 86 (nI S) (nI g) (nI (acx (mM (gTG P) F) S g x)) (nI x) = some (nI (stp 21 (mM (gTG P) F) S g), M)
  | 0, x, hx, f + 1, _ => by
    have e : x = 21 := by omega
    rw [e, LP6_s]
    generalize LP6 f12_setBehind_b5_body f = K
    unfold f12_setBehind_b5_body
    rw [show (21 : Int32) = nI 21 from rfl, if_pos (nI_le (by omega) (by omega))]
    rfl
  | d + 1, x, hx, f + 1, hf => by
    have w := h.1
    have l31 : S < 2 ^ 31 := Nat.lt_trans hS.1 (by decide)
    have ih := LM_sb5 h hS hg d (x + 1) (by omega) f (by omega)
    rw [← ih, LP6_s]
    generalize LP6 f12_setBehind_b5_body f = K
    unfold f12_setBehind_b5_body
    rw [show (21 : Int32) = nI 21 from rfl, if_neg (nI_ge (by omega) (by omega)), SM_isOf l31 (by omega), cI_some, acx_s]
    by_cases c : S.testBit x = true
    · rw [c, bI_t, if_neg (by decide), if_pos rfl]
      by_cases x5 : x < 5
      · have q := LM_sb61 h (S := S) hg x5 (K103 := f12_setBehind_b103 K) 21 0 (by omega) FU (FU_big (by omega)) (acx (mM (gTG P) F) S g x)
        rw [if_pos (show nI x < 5 by rw [lit_5, c_lt (by omega) (by omega)]; exact x5)]
        have e0 : acx (mM (gTG P) F) S g x ||| bsN (fun y => mM (gTG P) F x g y) 0 = acx (mM (gTG P) F) S g x := Nat.or_zero _
        rw [e0] at q
        refine q.trans ?_
        unfold f12_setBehind_b103
        rw [nI_1]
      · rw [if_neg (show ¬ nI x < 5 by rw [lit_5, c_lt (by omega) (by omega)]; exact x5), aO_86 w, SM_goesTo w h.2.2.1.2.2.1 (by omega) (by omega), cI_some]
        rcases hS.2 x (by omega) c with v | ⟨k, n, hk, e, hn, h0⟩
        · exact absurd v x5
        · rw [e]
          unfold f12_setBehind_b53 f12_setBehind_b103
          rcases gt_node (F := F) h.2.2.1 hk hn hg with ⟨e1, e2⟩ | ⟨y0, hy0, e1, e2⟩
          · have z : bsN (fun y => mM (gTG P) F (5 + 4 * k + n) g y) 21 = 0 := by
              refine set_eq (n := 21) (bsN_lt _ _) (by decide) (fun y hy => ?_)
              rw [bsN_bit, e2 y hy, Bool.and_false, Nat.zero_testBit]
            rw [e1, if_neg (by decide), z, lit_0, nI_or, bW_e, nI_1]
          · have z : bsN (fun y => mM (gTG P) F (5 + 4 * k + n) g y) 21 = 2 ^ y0 := by
              refine set_eq (n := 21) (bsN_lt _ _) (Nat.pow_lt_pow_right (by omega) hy0) (fun y hy => ?_)
              rw [bsN_bit, e2 y hy, decide_eq_true hy, Bool.true_and, Nat.testBit_two_pow]
              refine Bool.eq_iff_iff.mpr ?_
              rw [decide_eq_true_iff, decide_eq_true_iff]
              exact ⟨fun q => q.symm, fun q => q.symm⟩
            rw [e1, if_pos (show (0 : Int32) ≤ nI y0 from nI_le (Nat.zero_le _) (by omega)), z, shl_nI (by omega), nI_or, bW_e, nI_1]
    · rw [if_neg c]
      rw [Bool.not_eq_true] at c
      unfold f12_setBehind_b103
      rw [c, bI_f, if_pos rfl, nI_1]
theorem acx_0 {m : Nat → Nat → Nat → Bool} {S g : Nat} : acx m S g 0 = 0 := set_eq (n := 21) acx_lt (by decide) (fun y _ => by
  unfold acx
  rw [bsN_bit, Nat.zero_testBit]
  exact Bool.and_false _)
theorem SM_setBehind {M : MM} (h : NtM M P o F) {S g : Nat} (hS : VS (gTG P) S) (hg : g < 6) : f12_setBehind M 86 (nI S) (nI g) = some (nI (stp 21 (mM (gTG P) F) S g), M) := by
  have q := LM_sb5 h hS hg 21 0 (by omega) FU (FU_big (by omega))
  rw [acx_0] at q
  exact q
theorem LM_ig2 {M : MM} (h : NtM M P o F) {S : Nat} (hS : S < 2 ^ 21) : ∀ (d x : Nat), x + d = 21 → ∀ f, d < f → ((List.range x).any fun y => S.testBit y && isE (gTG P) y) = false → LP4 f12_isGoodSet_b2_body f M 86 (nI S) (nI x) = some (bI ((List.range 21).any fun y => S.testBit y && isE (gTG P) y), M)
  | 0, x, hx, f + 1, _, hn => by
    have e : x = 21 := by omega
    rw [e] at hn ⊢
    rw [hn, LP4_s]
    generalize LP4 f12_isGoodSet_b2_body f = K
    unfold f12_isGoodSet_b2_body
    rw [show (21 : Int32) = nI 21 from rfl, if_pos (nI_le (by omega) (by omega))]
    rfl
  | d + 1, x, hx, f + 1, hf, hn => by
    have w := h.1
    have l31 : S < 2 ^ 31 := Nat.lt_trans hS (by decide)
    have ih := LM_ig2 h hS d (x + 1) (by omega) f (by omega)
    rw [LP4_s]
    generalize LP4 f12_isGoodSet_b2_body f = K at ih ⊢
    rw [any_succ, hn, Bool.false_or] at ih
    unfold f12_isGoodSet_b2_body f12_isGoodSet_b26
    rw [show (21 : Int32) = nI 21 from rfl, if_neg (nI_ge (by omega) (by omega)), SM_isOf l31 (by omega), cI_some]
    by_cases c : S.testBit x = true
    · rw [c, bI_t, if_neg (by decide), aO_86 w, SM_isEnd w h.2.2.1 (by omega), cI_some]
      by_cases c2 : isE (gTG P) x = true
      · rw [any_in (show x < 21 by omega) (by rw [c, c2]; rfl), c2, bI_t, if_neg (by decide)]
      · rw [Bool.not_eq_true] at c2
        rw [c2, bI_f, if_pos rfl, nI_1]
        exact ih (by rw [c, c2]; rfl)
    · rw [Bool.not_eq_true] at c
      rw [c, bI_f, if_pos rfl, nI_1]
      exact ih (by rw [c]; rfl)
theorem SM_isGoodSet {M : MM} (h : NtM M P o F) {S : Nat} (hS : S < 2 ^ 21) : f12_isGoodSet M 86 (nI S) = some (bI (avS 21 (mM (gTG P) F) (isE (gTG P)) S []), M) := LM_ig2 h hS 21 0 (by omega) FU (FU_big (by omega)) rfl
/-! the list of sets -/
def BM (M : MM) (P : PG) (F : Nat → Nat) (n : Nat) (S : Nat → Nat) : Prop := mI M 86 47 = nI n ∧ (∀ i, i < n → mI M 111 i = nI (S i) ∧ RM P (gTG P) F (S i)) ∧ ∀ i j, i < n → j < n → S i = S j → i = j
theorem BM.le {M : MM} {n : Nat} {S : Nat → Nat} (h : BM M P F n S) (hp : WP P) (hF : Net P o (gTG P) F) : n ≤ 7203 := by
  obtain ⟨E, R, hE⟩ := Std_ex hp o (gTG P)
  exact RM_le (okT_g hp) (GC_sim hp (okT_g hp) (okD_T _) hE.2.1 hF) (fun i hi => (h.2.1 i hi).2) h.2.2
theorem RM.v {S : Nat} (hp : WP P) (hF : Net P o (gTG P) F) (h : RM P (gTG P) F S) : VS (gTG P) S := by
  obtain ⟨E, R, hE⟩ := Std_ex hp o (gTG P)
  exact h.vs (okT_g hp) (GC_sim hp (okT_g hp) (okD_T _) hE.2.1 hF)
theorem RM.s {S g : Nat} (hp : WP P) (hF : Net P o (gTG P) F) (h : RM P (gTG P) F S) (hg : g < pG P) : RM P (gTG P) F (stp 21 (mM (gTG P) F) S g) := by
  obtain ⟨E, R, hE⟩ := Std_ex hp o (gTG P)
  exact h.step (okT_g hp) (GC_sim hp (okT_g hp) (okD_T _) hE.2.1 hF) hg
theorem LM_sf2 {M : MM} (w : Wl M) (hp : WP P) (hF : Net P o (gTG P) F) {n : Nat} {S : Nat → Nat} (h : BM M P F n S) {s : Nat} (hs : RM P (gTG P) F s) : ∀ (d j : Nat), j + d = n → ∀ f, d < f → (∀ i, i < j → S i ≠ s) →
    ∃ M' n' S' k, LP4 f12_setFor_b2_body f M 86 (nI s) (nI j) = some (nI k, M') ∧ Sm [86, 111] [] M M' ∧ (∀ i, i ≠ 47 → mI M' 86 i = mI M 86 i) ∧ BM M' P F n' S' ∧ n ≤ n' ∧ (∀ i, i < n → S' i = S i) ∧ k < n' ∧ S' k = s ∧ (n' = n ∨ (n' = n + 1 ∧ k = n))
  | 0, j, hj, f + 1, _, hn => by
    obtain ⟨h1, h2, h3⟩ := h
    have e : j = n := by omega
    have le : n + 1 ≤ 7203 := by
      obtain ⟨E, R, hE⟩ := Std_ex hp o (gTG P)
      refine RM_le (F := F) (S := upx S n s) (okT_g hp) (GC_sim hp (okT_g hp) (okD_T _) hE.2.1 hF) (fun i hi => ?_) (fun i j hi hj q => ?_)
      · rw [upx_e]
        split
        · exact hs
        · exact (h2 i (by omega)).2
      · rw [upx_e, upx_e] at q
        split at q <;> split at q
        · omega
        · exact absurd q.symm (hn j (by omega))
        · exact absurd q (hn i (by omega))
        · exact h3 i j (by omega) (by omega) q
    refine ⟨sI (uI M 111 (upx (mI M 111) n (nI s))) 86 47 (nI (n + 1)), n + 1, upx S n s, n, ?_, ?_, fun i hi => ?_, ⟨?_, fun i hi => ?_, fun i j hi hj q => ?_⟩, by omega, fun i hi => ?_, by omega, ?_, .inr ⟨rfl, rfl⟩⟩
    · have w' : Wl (uI M 111 (upx (mI M 111) n (nI s))) := w
      rw [e, LP4_s]
      generalize LP4 f12_setFor_b2_body f = K
      unfold f12_setFor_b2_body
      have r47 : mI (uI M 111 (upx (mI M 111) n (nI s))) 86 47 = nI n := by rw [mI_uI, if_neg (by decide)]; exact h1
      have w2 : Wl (sI (uI M 111 (upx (mI M 111) n (nI s))) 86 47 (nI (n + 1))) := w
      rw [aO_86 w, h1, if_pos (nI_le (Nat.le_refl _) (by omega)), aO_86 w, aO_86 w, r_86_43 w, aA_111 w (by omega), bM_e, sI_e, nI_clamp (by omega), aO_86 w', aO_86 w', r47, nI_1, bM_e, aO_86 w2, show mI (sI (uI M 111 (upx (mI M 111) n (nI s))) 86 47 (nI (n + 1))) 86 47 = nI (n + 1) by rw [mI_sI, if_pos ⟨rfl, rfl⟩], nI_sub1 (by omega)]
      rfl
    · rw [sI_e]
      exact ((Sm.rfl _ _ M).uI _ (by decide)).uI _ (by decide)
    · rw [mI_sI, if_neg (fun z => hi z.2), mI_uI, if_neg (by decide)]
    · rw [mI_sI, if_pos ⟨rfl, rfl⟩]
    · rw [mI_sI, if_neg (fun z => by have := z.1; omega), mI_uI, if_pos rfl, upx_e, upx_e]
      by_cases c : i = n
      · rw [if_pos c, if_pos c]
        exact ⟨rfl, hs⟩
      · rw [if_neg c, if_neg c]
        exact h2 i (by omega)
    · rw [upx_e, upx_e] at q
      split at q <;> split at q
      · omega
      · exact absurd q.symm (hn j (by omega))
      · exact absurd q (hn i (by omega))
      · exact h3 i j (by omega) (by omega) q
    · rw [upx_e, if_neg (by omega)]
    · rw [upx_e, if_pos rfl]
  | d + 1, j, hj, f + 1, hf, hn => by
    have le := h.le hp hF
    obtain ⟨h1, h2, h3⟩ := id h
    have hv := (h2 j (by omega)).2.v hp hF
    have hv' := hs.v hp hF
    have head : LP4 f12_setFor_b2_body (f + 1) M 86 (nI s) (nI j) = if S j = s then some (nI j, M) else LP4 f12_setFor_b2_body f M 86 (nI s) (nI (j + 1)) := by
      rw [LP4_s]
      generalize LP4 f12_setFor_b2_body f = K
      unfold f12_setFor_b2_body
      rw [aO_86 w, h1, if_neg (nI_ge (by omega) (by omega)), aO_86 w, r_86_43 w, aA_111 w (by omega), nI_clamp (by omega), (h2 j (by omega)).1, nI_1]
      simp only [c_eq (show S j < 2 ^ 31 from Nat.lt_trans hv.1 (by decide)) (show s < 2 ^ 31 from Nat.lt_trans hv'.1 (by decide))]
    rw [head]
    by_cases c : S j = s
    · rw [if_pos c]
      exact ⟨M, n, S, j, rfl, Sm.rfl _ _ M, fun _ _ => rfl, h, Nat.le_refl _, fun _ _ => rfl, by omega, c, .inl rfl⟩
    · rw [if_neg c]
      exact LM_sf2 w hp hF h hs d (j + 1) (by omega) f (by omega) (fun i hi => by
        by_cases q : i = j
        · rw [q]
          exact c
        · exact hn i (by omega))
theorem SM_setFor {M : MM} (w : Wl M) (hp : WP P) (hF : Net P o (gTG P) F) {n : Nat} {S : Nat → Nat} (h : BM M P F n S) {s : Nat} (hs : RM P (gTG P) F s) :
    ∃ M' n' S' k, f12_setFor M 86 (nI s) = some (nI k, M') ∧ Sm [86, 111] [] M M' ∧ (∀ i, i ≠ 47 → mI M' 86 i = mI M 86 i) ∧ BM M' P F n' S' ∧ n ≤ n' ∧ (∀ i, i < n → S' i = S i) ∧ k < n' ∧ S' k = s ∧ (n' = n ∨ (n' = n + 1 ∧ k = n)) := LM_sf2 w hp hF h hs n 0 (by omega) FU (FU_big (by have := h.le hp hF; omega)) (fun i hi => absurd hi (Nat.not_lt_zero _))
end SETSM
