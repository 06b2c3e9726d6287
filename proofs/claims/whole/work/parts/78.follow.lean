/-! THE WAY: the class's walk, step by step; the reference's -/
theorem lN_le0 {a : Nat} (h : a < 2 ^ 63) : (lN a ≤ 0) = (a = 0) := by
  rw [eq_iff_iff]
  show lN a ≤ lN 0 ↔ _
  rw [lN_leN h (by omega)]
  omega
section FLW
variable {M : MM} {P : PG} {o a1 : Nat}
/-- the class's step of a way -/
theorem S10_go (hp : WP P) (ho : o < 2 ^ 31) {p h t : Nat} {s f : Nat → Nat} (hw : WkC M a1 P o p (h + 1) s t f) (hp5 : p < pS P) (hs : ∀ i, i < h + 1 → s i < pG P) (hh : h + 1 ≤ 40 + t) (ht : t < 100) {left v : Nat} (hl : left ≤ FARN) (h0 : 0 < left) {r : Nat} (hr : r < pR P) (hq : wayQ P o (gTG P) p h s left r) (hn : ∀ k, k < r → ¬ wayQ P o (gTG P) p h s left k) (hv : left = rc P r + v) :
    ∃ M', (∀ fu, LP6 f10_follow_b42_body (fu + 1) M 42 32 a1 (nI o) (lN left) = LP6 f10_follow_b42_body fu M' 42 32 a1 (nI o) (lN v)) ∧ WkC M' a1 P o (rt P r) (h + rn P r) (pushR P r h s) (t + 1) (upx f t r) ∧ Sm [42, 43, 45, 47] [36] M M' := by
  have h14 := hp.2.2.1
  have c99 := hp.c99 hr
  have n2 := hp.n2 hr
  have p5 := hp.1
  have g6 := hp.2.1
  have e := L10_least hp ho hw hp5 hs (by omega) hl hr hq hn r 0 (by omega) FU (FU_big (by omega))
  obtain ⟨w, hP, hb, h2, h3, h4, E, R, e1, e2, e3, e4, e5⟩ := hw
  obtain ⟨M1, hM1⟩ : ∃ M1, M1 = uI M 47 (upx (mI M 47) t (nI r)) := ⟨_, rfl⟩
  have s1 : Sm [42, 43, 45, 47] [36] M M1 := by rw [hM1]; exact (Sm.rfl _ _ M).uI _ (by decide)
  obtain ⟨M2, hM2⟩ : ∃ M2, M2 = sI M1 42 2 (nI (t + 1)) := ⟨_, rfl⟩
  have s2 : Sm [42, 43, 45, 47] [36] M1 M2 := by rw [hM2]; exact (Sm.rfl _ _ M1).uI _ (by decide)
  have s12 := s1.trans s2
  have w1 : Wl M1 := w.sm s1
  have w2 : Wl M2 := w.sm s12
  have av : avd [4, 10, 12, 13, 19, 21] [42, 43, 45, 47] = true := by decide
  have hP2 : PgC M2 a1 P := hP.sm s12 av
  have r43 : ∀ a, a ≠ 42 → a ≠ 47 → mI M2 a = mI M a := fun a n1 n2 => by
    rw [hM2, sI_e, mI_uI, if_neg n1, hM1, mI_uI, if_neg n2]
  have hb2 : PlC M2 43 p (h + 1) s := by
    unfold PlC at *
    rw [r43 43 (by decide) (by decide), r43 (43 + 2) (by decide) (by decide)]
    exact hb
  obtain ⟨M3, a2, a3, a4⟩ := S6_stepBy (H := h) hp hr w2 hP2 hb2 (show h + rn P r ≤ 140 by omega)
  have s3 : Sm [42, 43, 45, 47] [36] M M3 := s12.trans (a4.more (by decide) (by decide))
  have w3 : Wl M3 := w.sm s3
  have hs' := push_lt (h := h) (s := s) hp hr (fun i hi => hs i (by omega))
  have j34 : mJ M3 34 = lR E := by rw [s3.j 34 (by decide), e1]
  have j36 : mJ M3 36 = lR R := by
    rw [a4.j 36 (by decide), hM2, hM1]
    exact e2
  obtain ⟨R', b1, b2, b3⟩ := L10_step24 (R0 := R) hp (z := z15 (gTG P)) (p := rt P r) (H := h + rn P r) (s := pushR P r h s) (by omega) (fun i hi => Nat.lt_of_lt_of_le (hs' i hi) g6) e4.1 (rn P r) h (by omega) FU (FU_big (by omega)) M3 R w3 a3 j34 j36 e3 ((e5.less (by omega)).cg (fun i hi => by
    unfold pushR
    split
    · rfl
    · split
      · rw [upx_e, if_neg (by omega)]
      · rw [upx_e, if_neg (by omega), upx_e, if_neg (by omega)]))
  refine ⟨uJ M3 36 (lR R'), fun fu => ?_, ⟨w3, show PgC M3 a1 P from hP.sm s3 av, a3, ?_, ?_, fun i hi => ?_, E, R', ?_, ?_, b3, ?_, b2⟩, s3.uJ _ (by decide)⟩
  · show f10_follow_b42_body _ _ _ _ _ _ _ = _
    generalize LP6 f10_follow_b42_body fu = K
    unfold f10_follow_b42_body
    rw [if_neg (show ¬ lN left ≤ 0 by rw [lN_le0 (le63 hl)]; omega), aO_42 w, h2, lit_100, if_neg (nI_ge ht (by omega)), aO_42 w, h3, if_pos rfl, aO_42 w]
    show cI (LP7 f10_leastRule_b3_body FU M 42 32 a1 (nI o) (lN left) (nI 0)) _ = _
    rw [e, cI_some, if_neg (nI_neM (by omega)), hP.o w, S7_or6 w hP hr hp, cI_some, nI_l64 (by omega), bW_e, aO_42 w, aO_42 w, r_42_1 w, aO_46 w, h2, s_46 w, cV_some, pI_in (by omega) (by omega), ← hM1, aO_42 w1, aO_42 w1, bM_e, show mI M1 42 2 = nI t from by rw [hM1, mI_uI, if_neg (by decide), h2], nI_1, ← hM2, aO_42 w2]
    have st : f10_stepBy M2 42 32 a1 (nI r) = some (uJ M3 36 (lR R')) := by
      unfold f10_stepBy
      rw [aO_42 w2, r_42_0 w2, aO_43 w2, hb2.2.2.2.1, nI_sub1 (by omega), show h + 1 - 1 = h by omega, bW_e, aO_42 w2, aO_43 w2, a2, cV_some]
      exact b1
    rw [st, cV_some, hv]
    congr 1
    rw [← lN_add, Int64.add_comm, Int64.add_sub_cancel]
  · rw [mI_uJ, a4.i 42 (by decide), hM2, mI_sI, if_pos ⟨rfl, rfl⟩]
  · rw [mI_uJ, a4.i 42 (by decide), hM2, mI_sI, if_neg (by decide), hM1, mI_uI, if_neg (by decide), h3]
  · rw [mI_uJ, a4.i 47 (by decide), hM2, sI_e, mI_uI, if_neg (by decide), hM1, mI_uI, if_pos rfl, upx_e, upx_e]
    split
    · rfl
    · exact h4 i (by omega)
  · rw [mJ_uJ, if_neg (by decide), j34]
  · rw [mJ_uJ, if_pos rfl]
  · refine ⟨e4.1, e4.2.1, e4.2.2.1, fun x hx => ?_⟩
    have := b2 0 x (Nat.zero_le _) hx
    rw [Nat.zero_mul, Nat.zero_add] at this
    exact this
/-- the class's walk at its end -/
theorem S10_stop {p H t : Nat} {s f : Nat → Nat} (hw : WkC M a1 P o p H s t f) {left : Nat} (hl : left ≤ FARN) (ht : t ≤ 100) (he : left = 0 ∨ t = 100) (fu : Nat) : LP6 f10_follow_b42_body (fu + 1) M 42 32 a1 (nI o) (lN left) = some (sI M 42 3 (bI (decide (left ≠ 0)))) := by
  obtain ⟨w, hP, hb, h2, h3, h4, -⟩ := hw
  show f10_follow_b42_body _ _ _ _ _ _ _ = _
  generalize LP6 f10_follow_b42_body fu = K
  have e133 : f10_follow_b133 M 42 (lN left) = some (sI M 42 3 (bI (decide (left ≠ 0)))) := by
    unfold f10_follow_b133
    by_cases c : left = 0
    · rw [if_pos (show lN left ≤ 0 by rw [lN_le0 (le63 hl)]; omega), aO_42 w, bM_e, decide_eq_false (fun q => q c)]
      rfl
    · rw [if_neg (show ¬ lN left ≤ 0 by rw [lN_le0 (le63 hl)]; omega), aO_42 w, bM_e, decide_eq_true c]
      rfl
  unfold f10_follow_b42_body
  by_cases c : left = 0
  · rw [if_pos (show lN left ≤ 0 by rw [lN_le0 (le63 hl)]; omega), e133]
  · rw [if_neg (show ¬ lN left ≤ 0 by rw [lN_le0 (le63 hl)]; omega), aO_42 w, h2, lit_100, if_pos (nI_le (by omega) (by omega)), e133]
/-- the reference's walk at a place of the way -/
def WkM (M : MM) (P : PG) (o p H : Nat) (s : Nat → Nat) (t : Nat) (f : Nat → Nat) : Prop := Wl M ∧ PgM M P o ∧ TgM M (gTG P) ∧ (∀ i, i < H → mI M 102 i = nI (s i)) ∧ mI M 86 36 = nI t ∧ (∀ i, i < t → mI M 103 i = nI (f i)) ∧ ∃ F gg, mJ M 99 = mjR F gg ∧ Net P o (gTG P) F ∧ RwM (e21 (gTG P) (DX M (gTG P)) F) (z21 (gTG P)) s (mJ M 101) (H + 1)
theorem DX_cg {M M' : MM} {T : TG} (h1 : mI M' 96 = mI M 96) (h2 : mI M' 97 = mI M 97) (h3 : mI M' 98 = mI M 98) : DX M' T = DX M T := by
  funext y g x
  unfold DX DM gtM
  rw [h1, h2, h3]
theorem LM_beh67 (w : Wl M) (hPg : PgM M P o) (hp : WP P) (hT : TgM M (gTG P)) {F : Nat → Nat} {gg : Nat → Int64} (hF : mJ M 99 = mjR F gg) (bF : Bd 630 F) {V : Nat → Nat} {h r : Nat} (hV : ∀ y, y < 21 → mJ M 101 (21 * h + y) = mjv (V y)) (bV : ∀ y, y < 21 → V y ≤ FARN) (hr : r < pR P) (h2 : rn P r = 2) (hh : h < 199) :
    ∀ (d j : Nat), j + d = 21 → ∀ f, d < f → LP7 f12_behindRule_b67_body f M 86 (nI r) (nI (h + 1)) (nI (rt P r)) (mjv (mnf (fun y => cp (F (ix 21 (rt P r) (ra P r) y)) (mnf (fun x => cp (e21 (gTG P) (DX M (gTG P)) F y (rb P r) x) (V x)) 21)) j)) (nI j) = some (mjv (mnf (fun y => cp (F (ix 21 (rt P r) (ra P r) y)) (mnf (fun x => cp (e21 (gTG P) (DX M (gTG P)) F y (rb P r) x) (V x)) 21)) 21), M)
  | 0, j, hj, f + 1, _ => by
    have e : j = 21 := by omega
    subst e
    show f12_behindRule_b67_body _ _ _ _ _ _ _ _ = _
    generalize LP7 f12_behindRule_b67_body f = K
    unfold f12_behindRule_b67_body
    rw [lit_21, if_pos (nI_le (Nat.le_refl _) (by omega))]
  | d + 1, j, hj, f + 1, hf => by
    have ih := LM_beh67 w hPg hp hT hF bF hV bV hr h2 hh d (j + 1) (by omega) f (by omega)
    have hj21 : j < 21 := by omega
    have t5 := hp.t5 hr
    have a6 := hp.a6 hr (by omega)
    have b6 := hp.b6 hr (by omega)
    have hi := ix21_lt t5 a6 hj21
    have b1 := bF _ hi
    have b2 := mnf_far (fun x => cp (e21 (gTG P) (DX M (gTG P)) F j (rb P r) x) (V x)) 21
    have b3 := mnf_far (fun y => cp (F (ix 21 (rt P r) (ra P r) y)) (mnf (fun x => cp (e21 (gTG P) (DX M (gTG P)) F y (rb P r) x) (V x)) 21)) j
    show f12_behindRule_b67_body _ _ _ _ _ _ _ _ = _
    generalize LP7 f12_behindRule_b67_body f = K at ih ⊢
    unfold f12_behindRule_b67_body f12_behindRule_b135
    rw [lit_21, if_neg (nI_ge hj21 (by omega)), aO_86 w, aO_86 w, SM_r4 w hPg hp hr, cI_some, if_neg (show ¬ rn P r = 0 by omega), aO_86 w, r_86_28 w, SM_costOf w (.inl rfl) t5 a6 hj21, cJ_some, hF, show mjR F gg (ix 21 (rt P r) (ra P r) j) = mjv (F (ix 21 (rt P r) (ra P r) j)) from if_pos hi, aO_86 w, aO_86 w, SM_r5 w hPg hp hr, cI_some, if_neg (show ¬ rn P r ≤ 1 by omega), aO_86 w, nI_sub1 (by omega), show h + 1 - 1 = h by omega, r_86_28 w, SM_aboveBy w (.inl rfl) hT hF bF hV bV hj21 b6 (by omega), cJ_some, SM_sum b1 b2, cJ_some, SM_lesser b3 (cp_far _ _), cJ_some, nI_1]
    simp only [mjv_0le b1]
    by_cases c : F (ix 21 (rt P r) (ra P r) j) = FARN
    · rw [if_neg (fun q => q c)]
      have e : mnf (fun y => cp (F (ix 21 (rt P r) (ra P r) y)) (mnf (fun x => cp (e21 (gTG P) (DX M (gTG P)) F y (rb P r) x) (V x)) 21)) (j + 1) = mnf (fun y => cp (F (ix 21 (rt P r) (ra P r) y)) (mnf (fun x => cp (e21 (gTG P) (DX M (gTG P)) F y (rb P r) x) (V x)) 21)) j := by
        refine Nat.min_eq_left (Nat.le_trans b3 ?_)
        show FARN ≤ cp (F (ix 21 (rt P r) (ra P r) j)) _
        rw [c, cp_F']
        exact Nat.le_refl _
      rw [← e]
      exact ih
    · rw [if_pos c]
      exact ih
theorem SM_behind (w : Wl M) (hPg : PgM M P o) (hp : WP P) (hT : TgM M (gTG P)) {F : Nat → Nat} {gg : Nat → Int64} (hF : mJ M 99 = mjR F gg) (bF : Bd 630 F) {V : Nat → Nat} {h r : Nat} (hV : ∀ y, y < 21 → mJ M 101 (21 * h + y) = mjv (V y)) (bV : ∀ y, y < 21 → V y ≤ FARN) (hr : r < pR P) (hh : h < 199) :
    f12_behindRule M 86 (nI r) (nI (h + 1)) = some (mjv (beh 21 (e21 (gTG P) (DX M (gTG P)) F) V P r), M) := by
  have t5 := hp.t5 hr
  have n2 := hp.n2 hr
  have ee : ∀ y, e21 (gTG P) (DX M (gTG P)) F (rt P r) (ra P r) y = F (ix 21 (rt P r) (ra P r) y) := fun y => by
    unfold e21 onw
    rw [if_neg (by omega), if_pos t5]
  unfold f12_behindRule beh
  rw [aO_86 w, SM_r3 w hPg hp hr, cI_some, aO_86 w, SM_r2 w hPg hp hr, cI_some]
  simp only [c_eq0 (show rn P r < 2 ^ 31 by omega), c_eq1 (show rn P r < 2 ^ 31 by omega)]
  by_cases c0 : rn P r = 0
  · rw [if_pos c0, if_pos c0, aO_86 w, r_86_32 w, nI_sub1 (by omega), show h + 1 - 1 = h by omega, ab21, aA_101 w (by omega), nI_clamp (by omega), hV _ (by omega)]
  · have a6 := hp.a6 hr (by omega)
    rw [if_neg c0, if_neg c0]
    by_cases c1 : rn P r = 1
    · rw [if_pos c1, if_pos c1, aO_86 w, aO_86 w, SM_r4 w hPg hp hr, cI_some, if_neg c0, aO_86 w, r_86_28 w, nI_sub1 (by omega), show h + 1 - 1 = h by omega, SM_aboveBy w (.inl rfl) hT hF bF hV bV (by omega) a6 (by omega), cJ_some]
    · rw [if_neg c1, if_neg c1]
      have q := LM_beh67 w hPg hp hT hF bF hV bV hr (by omega) hh 21 0 (by omega) FU (FU_big (by omega))
      rw [show mnf (fun y => cp (F (ix 21 (rt P r) (ra P r) y)) (mnf (fun x => cp (e21 (gTG P) (DX M (gTG P)) F y (rb P r) x) (V x)) 21)) 0 = FARN from rfl, mjv_far] at q
      simp only [ee]
      exact q
end FLW
