/-! MACHINES: the face, at the reference -/
def LwA (P : PG) (o p : Nat) (L0 : List Nat → Bool) : Prop := ∀ w, GW (pG P) w → (∀ F, Net P o (gTG P) F → L0 w = avN 21 (mM (gTG P) F) (isE (gTG P)) w p) ∧ ∀ E R, Std P o (gTG P) E R → L0 w = avN 15 (mC E) (endS (gTG P)) w p
section FACEM
variable {P : PG} {o : Nat}
theorem word_eq (hp : WP P) {E R F : Nat → Nat} (hE : Std P o (gTG P) E R) (hF : Net P o (gTG P) F) {w : List Nat} (hw : GW (pG P) w) {p : Nat} (hp5 : p < 5) : avN 15 (mC E) (endS (gTG P)) w p = avN 21 (mM (gTG P) F) (isE (gTG P)) w p := by
  by_cases hG : 0 < pG P
  · exact word_same hp (okT_g hp) hE hF hG hw hp5
  · cases w with
    | nil =>
      have := z_same (okT_g hp) (x := p) (.inl hp5)
      rw [ph_lt hp5] at this
      unfold z15 z21 at this
      show endS (gTG P) p = isE (gTG P) p
      cases a : endS (gTG P) p <;> cases b : isE (gTG P) p <;> first | rfl | (rw [a, b] at this; simp [FARN] at this)
    | cons g w => exact absurd hw.tl.1 (by omega)
theorem LwA_F (hp : WP P) {F : Nat → Nat} (hF : Net P o (gTG P) F) {p : Nat} (hp5 : p < 5) : LwA P o p (avN 21 (mM (gTG P) F) (isE (gTG P)) · p) := fun w hw => by
  obtain ⟨E, R, hE⟩ := Std_ex hp o (gTG P)
  refine ⟨fun F' hF' => ?_, fun E' R' hE' => (word_eq hp hE' hF hw hp5).symm⟩
  rw [← word_eq hp hE hF' hw hp5]
  exact (word_eq hp hE hF hw hp5).symm
theorem LwA_E (hp : WP P) {E R : Nat → Nat} (hE : Std P o (gTG P) E R) {p : Nat} (hp5 : p < 5) : LwA P o p (avN 15 (mC E) (endS (gTG P)) · p) := fun w hw => by
  obtain ⟨F, hF⟩ := Net_ex hp o (gTG P)
  refine ⟨fun F' hF' => word_eq hp hE hF' hw hp5, fun E' R' hE' => ?_⟩
  rw [word_eq hp hE' hF hw hp5]
  exact word_eq hp hE hF hw hp5
theorem LwA_eq (hp : WP P) {p : Nat} {L0 L0' : List Nat → Bool} (h : LwA P o p L0) (h' : LwA P o p L0') {w : List Nat} (hw : GW (pG P) w) : L0 w = L0' w := by
  obtain ⟨F, hF⟩ := Net_ex hp o (gTG P)
  rw [(h w hw).1 F hF, (h' w hw).1 F hF]
theorem NumOK.cg {G n : Nat} {nb : Nat → Nat → Nat} {L : Nat → List Nat → Bool} {L0 L0' : List Nat → Bool} (h : NumOK G n nb L L0) (e : ∀ w, GW G w → L0 w = L0' w) : NumOK G n nb L L0' := ⟨fun w hw => (h.1 w hw).trans (e w hw), h.2⟩
/-- nodes of a state, numbered -/
def NmA (P : PG) (o p q : Nat) (nb : Nat → Nat → Nat) (L : Nat → List Nat → Bool) : Prop := ∃ L0, LwA P o p L0 ∧ NumOK (pG P) q nb L L0
theorem NmA_eq (hp : WP P) {p q q' : Nat} {nb nb' : Nat → Nat → Nat} {L L' : Nat → List Nat → Bool} (h : NmA P o p q nb L) (h' : NmA P o p q' nb' L') : q = q' ∧ (∀ k g, k < q → g < pG P → nb k g = nb' k g) ∧ ∀ k, k < q → ∀ w, GW (pG P) w → L k w = L' k w := by
  obtain ⟨L0, a1, a2⟩ := h
  obtain ⟨L0', b1, b2⟩ := h'
  have a2' := a2.cg (fun w hw => LwA_eq hp a1 b1 hw)
  by_cases hG : 0 < pG P
  · exact a2'.uniq hG b2
  · have g0 : pG P = 0 := by omega
    have e1 : q = 1 := by
      have := a2.2.2.2.2.2
      rw [g0, Nat.zero_mul] at this
      exact this
    have e2 : q' = 1 := by
      have := b2.2.2.2.2.2
      rw [g0, Nat.zero_mul] at this
      exact this
    refine ⟨by omega, fun k g _ hg => absurd hg (by omega), fun k hk w hw => ?_⟩
    rw [show k = 0 by omega, a2'.1 w hw, b2.1 w hw]
theorem MaM.th {M : MM} (h : MaM M P o) (x : Int32) : MaM (sI M 86 0 x) P o := h.sm (Is := [86]) (Js := []) th_sm (th_f (by decide)) (th_f (by decide)) (th_f (by decide)) (by decide)
theorem NdI.nm {M : MM} (hp : WP P) {p : Nat} {F : Nat → Nat} {n : Nat} {S : Nat → Nat} {t : Nat → Nat → Nat} {K : Nat → Nat} {m : Nat} {os : Nat → Nat} {q : Nat} {v : Nat → Nat} (h : NdI M P o p F n S t K m os q v) (hp0 : p < pS P) : NmA P o p q (fun k g => v (pG P * k + g)) (fun k w => avS 21 (mM (gTG P) F) (isE (gTG P)) (S (os k)) w) := by
  have p5 := hp.1
  exact ⟨_, LwA_F hp h.1 (show p < 5 by omega), (h.num hp0).cg (fun w _ => avS_one (by omega) w)⟩
def fmM : List Nat := [86, 95, 96, 97, 98, 111, 112, 113, 114, 115, 116]
theorem SM_machine {M : MM} {nw : NW} (h : CoM M P o nw) (ht : ToldOK M P o) (hm : MaM M P o) (x : Int32) : ∃ M' r, f12_machine M 86 x = some (r, M') ∧ Sm fmM [99] M M' ∧ (∀ j, j ≠ 0 → j ≠ 30 → j ≠ 31 → j ≠ 47 → j ≠ 48 → j ≠ 49 → j ≠ 52 → mI M' 86 j = mI M 86 j) ∧ CoM M' P o nw ∧ ToldOK M' P o ∧ MaM M' P o ∧ mI M' 86 0 = 0 ∧ (ibx (pS P) x = false → r = -1) ∧ ∀ p, p < pS P → x = nI p → ∃ q nb L, NmA P o p q nb L ∧ r = nI q := by
  have w := h.w
  have hp := h.p
  have p5 := hp.1
  have w0 : Wl (sI M 86 0 0) := w
  unfold f12_machine
  rw [aO_86 w, bM_e, aO_86 w0, SM_isState w0 (h.th 0).pg hp, cI_some]
  by_cases c : ibx (pS P) x = true
  · obtain ⟨p, hp0, rfl⟩ := ibx_out c (by omega)
    obtain ⟨M1, F, n, S, t, K, m, os, q, v, a1, a2, a3, a4, a5, a6, a7, -⟩ := SM_layMachine (h.th 0) (ht.th 0) (hm.th 0) hp0
    have w1 := a4.w
    rw [c, bI_t, if_neg (by decide), aO_86 w0, a1, cV_some, aO_86 w1]
    refine ⟨M1, _, rfl, (th_sm.more (by decide) (by decide)).trans (a2.more (by decide) (by decide)), fun j q0 h1 h2 h3 h4 h5 h6 => (a3 j h1 h2 h3 h4 h5 h6).trans (th_f q0), a4, a5, a6, ?_, (fun z => by cases z), fun p' hp' e => ?_⟩
    · rw [a3 0 (by decide) (by decide) (by decide) (by decide) (by decide) (by decide), mI_sI, if_pos ⟨rfl, rfl⟩]
    · rw [nI_eq (by omega) (by omega)] at e
      rw [← e]
      exact ⟨q, _, _, a7.nm hp hp0, a7.2.2.2.2.2.2.2.2.2.1.1⟩
  · rw [Bool.not_eq_true] at c
    rw [c, bI_f, if_pos rfl]
    refine ⟨_, -1, rfl, th_sm.more (by decide) (by decide), fun j q0 _ _ _ _ _ _ => th_f q0, h.th 0, ht.th 0, hm.th 0, by rw [mI_sI, if_pos ⟨rfl, rfl⟩], fun _ => rfl, fun p hp0 e => ?_⟩
    rw [e, ibx_nI (by omega) (by omega), decide_eq_true hp0] at c
    cases c
theorem SM_next {M : MM} {nw : NW} (h : CoM M P o nw) (ht : ToldOK M P o) (hm : MaM M P o) (x y z : Int32) : ∃ M' r, f12_next M 86 x y z = some (r, M') ∧ Sm fmM [99] M M' ∧ (∀ j, j ≠ 0 → j ≠ 30 → j ≠ 31 → j ≠ 47 → j ≠ 48 → j ≠ 49 → j ≠ 52 → mI M' 86 j = mI M 86 j) ∧ CoM M' P o nw ∧ ToldOK M' P o ∧ MaM M' P o ∧ mI M' 86 0 = 0 ∧ ((ibx (pS P) x && ibx (pG P) z) = false → r = -1) ∧ ∀ p g, p < pS P → g < pG P → x = nI p → z = nI g → ∃ q nb L, NmA P o p q nb L ∧ (ibx q y = false → r = -1) ∧ ∀ k, k < q → y = nI k → r = nI (nb k g) := by
  have w := h.w
  have hp := h.p
  have p5 := hp.1
  have g6 := hp.2.1
  have w0 : Wl (sI M 86 0 0) := w
  unfold f12_next
  rw [aO_86 w, bM_e, aO_86 w0, SM_isState w0 (h.th 0).pg hp, cI_some]
  by_cases c : ibx (pS P) x = true
  · rw [c, bI_t, if_neg (by decide), aO_86 w0, SM_isSign w0 (h.th 0).pg hp, cI_some, Bool.true_and]
    obtain ⟨p, hp0, rfl⟩ := ibx_out c (by omega)
    by_cases c2 : ibx (pG P) z = true
    · obtain ⟨g, hg0, rfl⟩ := ibx_out c2 (by omega)
      obtain ⟨M1, F, n, S, t, K, m, os, q, v, a1, a2, a3, a4, a5, a6, a7, -⟩ := SM_layMachine (h.th 0) (ht.th 0) (hm.th 0) hp0
      have w1 := a4.w
      have no := a7.2.2.2.2.2.2.2.2.2.1
      have mt := a7.2.2.1
      have pk := a7.2.2.2.2.2.1
      have mn := a7.2.2.2.2.2.2.1
      have hK := a7.2.2.2.2.2.2.2.1
      have sc := a7.2.2.2.2.2.2.2.2.2.2.2.1
      have qm := no.le hK
      have le := mt.2.1
      have th0 : mI M1 86 0 = 0 := by rw [a3 0 (by decide) (by decide) (by decide) (by decide) (by decide) (by decide), mI_sI, if_pos ⟨rfl, rfl⟩]
      have fr : Sm fmM [99] M M1 := (th_sm.more (by decide) (by decide)).trans (a2.more (by decide) (by decide))
      have ff : ∀ j, j ≠ 0 → j ≠ 30 → j ≠ 31 → j ≠ 47 → j ≠ 48 → j ≠ 49 → j ≠ 52 → mI M1 86 j = mI M 86 j := fun j q0 h1 h2 h3 h4 h5 h6 => (a3 j h1 h2 h3 h4 h5 h6).trans (th_f q0)
      rw [c2, bI_t, if_neg (by decide), aO_86 w0, a1, cV_some, aO_86 w1, no.1, SM_in, cI_some, ib_pred (by omega)]
      by_cases c3 : ibx q y = true
      · obtain ⟨k, hk0, rfl⟩ := ibx_out c3 (by omega)
        obtain ⟨o1, o2⟩ := no.2.1 k hk0
        obtain ⟨t1, t2⟩ := mt.2.2 (os k) g o2 hg0
        have hG : 0 < pG P := by omega
        have lt : pG P * k + g < pG P * q := by
          have : pG P * k + pG P ≤ pG P * q := by
            rw [← Nat.mul_succ]
            exact Nat.mul_le_mul_left _ hk0
          omega
        obtain ⟨s1, s2, -⟩ := sc.1 _ lt
        rw [Nat.mul_add_div hG, Nat.div_eq_of_lt hg0, Nat.add_zero, Nat.mul_add_mod, Nat.mod_eq_of_lt hg0] at s2
        rw [c3, bI_t, if_neg (by decide), aO_86 w1, aO_86 w1, r_86_50 w1, aA_115 w1 (by omega), r_86_44 w1, nI_clamp (by omega), o1, lit_6, nI_mulN, nI_add, aA_112 w1 (by omega), aO_86 w1, nI_clamp (by omega), t1, SM_nodeOld w1 no pk le mn hK t2 s1 s2, cI_some]
        refine ⟨M1, _, rfl, fr, ff, a4, a5, a6, th0, (fun z => by cases z), fun p' g' hp' hg' e1 e2 => ?_⟩
        rw [nI_eq (by omega) (by omega)] at e1 e2
        rw [← e1, ← e2]
        refine ⟨q, _, _, a7.nm hp hp0, (fun z => by rw [c3] at z; cases z), fun k' hk' e => ?_⟩
        rw [nI_eq (by omega) (by omega)] at e
        rw [← e]
      · rw [Bool.not_eq_true] at c3
        rw [c3, bI_f, if_pos rfl]
        refine ⟨M1, _, rfl, fr, ff, a4, a5, a6, th0, (fun z => by cases z), fun p' g' hp' hg' e1 e2 => ?_⟩
        rw [nI_eq (by omega) (by omega)] at e1 e2
        rw [← e1]
        refine ⟨q, _, _, a7.nm hp hp0, fun _ => rfl, fun k' hk' e => ?_⟩
        rw [e, ibx_nI (by omega) (by omega), decide_eq_true hk'] at c3
        cases c3
    · rw [Bool.not_eq_true] at c2
      rw [c2, bI_f, if_pos rfl]
      refine ⟨_, -1, rfl, th_sm.more (by decide) (by decide), fun j q0 _ _ _ _ _ _ => th_f q0, h.th 0, ht.th 0, hm.th 0, by rw [mI_sI, if_pos ⟨rfl, rfl⟩], fun _ => rfl, fun p' g' hp' hg' e1 e2 => ?_⟩
      rw [e2, ibx_nI (by omega) (by omega), decide_eq_true hg'] at c2
      cases c2
  · rw [Bool.not_eq_true] at c
    rw [c, bI_f, if_pos rfl]
    refine ⟨_, -1, rfl, th_sm.more (by decide) (by decide), fun j q0 _ _ _ _ _ _ => th_f q0, h.th 0, ht.th 0, hm.th 0, by rw [mI_sI, if_pos ⟨rfl, rfl⟩], fun _ => rfl, fun p' g' hp' hg' e1 e2 => ?_⟩
    rw [e1, ibx_nI (by omega) (by omega), decide_eq_true hp'] at c
    cases c
end FACEM
