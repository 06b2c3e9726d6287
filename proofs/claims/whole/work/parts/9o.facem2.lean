/-! MACHINES: the face, at the reference (behind) -/
section FACEM2
variable {P : PG} {o : Nat}
theorem SM_good {M : MM} {nw : NW} (h : CoM M P o nw) (ht : ToldOK M P o) (hm : MaM M P o) (x y : Int32) : ∃ M' r, f12_good M 86 x y = some (r, M') ∧ Sm fmM [99] M M' ∧ (∀ j, j ≠ 0 → j ≠ 30 → j ≠ 31 → j ≠ 47 → j ≠ 48 → j ≠ 49 → j ≠ 52 → mI M' 86 j = mI M 86 j) ∧ CoM M' P o nw ∧ ToldOK M' P o ∧ MaM M' P o ∧ mI M' 86 0 = 0 ∧ (ibx (pS P) x = false → r = -1) ∧ ∀ p, p < pS P → x = nI p → ∃ q nb L, NmA P o p q nb L ∧ (ibx q y = false → r = -1) ∧ ∀ k, k < q → y = nI k → r = bI (L k []) := by
  have w := h.w
  have hp := h.p
  have p5 := hp.1
  have w0 : Wl (sI M 86 0 0) := w
  unfold f12_good
  rw [aO_86 w, bM_e, aO_86 w0, SM_isState w0 (h.th 0).pg hp, cI_some]
  by_cases c : ibx (pS P) x = true
  · obtain ⟨p, hp0, rfl⟩ := ibx_out c (by omega)
    obtain ⟨M1, F, n, S, t, K, m, os, q, v, a1, a2, a3, a4, a5, a6, a7, F', nt⟩ := SM_layMachine (h.th 0) (ht.th 0) (hm.th 0) hp0
    have w1 := a4.w
    have no := a7.2.2.2.2.2.2.2.2.2.1
    have mn := a7.2.2.2.2.2.2.1
    have hK := a7.2.2.2.2.2.2.2.1
    have qm := no.le hK
    have le := a7.2.2.1.2.1
    have th0 : mI M1 86 0 = 0 := by rw [a3 0 (by decide) (by decide) (by decide) (by decide) (by decide) (by decide), mI_sI, if_pos ⟨rfl, rfl⟩]
    have fr : Sm fmM [99] M M1 := (th_sm.more (by decide) (by decide)).trans (a2.more (by decide) (by decide))
    have ff : ∀ j, j ≠ 0 → j ≠ 30 → j ≠ 31 → j ≠ 47 → j ≠ 48 → j ≠ 49 → j ≠ 52 → mI M1 86 j = mI M 86 j := fun j q0 h1 h2 h3 h4 h5 h6 => (a3 j h1 h2 h3 h4 h5 h6).trans (th_f q0)
    rw [c, bI_t, if_neg (by decide), aO_86 w0, a1, cV_some, aO_86 w1, no.1, SM_in, cI_some, ib_pred (by omega)]
    by_cases c3 : ibx q y = true
    · obtain ⟨k, hk0, rfl⟩ := ibx_out c3 (by omega)
      obtain ⟨o1, o2⟩ := no.2.1 k hk0
      obtain ⟨s1, s2⟩ := a7.2.1.2.1 (os k) o2
      rw [c3, bI_t, if_neg (by decide), aO_86 w1, aO_86 w1, r_86_50 w1, aA_115 w1 (by omega), r_86_43 w1, nI_clamp (by omega), o1, aA_111 w1 (by omega), aO_86 w1, nI_clamp (by omega), s1, SM_isGoodSet nt (s2.v hp a7.1).1, cI_some]
      refine ⟨M1, bI (avS 21 (mM (gTG P) F) (isE (gTG P)) (S (os k)) []), ?_, fr, ff, a4, a5, a6, th0, (fun z => by cases z), fun p' hp' e1 => ?_⟩
      · show (if bI (avS 21 (mM (gTG P) F) (isE (gTG P)) (S (os k)) []) = 0 then _ else _) = _
        cases avS 21 (mM (gTG P) F) (isE (gTG P)) (S (os k)) [] <;> rfl
      · rw [nI_eq (by omega) (by omega)] at e1
        rw [← e1]
        refine ⟨q, _, _, a7.nm hp hp0, (fun z => by rw [c3] at z; cases z), fun k' hk' e => ?_⟩
        rw [nI_eq (by omega) (by omega)] at e
        rw [← e]
    · rw [Bool.not_eq_true] at c3
      rw [c3, bI_f, if_pos rfl]
      refine ⟨M1, _, rfl, fr, ff, a4, a5, a6, th0, (fun z => by cases z), fun p' hp' e1 => ?_⟩
      rw [nI_eq (by omega) (by omega)] at e1
      rw [← e1]
      refine ⟨q, _, _, a7.nm hp hp0, fun _ => rfl, fun k' hk' e => ?_⟩
      rw [e, ibx_nI (by omega) (by omega), decide_eq_true hk'] at c3
      cases c3
  · rw [Bool.not_eq_true] at c
    rw [c, bI_f, if_pos rfl]
    refine ⟨_, -1, rfl, th_sm.more (by decide) (by decide), fun j q0 _ _ _ _ _ _ => th_f q0, h.th 0, ht.th 0, hm.th 0, by rw [mI_sI, if_pos ⟨rfl, rfl⟩], fun _ => rfl, fun p' hp' e1 => ?_⟩
    rw [e1, ibx_nI (by omega) (by omega), decide_eq_true hp'] at c
    cases c
/-- whether two states tell the same words -/
def smA (P : PG) (o p p' : Nat) (r : Bool) : Prop := ∃ L0 L0', LwA P o p L0 ∧ LwA P o p' L0' ∧ (r = true ↔ ∀ w, GW (pG P) w → L0 w = L0' w)
theorem smA_eq (hp : WP P) {p p' : Nat} {r r' : Bool} (a : smA P o p p' r) (b : smA P o p p' r') : r = r' := by
  obtain ⟨L1, L2, a1, a2, a3⟩ := a
  obtain ⟨N1, N2, b1, b2, b3⟩ := b
  rw [Bool.eq_iff_iff, a3, b3]
  refine ⟨fun h w hw => ?_, fun h w hw => ?_⟩
  · rw [← LwA_eq hp a1 b1 hw, ← LwA_eq hp a2 b2 hw]
    exact h w hw
  · rw [LwA_eq hp a1 b1 hw, LwA_eq hp a2 b2 hw]
    exact h w hw
theorem SM_same {M : MM} {nw : NW} (h : CoM M P o nw) (ht : ToldOK M P o) (hm : MaM M P o) (x y : Int32) : ∃ M' r, f12_same M 86 x y = some (r, M') ∧ Sm fmM [99] M M' ∧ (∀ j, j ≠ 0 → j ≠ 30 → j ≠ 31 → j ≠ 47 → j ≠ 48 → j ≠ 49 → j ≠ 52 → mI M' 86 j = mI M 86 j) ∧ CoM M' P o nw ∧ ToldOK M' P o ∧ MaM M' P o ∧ mI M' 86 0 = 0 ∧ ((ibx (pS P) x && ibx (pS P) y) = false → r = -1) ∧ ∀ p p', p < pS P → p' < pS P → x = nI p → y = nI p' → ∃ b, r = bI b ∧ smA P o p p' b := by
  have w := h.w
  have hp := h.p
  have p5 := hp.1
  have w0 : Wl (sI M 86 0 0) := w
  unfold f12_same
  rw [aO_86 w, bM_e, aO_86 w0, SM_isState w0 (h.th 0).pg hp, cI_some]
  by_cases c : ibx (pS P) x = true
  · obtain ⟨p, hp0, rfl⟩ := ibx_out c (by omega)
    rw [c, bI_t, if_neg (by decide), aO_86 w0, SM_isState w0 (h.th 0).pg hp, cI_some, Bool.true_and]
    by_cases c2 : ibx (pS P) y = true
    · obtain ⟨p', hp0', rfl⟩ := ibx_out c2 (by omega)
      obtain ⟨M1, a1, a2, a3, a4, a5, a6, -, F, n, S, t, K, m, b1, b2, b3, b4, b5, b6, b7, b8, b9, b10⟩ := SM_layMachines (h.th 0) (ht.th 0) (hm.th 0)
      have w1 := a4.w
      have le := b3.2.1
      obtain ⟨s1, s2⟩ := b4 p hp0
      obtain ⟨s1', s2'⟩ := b4 p' hp0'
      have k1 := b6 p s1
      have k2 := b6 p' s1'
      have ma : MaI M1 P o := ⟨F, n, S, t, K, m, b1, b2, b3, b4, b5, b6, b7, b8, b9, b10⟩
      rw [c2, bI_t, if_neg (by decide), aO_86 w0, a1, cV_some, aO_86 w1, r_86_45 w1, aA_113 w1 (by omega), aO_86 w1, aA_113 w1 (by omega), nI_clamp (by omega), nI_clamp (by omega), k1.1, k2.1]
      refine ⟨M1, bI (decide (K p = K p')), ?_, (th_sm.more (by decide) (by decide)).trans (a2.more (by decide) (by decide)), fun j q0 h1 h2 h3 h4 h5 h6 => (a3 j h1 h2 h3 h4 h5).trans (th_f q0), a4, a5, .inr ⟨a6, ma⟩, ?_, (fun z => by cases z), fun q q' hq hq' e1 e2 => ?_⟩
      · simp only [c_eq (show K p < 2 ^ 31 by omega) (show K p' < 2 ^ 31 by omega)]
        by_cases e : K p = K p'
        · rw [if_pos e, decide_eq_true e]
          rfl
        · rw [if_neg e, decide_eq_false e]
          rfl
      · rw [a3 0 (by decide) (by decide) (by decide) (by decide) (by decide), mI_sI, if_pos ⟨rfl, rfl⟩]
      · rw [nI_eq (by omega) (by omega)] at e1 e2
        rw [← e1, ← e2]
        refine ⟨_, rfl, _, _, LwA_F hp b1 (show p < 5 by omega), LwA_F hp b1 (show p' < 5 by omega), ?_⟩
        rw [decide_eq_true_iff, b10 p p' s1 s1', s2, s2']
        refine ⟨fun q w hw => ?_, fun q w hw => ?_⟩
        · rw [← avS_one (by omega), ← avS_one (by omega)]
          exact q w hw
        · rw [avS_one (by omega), avS_one (by omega)]
          exact q w hw
    · rw [Bool.not_eq_true] at c2
      rw [c2, bI_f, if_pos rfl]
      refine ⟨_, -1, rfl, th_sm.more (by decide) (by decide), fun j q0 _ _ _ _ _ _ => th_f q0, h.th 0, ht.th 0, hm.th 0, by rw [mI_sI, if_pos ⟨rfl, rfl⟩], fun _ => rfl, fun p' g' hp' hg' e1 e2 => ?_⟩
      rw [e2, ibx_nI (by omega) (by omega), decide_eq_true hg'] at c2
      cases c2
  · rw [Bool.not_eq_true] at c
    rw [c, bI_f, if_pos rfl]
    refine ⟨_, -1, rfl, th_sm.more (by decide) (by decide), fun j q0 _ _ _ _ _ _ => th_f q0, h.th 0, ht.th 0, hm.th 0, by rw [mI_sI, if_pos ⟨rfl, rfl⟩], fun _ => rfl, fun p' g' hp' hg' e1 e2 => ?_⟩
    rw [e1, ibx_nI (by omega) (by omega), decide_eq_true hp'] at c
    cases c
end FACEM2
