/-! OTHER AIMS: the reference; what matters -/
section OTH2
variable {M : MM} {P : PG} {o : Nat} {nw : NW}
theorem SM_comesTo {p0 H : Nat} {s : Nat → Nat} (h : CoM M P o (some (p0, H, s))) (ht : ToldOK M P o) {p : Nat} (hp : p < pS P) {x : Int32} {T : TG} (hT : okT (pG P) T) (hx : cmT p x T) {v : Nat} (hv : costN P o T (some (p0, H, s)) v) :
    ∃ M', f12_comesTo M 86 (nI p) x = some (mjv v, M') ∧ Sm [86, 95, 96, 97, 98] [100, 101] M M' ∧ (∀ j, j ≠ 30 → mI M' 86 j = mI M 86 j) ∧ CoM M' P o (some (p0, H, s)) ∧ ToldOK M' P o := by
  have w := h.w
  have p5 := h.p.1
  obtain ⟨M1, a1, a2, a3, a4⟩ := SM_targetIs w h.sz (show p < 5 by omega) hx
  have h1 : CoM M1 P o (some (p0, H, s)) := h.sm a2 (a3 5 (by decide)) (fun j _ _ => a3 j (by omega)) a4.2.2.1 (by decide)
  have w1 := h1.w
  obtain ⟨M', F, gg, Ab, b1, b2, b3, b4⟩ := M_other h1 a4 hT
  have w2 : Wl (uJ M1 100 (mjR F gg)) := w1
  refine ⟨M', ?_, ?_, ?_, ?_, ?_⟩
  · unfold f12_comesTo
    rw [aO_86 w, a1, cV_some, aO_86 w1, aO_86 w1, r_86_29 w1, b1, cV_some, aO_86 w2, aO_86 w2, r_86_29 w2, b4, cJ_some, ← hv.2.2 F _ b3 (okD_X a4)]
  · rw [b2]
    exact ((a2.more (fun _ q => q) (fun _ q => by cases q)).uJ _ (by decide)).uJ _ (by decide)
  · intro j hj
    rw [b2]
    exact a3 j hj
  · rw [b2]
    exact h1.sm (Is := []) (Js := [100, 101]) (((Sm.rfl _ _ M1).uJ _ (by decide)).uJ _ (by decide)) rfl (fun _ _ _ => rfl) h1.sz (by decide)
  · rw [b2]
    unfold ToldOK at *
    have e99 : mJ (uJ (uJ M1 100 (mjR F gg)) 101 Ab) 99 = mJ M 99 := by
      rw [mJ_uJ, if_neg (by decide), mJ_uJ, if_neg (by decide), a2.j 99 (by decide)]
    rw [e99, show mI (uJ (uJ M1 100 (mjR F gg)) 101 Ab) 86 31 = mI M 86 31 from a3 31 (by decide)]
    exact ht
theorem SM_comes (h : CoM M P o nw) (ht : ToldOK M P o) (x y : Int32) : ∃ M' r, f12_comes M 86 x y = some (r, M') ∧ Sm [86, 95, 96, 97, 98] [100, 101] M M' ∧ (∀ j, j ≠ 0 → j ≠ 30 → mI M' 86 j = mI M 86 j) ∧ CoM M' P o nw ∧ ToldOK M' P o ∧
    (nw = none → r = -1) ∧ ((ibx (pS P) x && (decide (y = -1) || ibx (pG P) y)) = false → r = -1) ∧
    ∀ p T v, p < pS P → x = nI p → okT (pG P) T → cmT p y T → costN P o T nw v → r = mjv v := by
  have w := h.w
  have w0 : Wl (sI M 86 0 0) := w
  have p5 := h.p.1
  have g6 := h.p.2.1
  have h0 := h.th 0
  have t0 := ht.th 0
  have no : ∃ M' r, some ((-1 : Int64), sI M 86 0 0) = some (r, M') ∧ Sm [86, 95, 96, 97, 98] [100, 101] M M' ∧ (∀ j, j ≠ 0 → j ≠ 30 → mI M' 86 j = mI M 86 j) ∧ CoM M' P o nw ∧ ToldOK M' P o ∧ r = -1 :=
    ⟨_, _, rfl, th_sm.more (by decide) (by decide), fun j q _ => th_f q, h0, t0, rfl⟩
  unfold f12_comes
  rw [aO_86 w, bM_e, aO_86 w0]
  rcases nw with _ | ⟨p0, H, s⟩
  · rw [show mI (sI M 86 0 0) 86 19 = 0 from (th_f (by decide)).trans h.2.2.2.2.1, if_pos rfl]
    obtain ⟨M', r, k1, k2, k3, k4, k5, k6⟩ := no
    refine ⟨M', r, k1, k2, k3, k4, k5, fun _ => k6, fun _ => k6, fun p T v _ _ _ _ hv => ?_⟩
    rw [hv.2, mjv_far, k6]
  · rw [show mI (sI M 86 0 0) 86 19 = 1 from (th_f (by decide)).trans h.2.2.2.2.1.1, if_neg (by decide), aO_86 w0, SM_isState w0 h0.pg h.p, cI_some]
    by_cases c1 : ibx (pS P) x = true
    · rw [c1, bI_t, if_neg (by decide)]
      obtain ⟨p, hp, rfl⟩ := ibx_out c1 (by omega)
      have yes : ∀ T, okT (pG P) T → cmT p y T → (∀ p' T', p' < pS P → nI p = nI p' → okT (pG P) T' → cmT p' y T' → T' = T) → ∃ M' r, f12_comes_b33 (sI M 86 0 0) 86 (nI p) y = some (r, M') ∧ Sm [86, 95, 96, 97, 98] [100, 101] M M' ∧ (∀ j, j ≠ 0 → j ≠ 30 → mI M' 86 j = mI M 86 j) ∧ CoM M' P o (some (p0, H, s)) ∧ ToldOK M' P o ∧
          ((some (p0, H, s) : NW) = none → r = -1) ∧ ∀ p' T v, p' < pS P → nI p = nI p' → okT (pG P) T → cmT p' y T → costN P o T (some (p0, H, s)) v → r = mjv v := by
        intro T hT hm hu
        obtain ⟨v, hv⟩ := costN_ex (nw := some (p0, H, s)) h.p h.2.2.2.2.2.1 o hT
        obtain ⟨M', e1, e2, e3, e4, e5⟩ := SM_comesTo h0 t0 hp hT hm hv
        refine ⟨M', mjv v, ?_, (th_sm.more (by decide) (by decide)).trans e2, fun j q1 q2 => (e3 j q2).trans (th_f q1), e4, e5, (fun q => by cases q), fun p' T' v' h1 h2 h3 h4 h5 => ?_⟩
        · unfold f12_comes_b33
          rw [aO_86 w0, e1, cJ_some]
        · have := hu p' T' h1 h2 h3 h4
          subst this
          obtain ⟨E2, R2, k⟩ := Std_ex h.p o T'
          rw [hv.2.1 E2 R2 k, h5.2.1 E2 R2 k]
      by_cases c2 : y = -1
      · rw [if_pos c2]
        obtain ⟨M', r, k1, k2, k3, k4, k5, k6, k7⟩ := yes (nTG p) (okT_n h.p hp) (.inr ⟨c2, rfl⟩) (fun p' T' h1 h2 h3 h4 => by
          rw [nI_eq (by omega) (by omega)] at h2
          rcases h4 with ⟨g, hg, e2, e3⟩ | ⟨e2, e3⟩
          · rw [c2] at e2
            exact absurd e2.symm (nI_neM (by omega))
          · rw [e3, h2])
        refine ⟨M', r, k1, k2, k3, k4, k5, k6, fun q => ?_, k7⟩
        rw [decide_eq_true c2] at q
        cases q
      · rw [if_neg c2, aO_86 w0, SM_isSign w0 h0.pg h.p, cI_some]
        by_cases c3 : ibx (pG P) y = true
        · rw [c3, bI_t, if_neg (by decide)]
          obtain ⟨g, hg, rfl⟩ := ibx_out c3 (by omega)
          obtain ⟨M', r, k1, k2, k3, k4, k5, k6, k7⟩ := yes (hTG p g) (okT_h h.p hp hg) (.inl ⟨g, by omega, rfl, rfl⟩) (fun p' T' h1 h2 h3 h4 => by
            rw [nI_eq (by omega) (by omega)] at h2
            rcases h4 with ⟨g', hg', e2, e3⟩ | ⟨e2, e3⟩
            · rw [nI_eq (by omega) (by omega)] at e2
              rw [e3, h2, e2]
            · exact absurd e2 (nI_neM (by omega)))
          refine ⟨M', r, k1, k2, k3, k4, k5, k6, fun q => ?_, k7⟩
          rw [Bool.or_true] at q
          cases q
        · rw [Bool.not_eq_true] at c3
          rw [c3, bI_f, if_pos rfl]
          obtain ⟨M', r, k1, k2, k3, k4, k5, k6⟩ := no
          refine ⟨M', r, k1, k2, k3, k4, k5, fun _ => k6, fun _ => k6, fun p' T v h1 h2 h3 h4 h5 => ?_⟩
          exfalso
          rcases h4 with ⟨g, hg, e2, e3⟩ | ⟨e2, e3⟩
          · have : g < pG P := by
              rw [e3] at h3
              exact (h3.2.2 0 (show 0 < 1 by omega)).2.2.2 0 (show 0 < 1 by omega)
            rw [e2, ibx_nI (by omega) (by omega), decide_eq_true this] at c3
            cases c3
          · exact c2 e2
    · rw [Bool.not_eq_true] at c1
      rw [c1, bI_f, if_pos rfl]
      obtain ⟨M', r, k1, k2, k3, k4, k5, k6⟩ := no
      refine ⟨M', r, k1, k2, k3, k4, k5, fun _ => k6, fun _ => k6, fun p' T v h1 h2 h3 h4 h5 => ?_⟩
      rw [h2, ibx_nI (by omega) (by omega), decide_eq_true h1] at c1
      cases c1
/-- comes: both alike -/
theorem comes_eq (hp : WP P) (hw : WN P nw) {x y : Int32} {r r' : Int64} (a : (nw = none → r = -1) ∧ ((ibx (pS P) x && (decide (y = -1) || ibx (pG P) y)) = false → r = -1) ∧ ∀ p T v, p < pS P → x = nI p → okT (pG P) T → cmT p y T → costN P o T nw v → r = mjv v)
    (b : (nw = none → r' = -1) ∧ ((ibx (pS P) x && (decide (y = -1) || ibx (pG P) y)) = false → r' = -1) ∧ ∀ p T v, p < pS P → x = nI p → okT (pG P) T → cmT p y T → costN P o T nw v → r' = mjv v) : r = r' := by
  have p5 := hp.1
  have g6 := hp.2.1
  by_cases c : (ibx (pS P) x && (decide (y = -1) || ibx (pG P) y)) = true
  · rw [Bool.and_eq_true, Bool.or_eq_true] at c
    obtain ⟨p, h1, rfl⟩ := ibx_out c.1 (by omega)
    have fin : ∀ T, okT (pG P) T → cmT p y T → r = r' := fun T hT hm => by
      obtain ⟨v, hv⟩ := costN_ex hp hw o hT
      rw [a.2.2 p T v h1 rfl hT hm hv, b.2.2 p T v h1 rfl hT hm hv]
    rcases c.2 with c2 | c2
    · exact fin _ (okT_n hp h1) (.inr ⟨of_decide_eq_true c2, rfl⟩)
    · obtain ⟨g, h2, rfl⟩ := ibx_out c2 (by omega)
      exact fin _ (okT_h hp h1 h2) (.inl ⟨g, by omega, rfl, rfl⟩)
  · rw [Bool.not_eq_true] at c
    rw [a.2.1 c, b.2.1 c]
end OTH2
