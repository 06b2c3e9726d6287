/-! MACHINES: the shortest stack, the reference's face -/
section SHORTM2
variable {P : PG} {o : Nat}
theorem SM_shortest {M : MM} {nw : NW} (h : CoM M P o nw) (ht : ToldOK M P o) (hm : MaM M P o) (x y : Int32) : ∃ M' r, f12_shortest M 86 x y = some (r, M') ∧ Sm fmS [99, 117] M M' ∧ (∀ j, j ≠ 0 → j ≠ 30 → j ≠ 31 → j ≠ 47 → j ≠ 48 → j ≠ 49 → j ≠ 52 → mI M' 86 j = mI M 86 j) ∧ CoM M' P o nw ∧ ToldOK M' P o ∧ MaM M' P o ∧ mI M' 86 0 = 0 ∧ (ibx (pS P) x = false → r = -1) ∧ ∀ p, p < pS P → x = nI p → ∃ q nb L gd, NmA P o p q nb L ∧ (∀ k, k < q → gd k = L k []) ∧ 0 < q ∧ shA (pG P) nb gd y r := by
  have w := h.w
  have hp := h.p
  have p5 := hp.1
  have w0 : Wl (sI M 86 0 0) := w
  unfold f12_shortest
  rw [aO_86 w, bM_e, aO_86 w0, SM_isState w0 (h.th 0).pg hp, cI_some]
  by_cases c : ibx (pS P) x = true
  · obtain ⟨p, hp0, rfl⟩ := ibx_out c (by omega)
    obtain ⟨M1, F, n, S, t, K, m, os, q, v, a1, a2, a3, a4, a5, a6, a7, F', nt⟩ := SM_layMachine (h.th 0) (ht.th 0) (hm.th 0) hp0
    have w1 := a4.w
    have nx := NDX_of a4 a7 nt
    have hq : 0 < q := by
      have := (a7.num hp0).2.2.2.2.2
      omega
    obtain ⟨M2, z1, z2, z3⟩ := SM_layFar hp nx
    have w2 := w1.sm z2
    obtain ⟨nb, hnb⟩ : ∃ nb : Nat → Nat → Nat, nb = fun k g => v (pG P * k + g) := ⟨_, rfl⟩
    obtain ⟨gd, hgd⟩ : ∃ gd : Nat → Bool, gd = fun k => avS 21 (mM (gTG P) F) (isE (gTG P)) (S (os k)) [] := ⟨_, rfl⟩
    rw [← hnb, ← hgd] at nx z3
    have f0 := z3 0 hq
    -- the answer
    have main : ∃ r, (if y = -1 then f12_shortest_b38 M2 86 y else aO M2 86 12 <| aA M2 (mR M2 86 54) 0 (0 : Int32) <| if 0 ≤ (mI M2 (mR M2 86 54) (0 : Int32).toNatClampNeg) then aO M2 86 12 <| aA M2 (mR M2 86 54) 0 (0 : Int32) <| cI (f12_in M2 y (0 : Int32) ((mI M2 (mR M2 86 54) (0 : Int32).toNatClampNeg) - (1 : Int32))) fun r64 M64 => if r64 = 0 then some ((-1 : Int32), M64) else f12_shortest_b80 M64 86 y (0 : Int32) (0 : Int32) (0 : Int32) else f12_shortest_b38 M2 86 y) = some (r, M2) ∧ shA (pG P) nb gd y r := by
      have cl0 : (0 : Int32).toNatClampNeg = 0 := rfl
      have z118 : ∀ {β : Type} {o : Option β}, aA M2 118 0 (0 : Int32) o = o := fun {β o} => aA_118 (i := 0) w2 (by omega)
      rw [r_86_54 w2, cl0, aO_86 w2, z118, aO_86 w2, z118]
      by_cases c1 : y = -1
      · rw [if_pos c1]
        refine ⟨mI M2 118 0, ?_, ?_⟩
        · unfold f12_shortest_b38
          rw [if_pos c1, aO_86 w2, r_86_54 w2, z118, cl0]
        · rcases f0 with ⟨D, hD, l, e⟩ | ⟨no, e⟩
          · refine ⟨fun no => ?_, fun D' l' => ⟨fun _ => by rw [e, lst_uniq l l'], fun i hi ey => ?_, fun ne => absurd c1 ne⟩⟩
            · have := l.1
              rw [no D] at this
              cases this
            · rw [c1] at ey
              have := l'.1
              have hD' := lst_uniq l l'
              exact absurd ey.symm (nI_neM (by omega))
          · refine ⟨fun _ => e, fun D' l' => ?_⟩
            have := l'.1
            rw [no D'] at this
            cases this
      · rw [if_neg c1]
        rcases f0 with ⟨D, hD, l, e⟩ | ⟨no, e⟩
        · rw [e, if_pos (show (0 : Int32) ≤ nI D from nI_le (Nat.zero_le _) (by omega)), SM_in, cI_some, ib_pred (by omega)]
          by_cases c2 : ibx D y = true
          · obtain ⟨i, hi, rfl⟩ := ibx_out c2 (by omega)
            obtain ⟨W, N, gr⟩ := GRk_ex D 0 l
            have n0 : N 0 = 0 := gr.1
            have q1 := LM_sh80 hp nx hq z2 z3 hD l gr hi (i + 1) 0 (by omega) FU (FU_big (by omega)) 0 (fun q => absurd q (by omega)) (by rw [n0]; exact hq)
            rw [n0, if_neg (by omega)] at q1
            rw [c2, bI_t, if_neg (by decide)]
            refine ⟨nI (W i), q1, fun no => ?_, fun D' l' => ⟨fun z => absurd z c1, fun i' hi' ey => ?_, fun _ no => ?_⟩⟩
            · have := l.1
              rw [no D] at this
              cases this
            · have hD' := lst_uniq l l'
              rw [nI_eq (by omega) (by omega)] at ey
              rw [← hD', ← ey]
              exact ⟨W, N, gr, rfl⟩
            · have hD' := lst_uniq l l'
              exact absurd rfl (no i (by omega))
          · rw [Bool.not_eq_true] at c2
            rw [c2, bI_f, if_pos rfl]
            refine ⟨-1, rfl, fun _ => rfl, fun D' l' => ⟨fun z => absurd z c1, fun i' hi' ey => ?_, fun _ _ => rfl⟩⟩
            have hD' := lst_uniq l l'
            rw [ey, ibx_nI (by omega) (by omega), decide_eq_true (by omega)] at c2
            cases c2
        · rw [e, if_neg (by decide)]
          refine ⟨-1, ?_, fun _ => rfl, fun D' l' => ?_⟩
          · unfold f12_shortest_b38
            rw [if_neg c1]
          · have := l'.1
            rw [no D'] at this
            cases this
    obtain ⟨r, m1, m2⟩ := main
    rw [c, bI_t, if_neg (by decide), aO_86 w0, a1, cV_some, aO_86 w1, z1, cV_some]
    refine ⟨M2, r, m1, ((th_sm.more (by decide) (by decide)).trans (a2.more (by decide) (by decide))).trans (z2.more (by decide) (by decide)), fun j q0 h1 h2 h3 h4 h5 h6 => by rw [z2.i 86 (by decide)]; exact (a3 j h1 h2 h3 h4 h5 h6).trans (th_f q0), a4.row z2, a5.row z2, a6.row z2, ?_, (fun z => by cases z), fun p' hp' e1 => ?_⟩
    · rw [z2.i 86 (by decide), a3 0 (by decide) (by decide) (by decide) (by decide) (by decide) (by decide), mI_sI, if_pos ⟨rfl, rfl⟩]
    · rw [nI_eq (by omega) (by omega)] at e1
      rw [← e1]
      refine ⟨q, nb, _, gd, by rw [hnb]; exact a7.nm hp hp0, fun k _ => by rw [hgd], hq, m2⟩
  · rw [Bool.not_eq_true] at c
    rw [c, bI_f, if_pos rfl]
    refine ⟨_, -1, rfl, th_sm.more (by decide) (by decide), fun j q0 _ _ _ _ _ _ => th_f q0, h.th 0, ht.th 0, hm.th 0, by rw [mI_sI, if_pos ⟨rfl, rfl⟩], fun _ => rfl, fun p' hp' e1 => ?_⟩
    rw [e1, ibx_nI (by omega) (by omega), decide_eq_true hp'] at c
    cases c
end SHORTM2
