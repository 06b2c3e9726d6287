/-! NOW: what it tells; the bits counted -/
section NOWS
variable {P : PG} {o : Nat} {nw : NW}
def nowA (P : PG) (nw : NW) (x r : Int32) : Prop := (nw = none → r = -2) ∧ ∀ q, nw = some q → (x = 0 → r = nI q.1) ∧ (x = 1 → r = nI q.2.1) ∧ (x = 2 → r = bI (atB P q.1 q.2.1 q.2.2)) ∧ (∀ i, i < q.2.1 → x = nI (10 + i) → r = nI (q.2.2 (q.2.1 - 1 - i))) ∧ (x ≠ 0 → x ≠ 1 → x ≠ 2 → (∀ i, i < q.2.1 → x ≠ nI (10 + i)) → r = -2)
theorem nowA_eq {x r r' : Int32} (a : nowA P nw x r) (b : nowA P nw x r') : r = r' := by
  cases nw with
  | none => rw [a.1 rfl, b.1 rfl]
  | some q =>
    obtain ⟨a0, a1, a2, a3, a4⟩ := a.2 q rfl
    obtain ⟨b0, b1, b2, b3, b4⟩ := b.2 q rfl
    by_cases c0 : x = 0
    · rw [a0 c0, b0 c0]
    · by_cases c1 : x = 1
      · rw [a1 c1, b1 c1]
      · by_cases c2 : x = 2
        · rw [a2 c2, b2 c2]
        · by_cases c3 : ∃ i, i < q.2.1 ∧ x = nI (10 + i)
          · obtain ⟨i, hi, e⟩ := c3
            rw [a3 i hi e, b3 i hi e]
          · have no : ∀ i, i < q.2.1 → x ≠ nI (10 + i) := fun i hi e => c3 ⟨i, hi, e⟩
            rw [a4 c0 c1 c2 no, b4 c0 c1 c2 no]
theorem now_at {p H : Nat} {s : Nat → Nat} {i : Nat} (hi : i < H) (hH : H ≤ 40) : nowA P (some (p, H, s)) (nI (10 + i)) (nI (s (H - 1 - i))) := by
  refine ⟨(fun z => by cases z), fun q e => ?_⟩
  cases e
  refine ⟨fun z => ?_, fun z => ?_, fun z => ?_, fun i' hi' z => ?_, fun _ _ _ z => absurd rfl (z i hi)⟩
  · rw [show (0 : Int32) = nI 0 from rfl, nI_eq (by omega) (by omega)] at z
    omega
  · rw [show (1 : Int32) = nI 1 from rfl, nI_eq (by omega) (by omega)] at z
    omega
  · rw [show (2 : Int32) = nI 2 from rfl, nI_eq (by omega) (by omega)] at z
    omega
  · have h' : i' < H := hi'
    rw [nI_eq (by omega) (by omega)] at z
    rw [show i' = i by omega]
theorem S11_now {M : MM} (h : CoC M P o nw) (x : Int32) : ∃ r, f11_now M 1 x = some (r, M) ∧ nowA P nw x r := by
  have w := h.1
  have hp := h.2.1
  have p5 := hp.1
  have g6 := hp.2.1
  have hn := S6_isNone w h.2.2.2.2.2.1 h.2.2.2.2.2.2 hp
  unfold f11_now
  rw [aO_1 w, r_1_2 w, aO_23 w, hn, cI_some]
  cases nw with
  | none =>
    rw [if_neg (show ¬ bI (Option.isNone (none : NW)) = 0 by decide)]
    exact ⟨-2, rfl, fun _ => rfl, (fun q e => by cases e)⟩
  | some q =>
    obtain ⟨p, H, s⟩ := q
    have pl : PlC M 23 p H s := h.2.2.2.2.2.1
    have wn := h.2.2.2.2.2.2
    have p1 : p < pS P := wn.1
    have H40 : H ≤ 40 := wn.2.1
    have e2 : mI M 23 2 = nI p := pl.2.2.1
    have e3 : mI M 23 3 = nI H := pl.2.2.2.1
    rw [if_pos (show bI (Option.isNone (some (p, H, s) : NW)) = 0 from rfl)]
    by_cases c0 : x = 0
    · rw [if_pos c0, aO_1 w, r_1_2 w, aO_23 w, e2]
      refine ⟨_, rfl, (fun z => by cases z), fun q e => ?_⟩
      cases e
      rw [c0]
      exact ⟨fun _ => rfl, (fun z => absurd z (by decide)), (fun z => absurd z (by decide)), fun i hi z => (by have h' : i < H := hi; rw [show (0 : Int32) = nI 0 from rfl, nI_eq (by omega) (by omega)] at z; omega), fun z => absurd rfl z⟩
    · by_cases c1 : x = 1
      · rw [if_neg c0, if_pos c1, aO_1 w, r_1_2 w, aO_23 w, e3]
        refine ⟨_, rfl, (fun z => by cases z), fun q e => ?_⟩
        cases e
        rw [c1]
        exact ⟨(fun z => absurd z (by decide)), fun _ => rfl, (fun z => absurd z (by decide)), fun i hi z => (by have h' : i < H := hi; rw [show (1 : Int32) = nI 1 from rfl, nI_eq (by omega) (by omega)] at z; omega), fun _ z => absurd rfl z⟩
      · by_cases c2 : x = 2
        · rw [if_neg c0, if_neg c1, if_pos c2, aO_1 w, S11_isAt h, cI_some]
          refine ⟨bI (atB P p H s), ?_, (fun z => by cases z), fun q e => ?_⟩
          · cases atB P p H s <;> rfl
          · cases e
            rw [c2]
            exact ⟨(fun z => absurd z (by decide)), (fun z => absurd z (by decide)), fun _ => rfl, fun i hi z => (by have h' : i < H := hi; rw [show (2 : Int32) = nI 2 from rfl, nI_eq (by omega) (by omega)] at z; omega), fun _ _ z => absurd rfl z⟩
        · rw [if_neg c0, if_neg c1, if_neg c2]
          have rest : (∀ i, i < H → x ≠ nI (10 + i)) → nowA P (some (p, H, s)) x (-2) := fun no => by
            refine ⟨fun _ => rfl, fun q e => ?_⟩
            cases e
            exact ⟨fun z => absurd z c0, fun z => absurd z c1, fun z => absurd z c2, fun i hi z => absurd z (no i hi), fun _ _ _ _ => rfl⟩
          by_cases c3 : x < 10
          · rw [if_pos c3]
            unfold f11_now_b93 f11_now_b94
            rw [if_pos rfl]
            refine ⟨-2, rfl, rest (fun i hi z => ?_)⟩
            rw [z, show (10 : Int32) = nI 10 from rfl, c_lt (by omega) (by omega)] at c3
            omega
          · rw [if_neg c3, aO_1 w, r_1_2 w, aO_23 w, e3]
            obtain ⟨j, hj, rfl⟩ := nI_of (show ¬ x < 0 from fun z => c3 (by
              rw [Int32.lt_iff_toInt_lt] at z ⊢
              have : (0 : Int32).toInt = 0 := rfl
              have : (10 : Int32).toInt = 10 := rfl
              omega))
            have j10 : 10 ≤ j := by
              rw [show (10 : Int32) = nI 10 from rfl, c_lt hj (by omega)] at c3
              omega
            rw [show (10 : Int32) = nI 10 from rfl, nI_subN j10]
            by_cases c4 : H ≤ j - 10
            · rw [if_pos (nI_le c4 (by omega))]
              unfold f11_now_b93 f11_now_b94
              rw [if_pos rfl]
              refine ⟨-2, rfl, rest (fun i hi z => ?_)⟩
              rw [nI_eq hj (by omega)] at z
              omega
            · rw [if_neg (nI_ge (by omega) (by omega))]
              unfold f11_now_b94
              rw [if_neg (by decide), aO_1 w, r_1_2 w, aO_23 w, show (10 : Int32) = nI 10 from rfl, nI_subN j10, S6_top w pl (by omega), cI_some]
              refine ⟨_, rfl, ?_⟩
              have e : j = 10 + (j - 10) := by omega
              have := now_at (P := P) (p := p) (s := s) (show j - 10 < H by omega) H40
              rw [← e] at this
              exact this
theorem SM_now {M : MM} (h : CoM M P o nw) (x : Int32) : ∃ r, f12_now M 86 x = some (r, sI M 86 0 0) ∧ nowA P nw x r := by
  have w := h.1
  have hp := h.2.1
  have p5 := hp.1
  have g6 := hp.2.1
  have w0 : Wl (sI M 86 0 0) := w
  have h0 := h.th 0
  unfold f12_now
  rw [aO_86 w, bM_e, aO_86 w0]
  cases nw with
  | none =>
    have e19 : mI (sI M 86 0 0) 86 19 = 0 := h0.2.2.2.2.1
    rw [if_pos e19]
    exact ⟨-2, rfl, fun _ => rfl, (fun q e => by cases e)⟩
  | some q =>
    obtain ⟨p, H, s⟩ := q
    obtain ⟨e19, e20, e21, e92⟩ := h0.2.2.2.2.1
    have e20' : mI (sI M 86 0 0) 86 20 = nI p := e20
    have e21' : mI (sI M 86 0 0) 86 21 = nI H := e21
    have wn := h0.2.2.2.2.2.1
    have p1 : p < pS P := wn.1
    have H40 : H ≤ 40 := wn.2.1
    rw [if_neg (by rw [e19]; decide), aO_86 w0, e21', show (9 : Int32) = nI 9 from rfl, nI_add, SM_in, cI_some]
    have rest : (∀ i, i < H → x ≠ nI (10 + i)) → ∃ r, (if x = 0 then aO (sI M 86 0 0) 86 12 <| some (mI (sI M 86 0 0) 86 20, sI M 86 0 0) else if x = (1 : Int32) then aO (sI M 86 0 0) 86 12 <| some (mI (sI M 86 0 0) 86 21, sI M 86 0 0) else if x = (2 : Int32) then aO (sI M 86 0 0) 86 12 <| aO (sI M 86 0 0) 86 12 <| aO (sI M 86 0 0) 86 12 <| aO (sI M 86 0 0) 86 12 <| cI (f12_isAt (sI M 86 0 0) 86 (mI (sI M 86 0 0) 86 20) (mR (sI M 86 0 0) 86 17) (mI (sI M 86 0 0) 86 21)) fun r89 M89 => (if r89 = 0 then some ((0 : Int32), M89) else some ((1 : Int32), M89)) else some ((-2 : Int32), sI M 86 0 0)) = some (r, sI M 86 0 0) ∧ nowA P (some (p, H, s)) x r := fun no => by
      by_cases c0 : x = 0
      · rw [if_pos c0, aO_86 w0, e20']
        refine ⟨_, rfl, (fun z => by cases z), fun q e => ?_⟩
        cases e
        rw [c0]
        exact ⟨fun _ => rfl, (fun z => absurd z (by decide)), (fun z => absurd z (by decide)), fun i hi z => (by have h' : i < H := hi; rw [show (0 : Int32) = nI 0 from rfl, nI_eq (by omega) (by omega)] at z; omega), fun z => absurd rfl z⟩
      · by_cases c1 : x = 1
        · rw [if_neg c0, if_pos c1, aO_86 w0, e21']
          refine ⟨_, rfl, (fun z => by cases z), fun q e => ?_⟩
          cases e
          rw [c1]
          exact ⟨(fun z => absurd z (by decide)), fun _ => rfl, (fun z => absurd z (by decide)), fun i hi z => (by have h' : i < H := hi; rw [show (1 : Int32) = nI 1 from rfl, nI_eq (by omega) (by omega)] at z; omega), fun _ z => absurd rfl z⟩
        · by_cases c2 : x = 2
          · rw [if_neg c0, if_neg c1, if_pos c2, aO_86 w0, aO_86 w0, aO_86 w0, aO_86 w0, e20', e21', r_86_17 w0, SM_isAt w0 h0.2.2.2.1 hp (p := p) (H := H) (s := s) (by omega) (k_92 w0) H40 (by omega) (fun i hi => ⟨e92 i hi, Nat.lt_of_lt_of_le (wn.2.2 i hi) g6⟩), cI_some]
            refine ⟨bI (atB P p H s), ?_, (fun z => by cases z), fun q e => ?_⟩
            · cases atB P p H s <;> rfl
            · cases e
              rw [c2]
              exact ⟨(fun z => absurd z (by decide)), (fun z => absurd z (by decide)), fun _ => rfl, fun i hi z => (by have h' : i < H := hi; rw [show (2 : Int32) = nI 2 from rfl, nI_eq (by omega) (by omega)] at z; omega), fun _ _ z => absurd rfl z⟩
          · rw [if_neg c0, if_neg c1, if_neg c2]
            refine ⟨-2, rfl, fun _ => rfl, fun q e => ?_⟩
            cases e
            exact ⟨fun z => absurd z c0, fun z => absurd z c1, fun z => absurd z c2, fun i hi z => absurd z (no i hi), fun _ _ _ _ => rfl⟩
    have l10 : (x < (10 : Int32)) = (x < nI 10) := rfl
    by_cases c3 : x < (10 : Int32)
    · rw [decide_eq_true c3, Bool.not_true, Bool.false_and, if_pos (show bI false = 0 from rfl)]
      refine rest (fun i hi z => ?_)
      rw [z, show (10 : Int32) = nI 10 from rfl, c_lt (by omega) (by omega)] at c3
      omega
    · obtain ⟨j, hj, rfl⟩ := nI_of (show ¬ x < 0 from fun z => c3 (by
        rw [Int32.lt_iff_toInt_lt] at z ⊢
        have : (0 : Int32).toInt = 0 := rfl
        have : (10 : Int32).toInt = 10 := rfl
        omega))
      have j10 : 10 ≤ j := by
        rw [show (10 : Int32) = nI 10 from rfl, c_lt hj (by omega)] at c3
        omega
      rw [decide_eq_false c3, Bool.not_false, Bool.true_and]
      by_cases c4 : nI (9 + H) < nI j
      · rw [decide_eq_true c4, Bool.not_true, if_pos (show bI false = 0 from rfl)]
        rw [c_lt (by omega) hj] at c4
        refine rest (fun i hi z => ?_)
        rw [nI_eq hj (by omega)] at z
        omega
      · rw [decide_eq_false c4, Bool.not_false, if_neg (show ¬ bI true = 0 by decide)]
        rw [c_lt (by omega) hj] at c4
        have e92' : mI (sI M 86 0 0) 92 (H - 1 - (j - 10)) = nI (s (H - 1 - (j - 10))) := e92 _ (show H - 1 - (j - 10) < H by omega)
        rw [aO_86 w0, aO_86 w0, r_86_17 w0, e21', show (10 : Int32) = nI 10 from rfl, nI_subN j10, nI_sub1 (by omega), nI_subN (by omega), aA_92 w0 (by omega), nI_clamp (by omega), e92']
        refine ⟨_, rfl, ?_⟩
        have e : j = 10 + (j - 10) := by omega
        have := now_at (P := P) (p := p) (s := s) (show j - 10 < H by omega) H40
        rw [← e] at this
        exact this
end NOWS
