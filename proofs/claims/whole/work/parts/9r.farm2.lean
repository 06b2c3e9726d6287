/-! MACHINES: how far a good node is, at the reference (behind) -/
section FARM2
variable {P : PG} {o : Nat}
theorem LM_lf57 {M0 : MM} (hp : WP P) {q : Nat} {nb : Nat → Nat → Nat} {gd : Nat → Bool} (nx : NDX M0 P q nb gd) {n : Nat} (hn1 : 1 ≤ n) (hn : n ≤ 7300) : ∀ (d k : Nat), k + d = q → ∀ f, d < f → ∀ M mo, Sm [118] [117] M0 M → (∀ x, x < q → x < k → FD (pG P) nb gd (n + 1) x (mI M 118 x)) → (∀ x, x < q → k ≤ x → FD (pG P) nb gd n x (mI M 118 x)) → (mo = true ↔ ∃ x, x < k ∧ lst (pG P) nb gd n x) →
    ∃ M' mo', (∀ K49, LP5 (f12_layFar_b57_body K49) f M 86 (bI mo) (nI n) (nI k) = K49 M' 86 (bI mo') (nI (n + 1))) ∧ Sm [118] [117] M0 M' ∧ (∀ x, x < q → FD (pG P) nb gd (n + 1) x (mI M' 118 x)) ∧ (mo' = true ↔ ∃ x, x < q ∧ lst (pG P) nb gd n x)
  | 0, k, hk, f + 1, _, M, mo, s, hr, hr', hm => by
    obtain ⟨w, sg, r52, nd⟩ := nx.2.2 M s
    have q7 := nx.1
    have e : k = q := by omega
    rw [e] at hr hm ⊢
    refine ⟨M, mo, fun K49 => ?_, s, fun x hx => hr x hx hx, hm⟩
    rw [LP5_s]
    generalize LP5 (f12_layFar_b57_body K49) f = K
    unfold f12_layFar_b57_body
    rw [aO_86 w, r52, if_pos (nI_le (Nat.le_refl _) (by omega)), nI_1]
  | d + 1, k, hk, f + 1, hf, M, mo, s, hr, hr', hm => by
    obtain ⟨w, sg, r52, nd⟩ := nx.2.2 M s
    have q7 := nx.1
    have g6 := hp.2.1
    have kq : k < q := by omega
    have head : ∀ K49, LP5 (f12_layFar_b57_body K49) (f + 1) M 86 (bI mo) (nI n) (nI k) = f12_layFar_b68 (LP5 (f12_layFar_b57_body K49) f) M 86 (bI mo) (nI n) (nI k) 0 := fun K49 => by
      rw [LP5_s]
      generalize LP5 (f12_layFar_b57_body K49) f = K
      unfold f12_layFar_b57_body
      rw [aO_86 w, r52, if_neg (nI_ge kq (by omega))]
    have fk := hr' k kq (Nat.le_refl _)
    -- with the cell told before
    have next : ∀ (M1 : MM) (mo1 : Bool), Sm [118] [117] M0 M1 → (∀ x, x ≠ k → mI M1 118 x = mI M 118 x) → FD (pG P) nb gd (n + 1) k (mI M1 118 k) → (mo1 = true ↔ ∃ x, x < k + 1 ∧ lst (pG P) nb gd n x) → ∃ M' mo', (∀ K49, LP5 (f12_layFar_b57_body K49) f M1 86 (bI mo1) (nI n) (nI (k + 1)) = K49 M' 86 (bI mo') (nI (n + 1))) ∧ Sm [118] [117] M0 M' ∧ (∀ x, x < q → FD (pG P) nb gd (n + 1) x (mI M' 118 x)) ∧ (mo' = true ↔ ∃ x, x < q ∧ lst (pG P) nb gd n x) := fun M1 mo1 s1 h1 h2 h3 => LM_lf57 hp nx hn1 hn d (k + 1) (by omega) f (by omega) M1 mo1 s1 (fun x hx hk' => by
        by_cases e : x = k
        · rw [e]
          exact h2
        · rw [h1 x e]
          exact hr x hx (by omega)) (fun x hx hk' => by
        rw [h1 x (by omega)]
        exact hr' x hx (by omega)) h3
    rcases fk with ⟨i, hi, li, e⟩ | ⟨no, e⟩
    · -- told
      have q1 : ∀ K57, f12_layFar_b68 K57 M 86 (bI mo) (nI n) (nI k) 0 = K57 M 86 (bI mo) (nI n) (nI (k + 1)) := fun K57 => by
        obtain ⟨m, hm⟩ : ∃ m, FU = m + 1 := ⟨FU - 1, by have : (8 : Nat) < FU := FU_big (by omega); omega⟩
        unfold f12_layFar_b68
        rw [hm, LP6_s]
        generalize LP6 (f12_layFar_b68_body K57) m = K
        unfold f12_layFar_b68_body f12_layFar_b133
        rw [aO_86 w, sg, cI_some, aO_86 w, r_86_54 w, aA_118 w (by omega), nI_clamp (by omega), e, if_pos (show (0 : Int32) ≤ nI i from nI_le (Nat.zero_le _) (by omega)), nI_1, ite_self]
      obtain ⟨M', mo', k1, k2⟩ := next M mo s (fun _ _ => rfl) (.inl ⟨i, by omega, li, e⟩) (by
        rw [hm]
        refine ⟨fun ⟨x, hx, lx⟩ => ⟨x, by omega, lx⟩, fun ⟨x, hx, lx⟩ => ⟨x, ?_, lx⟩⟩
        by_cases c : x = k
        · rw [c] at lx
          have := lst_uniq li lx
          omega
        · omega)
      exact ⟨M', mo', fun K49 => by rw [head, q1, k1], k2⟩
    · have iff1 : lst (pG P) nb gd n k ↔ ∃ g, g < pG P ∧ lst (pG P) nb gd (n - 1) (nb k g) := by
        constructor
        · intro l
          rw [show n = n - 1 + 1 by omega] at l
          exact lst_nb l
        · rintro ⟨g, hg, l⟩
          refine ⟨?_, no⟩
          rw [show n = n - 1 + 1 by omega]
          exact any_in hg l.1
      have two := fun K57 => LM_lf68 hp nx hn1 hn kq K57 s hr hr' e (pG P) 0 (by omega) FU (FU_big (by omega)) mo (fun g hg => absurd hg (Nat.not_lt_zero _))
      by_cases c : lst (pG P) nb gd n k
      · obtain ⟨M', mo', k1, k2⟩ := next (uI M 118 (upx (mI M 118) k (nI n))) true (s.uI _ (by decide)) (fun x hx => by rw [mI_uI, if_pos rfl, upx_e, if_neg hx]) (by
          rw [mI_uI, if_pos rfl, upx_e, if_pos rfl]
          exact .inl ⟨n, by omega, c, rfl⟩) ⟨fun _ => ⟨k, by omega, c⟩, fun _ => rfl⟩
        refine ⟨M', mo', fun K49 => ?_, k2⟩
        rw [head, ← k1 K49]
        rcases two (LP5 (f12_layFar_b57_body K49) f) with ⟨M1, z1, z2, -⟩ | ⟨-, z2⟩
        · rw [← z2]
          exact z1
        · obtain ⟨g, hg, l⟩ := iff1.mp c
          exact absurd l (z2 g hg)
      · obtain ⟨M', mo', k1, k2⟩ := next M mo s (fun _ _ => rfl) (.inr ⟨fun i hi => by
          by_cases ei : i = n
          · rw [ei, ← Bool.not_eq_true]
            exact fun z => c ⟨z, no⟩
          · exact no i (by omega), e⟩) (by
          rw [hm]
          refine ⟨fun ⟨x, hx, lx⟩ => ⟨x, by omega, lx⟩, fun ⟨x, hx, lx⟩ => ⟨x, ?_, lx⟩⟩
          by_cases cx : x = k
          · rw [cx] at lx
            exact absurd lx c
          · omega)
        refine ⟨M', mo', fun K49 => ?_, k2⟩
        rw [head, ← k1 K49]
        rcases two (LP5 (f12_layFar_b57_body K49) f) with ⟨M1, -, -, z3⟩ | ⟨z1, -⟩
        · exact absurd (iff1.mpr z3) c
        · exact z1
/-- all that can be told of how far a good node is -/
def FA0 (G : Nat) (nb : Nat → Nat → Nat) (gd : Nat → Bool) (k : Nat) (x : Int32) : Prop := (∃ i, i < 7300 ∧ lst G nb gd i k ∧ x = nI i) ∨ ((∀ i, rdB G nb gd i k = false) ∧ x = -1)
theorem lst_none {G q : Nat} {nb : Nat → Nat → Nat} {gd : Nat → Bool} (hnb : ∀ k g, k < q → g < G → nb k g < q) {n : Nat} (h : ∀ x, x < q → ¬ lst G nb gd n x) : ∀ i, ∀ x, x < q → ¬ lst G nb gd (n + i) x
  | 0, x, hx => h x hx
  | i + 1, x, hx => fun l => by
    obtain ⟨g, hg, l'⟩ := lst_nb l
    exact lst_none hnb h i _ (hnb x g hx hg) l'
theorem rd_lst {G : Nat} {nb : Nat → Nat → Nat} {gd : Nat → Bool} {k : Nat} : ∀ i, rdB G nb gd i k = true → ∃ j, j ≤ i ∧ lst G nb gd j k := by
  intro i
  induction i using Nat.strongRecOn with
  | _ i ih =>
    intro h
    by_cases c : ∃ j, j < i ∧ rdB G nb gd j k = true
    · obtain ⟨j, hj, q⟩ := c
      obtain ⟨j', a, b⟩ := ih j hj q
      exact ⟨j', by omega, b⟩
    · exact ⟨i, Nat.le_refl _, h, fun i' hi => by
        rw [← Bool.not_eq_true]
        exact fun z => c ⟨i', hi, z⟩⟩
theorem FD.all {G q n k : Nat} {nb : Nat → Nat → Nat} {gd : Nat → Bool} (hnb : ∀ k g, k < q → g < G → nb k g < q) (hn : n ≤ 7300) (hk : k < q) {x : Int32} (h : FD G nb gd n k x) (hl : ∀ x, x < q → ¬ lst G nb gd n x) : FA0 G nb gd k x := by
  rcases h with ⟨i, hi, l, e⟩ | ⟨no, e⟩
  · exact .inl ⟨i, by omega, l, e⟩
  · refine .inr ⟨fun i => ?_, e⟩
    rw [← Bool.not_eq_true]
    intro z
    obtain ⟨j, hj, l⟩ := rd_lst i z
    by_cases c : j < n
    · have := no j c
      rw [l.1] at this
      cases this
    · have := lst_none hnb hl (j - n) k hk
      rw [show n + (j - n) = j by omega] at this
      exact this l
theorem LM_lf49 {M0 : MM} (hp : WP P) {q : Nat} {nb : Nat → Nat → Nat} {gd : Nat → Bool} (nx : NDX M0 P q nb gd) : ∀ (d n : Nat), n + d = 7300 → ∀ f, d < f → ∀ M, Sm [118] [117] M0 M → 1 ≤ n → (∀ x, x < q → FD (pG P) nb gd n x (mI M 118 x)) → (∀ i, i < n → ∃ x, x < q ∧ lst (pG P) nb gd i x) ∨ n = 1 →
    ∃ M', LP4 f12_layFar_b49_body (f + 1) M 86 1 (nI n) = some M' ∧ Sm [118] [117] M0 M' ∧ ∀ x, x < q → FA0 (pG P) nb gd x (mI M' 118 x)
  | d, n, hd, 0, hf, _, _, _, _, _ => absurd hf (Nat.not_lt_zero _)
  | d, n, hd, f + 1, hf, M, s, h1, hr, hex => by
    have q7 := nx.1
    have nq : n ≤ 7204 := by
      rcases hex with hex | hex
      · have : n ≤ q := inj_le q n (fun i => if z : i < n then (hex i z).choose else 0) (fun i hi => by
          show (if z : i < n then (hex i z).choose else 0) < q
          rw [dif_pos hi]
          exact (hex i hi).choose_spec.1) (fun i j hi hj e => by
          have e' : (if z : i < n then (hex i z).choose else 0) = (if z : j < n then (hex j z).choose else 0) := e
          rw [dif_pos hi, dif_pos hj] at e'
          have a := (hex i hi).choose_spec.2
          rw [e'] at a
          exact lst_uniq a (hex j hj).choose_spec.2)
        omega
      · omega
    obtain ⟨M1, mo, k1, k2, k3, k4⟩ := LM_lf57 hp nx h1 (show n ≤ 7300 by omega) q 0 (by omega) FU (FU_big (by omega)) M false s (fun x _ hx => absurd hx (Nat.not_lt_zero _)) (fun x hx _ => hr x hx) ⟨(fun z => by cases z), fun ⟨x, hx, _⟩ => absurd hx (Nat.not_lt_zero _)⟩
    have head : LP4 f12_layFar_b49_body (f + 1 + 1) M 86 1 (nI n) = LP4 f12_layFar_b49_body (f + 1) M1 86 (bI mo) (nI (n + 1)) := by
      rw [← k1 (LP4 f12_layFar_b49_body (f + 1)), LP4_s]
      generalize LP4 f12_layFar_b49_body (f + 1) = K
      unfold f12_layFar_b49_body
      rw [if_neg (by decide)]
      rfl
    rw [head]
    cases mo with
    | false =>
      refine ⟨M1, ?_, k2, fun x hx => (k3 x hx).all (n := n + 1) nx.2.1 (by omega) hx (fun y hy l => ?_)⟩
      · rw [LP4_s]
        generalize LP4 f12_layFar_b49_body f = K
        unfold f12_layFar_b49_body
        rw [bI_f, if_pos rfl]
      · obtain ⟨g, hg, l'⟩ := lst_nb l
        have := k4.mpr ⟨_, nx.2.1 y g hy hg, l'⟩
        cases this
    | true =>
      obtain ⟨x, hx, l⟩ := k4.mp rfl
      obtain ⟨e, he⟩ : ∃ e, n + 1 + e = 7300 := ⟨7300 - (n + 1), by omega⟩
      have down : ∀ i j y, y < q → lst (pG P) nb gd (j + i) y → ∃ x, x < q ∧ lst (pG P) nb gd j x := by
        intro i
        induction i with
        | zero => exact fun j y hy l => ⟨y, hy, l⟩
        | succ i ih =>
          intro j y hy l
          obtain ⟨g, hg, l'⟩ := lst_nb l
          exact ih j _ (nx.2.1 y g hy hg) l'
      exact LM_lf49 hp nx e (n + 1) he f (by omega) M1 k2 (by omega) k3 (.inl (fun i hi => down (n - i) i x hx (by rw [show i + (n - i) = n by omega]; exact l)))
theorem LM_lf2 {M0 : MM} (hp : WP P) {q : Nat} {nb : Nat → Nat → Nat} {gd : Nat → Bool} (nx : NDX M0 P q nb gd) : ∀ (d k : Nat), k + d = q → ∀ f, d < f → ∀ M, Sm [118] [117] M0 M → (∀ x, x < k → FD (pG P) nb gd 1 x (mI M 118 x)) →
    ∃ M', LP3 f12_layFar_b2_body f M 86 (nI k) = f12_layFar_b49 M' 86 1 1 ∧ Sm [118] [117] M0 M' ∧ ∀ x, x < q → FD (pG P) nb gd 1 x (mI M' 118 x)
  | 0, k, hk, f + 1, _, M, s, h => by
    obtain ⟨w, sg, r52, nd⟩ := nx.2.2 M s
    have q7 := nx.1
    have e : k = q := by omega
    rw [e] at h ⊢
    refine ⟨M, ?_, s, h⟩
    rw [LP3_s]
    generalize LP3 f12_layFar_b2_body f = K
    unfold f12_layFar_b2_body
    rw [aO_86 w, r52, if_pos (nI_le (Nat.le_refl _) (by omega))]
  | d + 1, k, hk, f + 1, hf, M, s, h => by
    obtain ⟨w, sg, r52, nd⟩ := nx.2.2 M s
    have q7 := nx.1
    have kq : k < q := by omega
    obtain ⟨ok, ss, ok1, ok2, ok3, ok4, -⟩ := nd k kq
    obtain ⟨v, hv⟩ : ∃ v : Int32, v = if gd k = true then 0 else -1 := ⟨_, rfl⟩
    obtain ⟨M', k1, k2⟩ := LM_lf2 hp nx d (k + 1) (by omega) f (by omega) (uI M 118 (upx (mI M 118) k v)) (s.uI _ (by decide)) (fun x hx => by
      rw [mI_uI, if_pos rfl, upx_e]
      by_cases e : x = k
      · rw [if_pos e, e, hv]
        by_cases c : gd k = true
        · rw [if_pos c]
          exact .inl ⟨0, by omega, ⟨c, fun i hi => absurd hi (Nat.not_lt_zero _)⟩, rfl⟩
        · rw [if_neg c]
          rw [Bool.not_eq_true] at c
          exact .inr ⟨fun i hi => by rw [show i = 0 by omega]; exact c, rfl⟩
      · rw [if_neg e]
        exact h x (by omega))
    refine ⟨M', ?_, k2⟩
    rw [← k1, LP3_s]
    generalize LP3 f12_layFar_b2_body f = K
    unfold f12_layFar_b2_body f12_layFar_b38
    rw [aO_86 w, r52, if_neg (nI_ge kq (by omega)), aO_86 w, aO_86 w, aO_86 w, r_86_50 w, aA_115 w (by omega), r_86_43 w, nI_clamp (by omega), ok2, aA_111 w (by omega), aO_86 w, nI_clamp (by omega), ok3, ok4, cI_some, r_86_54 w, aA_118 w (by omega), bM_e, sI_e, aA_118 w (by omega), bM_e, sI_e, nI_1, hv]
    simp only [bI_0]
    cases gd k
    · rw [if_pos rfl, if_neg (by decide)]
    · rw [if_neg (by decide), if_pos rfl]
theorem SM_layFar {M : MM} (hp : WP P) {q : Nat} {nb : Nat → Nat → Nat} {gd : Nat → Bool} (nx : NDX M P q nb gd) : ∃ M', f12_layFar M 86 = some M' ∧ Sm [118] [117] M M' ∧ ∀ x, x < q → FA0 (pG P) nb gd x (mI M' 118 x) := by
  have q7 := nx.1
  obtain ⟨M1, a1, a2, a3⟩ := LM_lf2 hp nx q 0 (by omega) FU (FU_big (by omega)) M (Sm.rfl _ _ _) (fun x hx => absurd hx (Nat.not_lt_zero _))
  obtain ⟨f, hf⟩ : ∃ f, FU = f + 1 := ⟨FU - 1, by have : (8 : Nat) < FU := FU_big (by omega); omega⟩
  obtain ⟨M', b1, b2, b3⟩ := LM_lf49 hp nx 7299 1 (by omega) f (by have : (7301 : Nat) < FU := FU_big (by omega); omega) M1 a2 (Nat.le_refl _) a3 (.inr rfl)
  refine ⟨M', a1.trans ?_, b2, b3⟩
  rw [← b1, ← hf]
  rfl
end FARM2
