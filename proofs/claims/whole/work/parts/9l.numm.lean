/-! MACHINES: numbers of nodes, at the reference -/
section NUMM
variable {P : PG} {o : Nat}
def NO (M : MM) (n m : Nat) (K os : Nat → Nat) (q : Nat) : Prop := mI M 86 52 = nI q ∧ (∀ k, k < q → mI M 115 k = nI (os k) ∧ os k < n) ∧ (∀ a b, a < q → b < q → K (os a) = K (os b) → a = b) ∧ ∀ x, x < m → (mI M 116 x = -1 ∧ ∀ k, k < q → K (os k) ≠ x) ∨ ∃ k, k < q ∧ mI M 116 x = nI k ∧ K (os k) = x
theorem NO.le {M : MM} {n m : Nat} {K os : Nat → Nat} {q : Nat} (h : NO M n m K os q) (hK : ∀ i, i < n → K i < m) : q ≤ m := inj_le m q (fun k => K (os k)) (fun k hk => hK _ (h.2.1 k hk).2) h.2.2.1
theorem NO.sm {M M' : MM} {n m : Nat} {K os : Nat → Nat} {q : Nat} (h : NO M n m K os q) {Is Js : List Nat} (s : Sm Is Js M M') (h52 : mI M' 86 52 = mI M 86 52) (hi : avd [115, 116] Is = true) : NO M' n m K os q := by
  unfold NO at *
  rw [h52, s.i 115 (avd_n hi (by decide)), s.i 116 (avd_n hi (by decide))]
  exact h
theorem SM_nodeOld {M : MM} (w : Wl M) {n m : Nat} {K os : Nat → Nat} {q : Nat} (h : NO M n m K os q) (pk : PK M 113 n K) (hn : n ≤ 7203) (hm : m ≤ n) (hK : ∀ i, i < n → K i < m) {i k : Nat} (hi : i < n) (hk : k < q) (e : K (os k) = K i) : f12_nodeFor M 86 (nI i) = some (nI k, M) := by
  have hq := h.le hK
  have Ki := hK i hi
  have cell : mI M 116 (K i) = nI k := by
    rcases h.2.2.2 (K i) Ki with ⟨-, no⟩ | ⟨k', a, b, c⟩
    · exact absurd e (no k hk)
    · rw [b, h.2.2.1 k' k a hk (c.trans e.symm)]
  unfold f12_nodeFor f12_nodeFor_b46
  rw [aO_86 w, r_86_45 w, aA_113 w (by omega), nI_clamp (by omega), (pk i hi).1, bW_e, aO_86 w, r_86_51 w, aA_116 w (by omega), nI_clamp (by omega), cell, if_pos (show (0 : Int32) ≤ nI k from nI_le (Nat.zero_le _) (by omega)), aO_86 w, aA_116 w (by omega)]
theorem SM_nodeFor {M : MM} (w : Wl M) {n m : Nat} {K os : Nat → Nat} {q : Nat} (h : NO M n m K os q) (pk : PK M 113 n K) (hn : n ≤ 7203) (hm : m ≤ n) (hK : ∀ i, i < n → K i < m) {i : Nat} (hi : i < n) :
    ∃ M' q' os' k, f12_nodeFor M 86 (nI i) = some (nI k, M') ∧ Sm [86, 115, 116] [] M M' ∧ (∀ x, x ≠ 52 → mI M' 86 x = mI M 86 x) ∧ NO M' n m K os' q' ∧ (∀ j, j < q → os' j = os j) ∧ k < q' ∧ K (os' k) = K i ∧ (q' = q ∨ (q' = q + 1 ∧ k = q ∧ os' q = i)) := by
  have hq := h.le hK
  have Ki := hK i hi
  obtain ⟨h1, h2, h3, h4⟩ := id h
  rcases h4 (K i) Ki with ⟨c1, no⟩ | ⟨k, a, b, c⟩
  · have q1 : q + 1 ≤ m := inj_le m (q + 1) (fun k => if k < q then K (os k) else K i) (fun k hk => by
      show (if k < q then K (os k) else K i) < m
      split
      · next z => exact hK _ (h2 k z).2
      · exact Ki) (fun a b ha hb e => by
      have e' : (if a < q then K (os a) else K i) = (if b < q then K (os b) else K i) := e
      split at e'
      · next z =>
        split at e'
        · next z' => exact h3 a b z z' e'
        · exact absurd e' (no a z)
      · split at e'
        · next z' => exact absurd e'.symm (no b z')
        · omega)
    obtain ⟨M1, hM1⟩ : ∃ M1, M1 = uI M 116 (upx (mI M 116) (K i) (nI q)) := ⟨_, rfl⟩
    obtain ⟨M2, hM2⟩ : ∃ M2, M2 = uI M1 115 (upx (mI M1 115) q (nI i)) := ⟨_, rfl⟩
    obtain ⟨M3, hM3⟩ : ∃ M3, M3 = sI M2 86 52 (nI (q + 1)) := ⟨_, rfl⟩
    have s1 : Sm [86, 115, 116] [] M M1 := by rw [hM1]; exact (Sm.rfl _ _ M).uI _ (by decide)
    have s2 : Sm [86, 115, 116] [] M M2 := by rw [hM2]; exact s1.uI _ (by decide)
    have s3 : Sm [86, 115, 116] [] M M3 := by rw [hM3, sI_e]; exact s2.uI _ (by decide)
    have w1 := w.sm s1
    have w2 := w.sm s2
    have w3 := w.sm s3
    have r1 : mI M1 86 = mI M 86 := by rw [hM1, mI_uI, if_neg (by decide)]
    have r2 : mI M2 86 = mI M 86 := by rw [hM2, mI_uI, if_neg (by decide), r1]
    have r115 : mI M3 115 = upx (mI M 115) q (nI i) := by rw [hM3, sI_e, mI_uI, if_neg (by decide), hM2, mI_uI, if_pos rfl, hM1, mI_uI, if_neg (by decide)]
    have r116 : mI M3 116 = upx (mI M 116) (K i) (nI q) := by rw [hM3, sI_e, mI_uI, if_neg (by decide), hM2, mI_uI, if_neg (by decide), hM1, mI_uI, if_pos rfl]
    have off : ∀ j, j < q → upx os q i j = os j := fun j hj => by rw [upx_e, if_neg (by omega)]
    have on : upx os q i q = i := by rw [upx_e, if_pos rfl]
    refine ⟨M3, q + 1, upx os q i, q, ?_, s3, fun x hx => ?_, ⟨?_, fun k hk => ?_, fun a b ha hb e => ?_, fun x hx => ?_⟩, off, by omega, by rw [on], .inr ⟨rfl, rfl, on⟩⟩
    · unfold f12_nodeFor f12_nodeFor_b46
      rw [aO_86 w, r_86_45 w, aA_113 w (by omega), nI_clamp (by omega), (pk i hi).1, bW_e, aO_86 w, r_86_51 w, aA_116 w (by omega), nI_clamp (by omega), c1, if_neg (by decide), aO_86 w, aO_86 w, aA_116 w (by omega), h1, bM_e, sI_e, ← hM1, aO_86 w1, aO_86 w1, r_86_50 w1, r1, h1, aA_115 w1 (by omega), nI_clamp (by omega), bM_e, sI_e, ← hM2, aO_86 w2, aO_86 w2, r2, h1, nI_1, bM_e, ← hM3, aO_86 w3, r_86_51 w3, aA_116 w3 (by omega), r116, upx_e, if_pos rfl]
    · rw [hM3, mI_sI, if_neg (fun z => hx z.2), r2]
    · rw [hM3, mI_sI, if_pos ⟨rfl, rfl⟩]
    · rw [r115, upx_e]
      by_cases e : k = q
      · rw [if_pos e, e, on]
        exact ⟨rfl, hi⟩
      · rw [if_neg e, off k (by omega)]
        exact h2 k (by omega)
    · by_cases ca : a = q
      · by_cases cb : b = q
        · omega
        · rw [ca, on, off b (by omega)] at e
          exact absurd e.symm (no b (by omega))
      · by_cases cb : b = q
        · rw [cb, on, off a (by omega)] at e
          exact absurd e (no a (by omega))
        · rw [off a (by omega), off b (by omega)] at e
          exact h3 a b (by omega) (by omega) e
    · rw [r116, upx_e]
      by_cases e : x = K i
      · rw [if_pos e]
        exact .inr ⟨q, by omega, rfl, by rw [on, e]⟩
      · rw [if_neg e]
        rcases h4 x hx with ⟨y1, y2⟩ | ⟨k, y1, y2, y3⟩
        · refine .inl ⟨y1, fun k hk => ?_⟩
          by_cases c : k = q
          · rw [c, on]
            exact fun z => e z.symm
          · rw [off k (by omega)]
            exact y2 k (by omega)
        · exact .inr ⟨k, by omega, y2, by rw [off k y1]; exact y3⟩
  · exact ⟨M, q, os, k, SM_nodeOld w h pk hn hm hK hi a c, Sm.rfl _ _ M, fun _ _ => rfl, h, fun _ _ => rfl, a, c, .inl rfl⟩
/-- what was found so far -/
def SC (G : Nat) (t : Nat → Nat → Nat) (K os : Nat → Nat) (q c : Nat) (v : Nat → Nat) : Prop := (∀ c0, c0 < c → v c0 < q ∧ K (os (v c0)) = K (t (os (c0 / G)) (c0 % G)) ∧ v c0 ≤ mvN v c0 + 1) ∧ q = mvN v c + 1
theorem mvN_cg {v v' : Nat → Nat} : ∀ c, (∀ i, i < c → v i = v' i) → mvN v c = mvN v' c
  | 0, _ => rfl
  | c + 1, h => by
    show max _ _ = max _ _
    rw [mvN_cg c (fun i hi => h i (by omega)), h c (by omega)]
theorem SC.next {G : Nat} {t : Nat → Nat → Nat} {K os os' : Nat → Nat} {q q' c x : Nat} {v : Nat → Nat} (h : SC G t K os q c v) (ho : ∀ j, j < q → os' j = os j) (hc : ∀ c0, c0 ≤ c → c0 / G < q) (hx : x < q') (he : K (os' x) = K (t (os (c / G)) (c % G))) (hq : q' = q ∨ (q' = q + 1 ∧ x = q)) : SC G t K os' q' (c + 1) (upx v c x) := by
  obtain ⟨h1, h2⟩ := h
  have off : ∀ i, i < c → upx v c x i = v i := fun i hi => by rw [upx_e, if_neg (by omega)]
  have on : upx v c x c = x := by rw [upx_e, if_pos rfl]
  have m0 : ∀ c0, c0 ≤ c → mvN (upx v c x) c0 = mvN v c0 := fun c0 h0 => mvN_cg c0 (fun i hi => off i (by omega))
  refine ⟨fun c0 h0 => ?_, ?_⟩
  · rw [m0 c0 (by omega), ho _ (hc c0 (by omega))]
    by_cases e : c0 = c
    · rw [e, on]
      exact ⟨hx, he, by omega⟩
    · rw [off c0 (by omega)]
      obtain ⟨a, b, d⟩ := h1 c0 (by omega)
      rw [ho _ a]
      exact ⟨by omega, b, d⟩
  · show q' = max (mvN (upx v c x) c) (upx v c x c) + 1
    rw [m0 c (Nat.le_refl _), on]
    omega
theorem LM_ly50 {M0 : MM} (w0 : Wl M0) (pg0 : PgM M0 P o) (hp : WP P) {n m : Nat} {t : Nat → Nat → Nat} {K : Nat → Nat} (mt0 : MT M0 P n t) (pk0 : PK M0 113 n K) (hm : m ≤ n) (hK : ∀ i, i < n → K i < m) {k : Nat} : ∀ (d j : Nat), j + d = pG P → ∀ f, d < f → ∀ M os q v, Sm [86, 115, 116] [] M0 M → (∀ x, x ≠ 52 → mI M 86 x = mI M0 86 x) → NO M n m K os q → k < q → SC (pG P) t K os q (pG P * k + j) v →
    ∃ M' os' q' v', (∀ K40, LP4 (f12_layMachine_b50_body K40) f M 86 (nI k) (nI j) = K40 M' 86 (nI (k + 1))) ∧ Sm [86, 115, 116] [] M0 M' ∧ (∀ x, x ≠ 52 → mI M' 86 x = mI M0 86 x) ∧ NO M' n m K os' q' ∧ k < q' ∧ os' 0 = os 0 ∧ SC (pG P) t K os' q' (pG P * (k + 1)) v' ∧ ∀ i, i < pG P * k + j → v' i = v i
  | 0, j, hj, f + 1, _, M, os, q, v, s, fl, no, hk, sc => by
    have w := w0.sm s
    have pg : PgM M P o := pg0.sm s (fl 5 (by decide)) (by decide) (by decide) (by decide)
    have g6 := hp.2.1
    have e : j = pG P := by omega
    rw [e, ← Nat.mul_succ] at sc
    rw [e]
    refine ⟨M, os, q, v, fun K40 => ?_, s, fl, no, hk, rfl, sc, fun _ _ => rfl⟩
    rw [LP4_s]
    generalize LP4 (f12_layMachine_b50_body K40) f = K1
    unfold f12_layMachine_b50_body
    rw [aO_86 w, SM_signs w pg, cI_some, if_pos (nI_le (Nat.le_refl _) (by omega)), nI_1]
  | d + 1, j, hj, f + 1, hf, M, os, q, v, s, fl, no, hk, sc => by
    have w := w0.sm s
    have pg : PgM M P o := pg0.sm s (fl 5 (by decide)) (by decide) (by decide) (by decide)
    have mt : MT M P n t := mt0.sm s (fl 47 (by decide)) (by decide)
    have pk : PK M 113 n K := pk0.sm s (by decide)
    have g6 := hp.2.1
    have le := mt.2.1
    have hq := no.le hK
    obtain ⟨o1, o2⟩ := no.2.1 k hk
    obtain ⟨t1, t2⟩ := mt.2.2 (os k) j o2 (by omega)
    obtain ⟨M1, q1, os1, x, a1, a2, a3, a4, a5, a6, a7, a8⟩ := SM_nodeFor w no pk le hm hK t2
    have w1 := w.sm a2
    have hG : 0 < pG P := by omega
    have dv : (pG P * k + j) / pG P = k := by rw [Nat.mul_add_div hG, Nat.div_eq_of_lt (by omega), Nat.add_zero]
    have md : (pG P * k + j) % pG P = j := by rw [Nat.mul_add_mod, Nat.mod_eq_of_lt (by omega)]
    have sc1 := sc.next a5 (fun c0 h0 => Nat.lt_of_le_of_lt (Nat.le_trans (Nat.div_le_div_right h0) (Nat.le_of_eq dv)) hk) a6 (by rw [dv, md]; exact a7) (a8.imp id (fun z => ⟨z.1, z.2.1⟩))
    obtain ⟨M', os', q', v', k1, k2, k3, k4, k5, k6, k7, k8⟩ := LM_ly50 w0 pg0 hp mt0 pk0 hm hK (k := k) d (j + 1) (by omega) f (by omega) M1 os1 q1 _ (s.trans a2) (fun y hy => (a3 y hy).trans (fl y hy)) a4 (by omega) sc1
    refine ⟨M', os', q', v', fun K40 => ?_, k2, k3, k4, k5, k6.trans (a5 0 (by omega)), k7, fun i hi => by rw [k8 i (by omega), upx_e, if_neg (by omega)]⟩
    rw [← k1 K40, LP4_s]
    generalize LP4 (f12_layMachine_b50_body K40) f = K1
    unfold f12_layMachine_b50_body
    rw [aO_86 w, SM_signs w pg, cI_some, if_neg (nI_ge (by omega) (by omega)), aO_86 w, aO_86 w, r_86_50 w, aA_115 w (by omega), r_86_44 w, nI_clamp (by omega), o1, lit_6, nI_mulN, nI_add, aA_112 w (by omega), aO_86 w, nI_clamp (by omega), t1, a1, cI_some, nI_1]
end NUMM
