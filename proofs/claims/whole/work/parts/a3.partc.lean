/-! MACHINES: kinds parted at the class -/
section PARTC
variable {P : PG} {o : Nat} {E R : Nat → Nat}
theorem TC.sm2 {M M' : MM} {ar : Nat → Nat} {d n : Nat} {S : Nat → Nat} {t : Nat → Nat → Nat} (h : TC M ar d P E n S t) {b1 b2 b3 : Nat} (s : Sm [65, ar b1, ar b2, ar b3] [] M M') (h1 : b1 ∈ dI) (h2 : b2 ∈ dI) (h3 : b3 ∈ dI) (n1 : b1 ≠ 66 ∧ b1 ≠ 70) (n2 : b2 ≠ 66 ∧ b2 ≠ 70) (n3 : b3 ≠ 66 ∧ b3 ≠ 70) : TC M' ar d P E n S t ∧ mI M' 61 = mI M 61 := by
  have ly := h.1
  have e61 : mI M' 61 = mI M 61 := s.i 61 (by
    have a1 := ly.nf h1 (a := 61) (by decide) (by decide)
    have a2 := ly.nf h2 (a := 61) (by decide) (by decide)
    have a3 := ly.nf h3 (a := 61) (by decide) (by decide)
    simp only [List.mem_cons, List.not_mem_nil, or_false]
    omega)
  refine ⟨h.sm s (fun k _ => by rw [e61]) ?_ ?_, e61⟩
  · have a0 := ly.nf (b := 66) (by decide) (a := 65) (by decide) (by decide)
    have a1 := ly.ne h1 (b' := 66) (by decide) n1.1
    have a2 := ly.ne h2 (b' := 66) (by decide) n2.1
    have a3 := ly.ne h3 (b' := 66) (by decide) n3.1
    simp only [List.mem_cons, List.not_mem_nil, or_false]
    omega
  · have a0 := ly.nf (b := 70) (by decide) (a := 65) (by decide) (by decide)
    have a1 := ly.ne h1 (b' := 70) (by decide) n1.2
    have a2 := ly.ne h2 (b' := 70) (by decide) n2.2
    have a3 := ly.ne h3 (b' := 70) (by decide) n3.2
    simp only [List.mem_cons, List.not_mem_nil, or_false]
    omega
theorem L5_fa5 {M : MM} {ar : Nat → Nat} {d n : Nat} {S K : Nat → Nat} {t : Nat → Nat → Nat} (hp : WP P) (h : TC M ar d P E n S t) (pk : PKC M ar n K) {i : Nat} (hi : i < n) : ∀ (l : List Nat) (x : Int32) (seen : Nat), chn (mI M (ar 68)) x l → (∀ j, j ∈ l → j < i) → l.length + seen ≤ i → ∀ f, l.length < f → 
    (∃ j, j < i ∧ Rk1 (pG P) t K j i ∧ LP5 f5_findAlike_b5_body f M 61 (nI i) x (nI seen) = some (nI j, M)) ∨ ((∀ j, j ∈ l → ¬ Rk1 (pG P) t K j i) ∧ LP5 f5_findAlike_b5_body f M 61 (nI i) x (nI seen) = some (-1, M))
  | [], x, seen, hc, _, hl, f + 1, _ => by
    refine .inr ⟨(fun _ q => by cases q), ?_⟩
    have w := h.1.1.w
    rw [LP5_s]
    generalize LP5 f5_findAlike_b5_body f = K
    unfold f5_findAlike_b5_body
    rw [aO_61 w, h.2.1]
    by_cases c : nI n ≤ nI seen
    · rw [if_pos c]
    · rw [if_neg c, if_pos (show x = -1 from hc)]
  | j :: l, x, seen, hc, hj, hl, f + 1, hf => by
    have w := h.1.1.w
    have le := h.2.2.2.1
    have hr := h.2.2.1
    have ji := hj j (List.mem_cons_self ..)
    simp only [List.length_cons] at hl hf
    obtain ⟨r, r1, r2⟩ := S5_areAlike hp h pk hi (show j < n by omega)
    have l68 : j < ln d 68 := Nat.lt_of_lt_of_le (show j < n by omega) hr
    have st : LP5 f5_findAlike_b5_body (f + 1) M 61 (nI i) x (nI seen) = if r = true then some (nI j, M) else LP5 f5_findAlike_b5_body f M 61 (nI i) (mI M (ar 68) j) (nI (seen + 1)) := by
      rw [LP5_s, hc.1]
      generalize LP5 f5_findAlike_b5_body f = K
      unfold f5_findAlike_b5_body
      rw [aO_61 w, h.2.1, if_neg (nI_ge (by omega) (by omega)), if_neg (nI_neM (by omega)), aO_61 w, r1, cI_some]
      cases r with
      | false =>
        rw [if_pos (show bI false = 0 from rfl), if_neg (by decide), aO_61 w, r_61_3 w, h.1.oI (by decide), h.1.get (by decide) l68, cI_some, nI_1]
      | true =>
        rw [if_neg (show ¬ bI true = 0 by decide), if_pos rfl]
    by_cases c : r = true
    · exact .inl ⟨j, ji, (r2.mp c).sym, by rw [st, if_pos c]⟩
    · rw [st, if_neg c]
      rcases L5_fa5 hp h pk hi l (mI M (ar 68) j) (seen + 1) hc.2 (fun i hi => hj i (List.mem_cons_of_mem _ hi)) (by omega) f (by omega) with q | ⟨q, q'⟩
      · exact .inl q
      · exact .inr ⟨fun i hi => by
          rcases List.mem_cons.mp hi with e | e
          · rw [e]
            exact fun z => c (r2.mpr z.sym)
          · exact q i e, q'⟩
def swK (M : MM) (x y : Nat) : MM := sR (sR M 61 5 x) 61 6 y
theorem L5_pk12 {M0 : MM} {ar : Nat → Nat} {d n : Nat} {S K : Nat → Nat} {t : Nat → Nat → Nat} (hp : WP P) (h0 : TC M0 ar d P E n S t) (pk0 : PKC M0 ar n K) {fo ko : Nat} (hfo : mR M0 61 6 = fo) (hko : mR M0 61 5 = ko) : ∀ (e k : Nat), k + e = n → ∀ f, e < f → ∀ M K' m A, Sm [65, ar 68, ar fo, ar fo] [] M0 M → (∀ i, i < k → mI M (ar fo) i = nI (K' i)) → PtI (pG P) t K K' k m → CHN (mI M 65) (mI M (ar 68)) k A (fun i => bkt (mixN (pG P) t K i)) → (∀ i, i < k → ∃ j, j < k ∧ A j ∧ Rk1 (pG P) t K j i) → (∀ i, A i → i < k) →
    ∃ M' K' m', LP4 f5_partKinds_b12_body f M 61 (nI m) (nI k) = some (nI m', swK M' fo ko) ∧ Sm [65, ar 68, ar fo, ar fo] [] M0 M' ∧ (∀ i, i < n → mI M' (ar fo) i = nI (K' i)) ∧ PtI (pG P) t K K' n m'
  | 0, k, he, f + 1, _, M, K', m, A, s, hK, pt, ch, cov, hA => by
    obtain ⟨-, o2, o3, -, -, -, o4, o5, o6, -, o7⟩ := h0.1.k5
    rw [hfo] at o2 o3 o4 o5 o6 o7
    obtain ⟨tc, e61⟩ := h0.sm2 s (by decide) o2 o2 (by decide) ⟨o4, o5⟩ ⟨o4, o5⟩
    have w := tc.1.1.w
    have e : k = n := by omega
    rw [e] at hK pt ⊢
    refine ⟨M, K', m, ?_, s, hK, pt⟩
    have w2 : Wl (sR M 61 5 fo) := by
      refine ⟨w.1, fun q hq => ?_⟩
      have : RRl.all (fun q => !(q.1 == 61 && (q.2.1 == 5 || q.2.1 == 6))) = true := by decide +kernel
      have := List.all_eq_true.mp this q hq
      rw [sR_e, mR_uR]
      by_cases c : q.1 = 61
      · rw [if_pos c, upx_e]
        by_cases c2 : q.2.1 = 5
        · rw [c, c2] at this
          exact absurd this (by decide)
        · rw [if_neg c2, ← c]
          exact w.2 q hq
      · rw [if_neg c]
        exact w.2 q hq
    rw [LP4_s]
    generalize LP4 f5_partKinds_b12_body f = K1
    unfold f5_partKinds_b12_body
    rw [aO_61 w, tc.2.1, if_pos (nI_le (Nat.le_refl _) (by have := h0.2.2.2.1; omega)), aO_61 w, bW_e, aO_61 w, aO_61 w, s.r, hfo, hko, bM_e, aO_61 w2, bM_e]
    rfl
  | e + 1, k, he, f + 1, hf, M, K', m, A, s, hK, pt, ch, cov, hA => by
    obtain ⟨k1, o2, o3, k4, k5, k6, o4, o5, o6, k7, o7⟩ := h0.1.k5
    rw [hfo] at o2 o3 o4 o5 o6 o7
    rw [hko] at k1 o3 k4 k5 k6 k7
    obtain ⟨tc, e61⟩ := h0.sm2 s (by decide) o2 o2 (by decide) ⟨o4, o5⟩ ⟨o4, o5⟩
    have ly := tc.1
    have w := ly.1.w
    have le := h0.2.2.2.1
    have hr := h0.2.2.1
    have rr := RMs_le ly.2.2
    have kn : k < n := by omega
    have mk : m ≤ k := by rw [pt.2.2]; exact cntB_le _ _
    have n65f : (65 : Nat) ≠ ar fo := ly.nf o2 (by decide) (by decide)
    have n658 : (65 : Nat) ≠ ar 68 := ly.nf (b := 68) (by decide) (by decide) (by decide)
    have n65k : (65 : Nat) ≠ ar ko := ly.nf k1 (by decide) (by decide)
    have nkf : ar ko ≠ ar fo := ly.ne k1 o2 o3
    have nk8 : ar ko ≠ ar 68 := ly.ne k1 (by decide) k6
    have nf8 : ar fo ≠ ar 68 := ly.ne o2 (by decide) o6
    have r5 : mR M 61 5 = ko := by rw [s.r]; exact hko
    have r6 : mR M 61 6 = fo := by rw [s.r]; exact hfo
    have pk : PKC M ar n K := fun i hi => by
      rw [r5, s.i (ar ko) (by simp only [List.mem_cons, List.not_mem_nil, or_false]; omega), ← hko]
      exact pk0 i hi
    obtain ⟨c, hc⟩ : ∃ c, c = bkt (mixN (pG P) t K k) := ⟨_, rfl⟩
    have c6 := bkt_lt (mixN (pG P) t K k)
    rw [← hc] at c6
    obtain ⟨l, c1, c2, c3, c4⟩ := ch c c6
    have fin : ∀ (M' : MM) (v m' : Nat) (A' : Nat → Prop), Sm [65, ar 68, ar fo, ar fo] [] M M' → mI M' (ar fo) = upx (mI M (ar fo)) k (nI v) → PtI (pG P) t K (upx K' k v) (k + 1) m' → CHN (mI M' 65) (mI M' (ar 68)) (k + 1) A' (fun i => bkt (mixN (pG P) t K i)) → (∀ i, i < k + 1 → ∃ j, j < k + 1 ∧ A' j ∧ Rk1 (pG P) t K j i) → (∀ i, A' i → i < k + 1) → LP4 f5_partKinds_b12_body (f + 1) M 61 (nI m) (nI k) = LP4 f5_partKinds_b12_body f M' 61 (nI m') (nI (k + 1)) → ∃ M' K' m', LP4 f5_partKinds_b12_body (f + 1) M 61 (nI m) (nI k) = some (nI m', swK M' fo ko) ∧ Sm [65, ar 68, ar fo, ar fo] [] M0 M' ∧ (∀ i, i < n → mI M' (ar fo) i = nI (K' i)) ∧ PtI (pG P) t K K' n m' := fun M' v m' A' s' hr' pt' ch' cov' hA' q => by
      obtain ⟨M2, K2, m2, z1, z2⟩ := L5_pk12 hp h0 pk0 hfo hko e (k + 1) (by omega) f (by omega) M' (upx K' k v) m' A' (s.trans s') (fun i hi => by
        rw [hr', upx_e, upx_e]
        by_cases e : i = k
        · rw [if_pos e, if_pos e]
        · rw [if_neg e, if_neg e]
          exact hK i (by omega)) pt' ch' cov' hA'
      exact ⟨M2, K2, m2, q.trans z1, z2⟩
    have lk6 : k < ln d fo := by rw [o7]; omega
    have lk8 : k < ln d 68 := Nat.lt_of_lt_of_le kn hr
    rcases L5_fa5 hp tc pk kn l _ 0 c1 c2 (by omega) FU (FU_big (by omega)) with ⟨j, j1, j2, j3⟩ | ⟨j1, j2⟩
    · have j3' : f5_findAlike M 61 (nI k) (mI M 65 c) = some (nI j, M) := j3
      obtain ⟨M', hM'⟩ : ∃ M', M' = uI M (ar fo) (upx (mI M (ar fo)) k (nI (K' j))) := ⟨_, rfl⟩
      have s' : Sm [65, ar 68, ar fo, ar fo] [] M M' := by rw [hM']; exact (Sm.rfl _ _ M).uI _ (by simp)
      refine fin M' (K' j) m A s' (by rw [hM', mI_uI, if_pos rfl]) (pt.next (.inl ⟨j, j1, j2, rfl, rfl⟩)) ?_ (fun i hi => ?_) (fun i hi => Nat.lt_succ_of_lt (hA i hi)) ?_
      · have e1 : mI M' 65 = mI M 65 := by rw [hM', mI_uI, if_neg n65f]
        have e2 : mI M' (ar 68) = mI M (ar 68) := by rw [hM', mI_uI, if_neg nf8.symm]
        rw [e1, e2]
        exact ch.skip (fun z => Nat.lt_irrefl _ (hA k z))
      · by_cases e : i = k
        · obtain ⟨j', x1, x2, x3⟩ := cov j j1
          rw [e]
          exact ⟨j', by omega, x2, x3.trans j2⟩
        · obtain ⟨j', x1, x2, x3⟩ := cov i (by omega)
          exact ⟨j', by omega, x2, x3⟩
      · have lj : j < ln d fo := by rw [o7]; omega
        rw [LP4_s]
        generalize LP4 f5_partKinds_b12_body f = K1
        unfold f5_partKinds_b12_body f5_partKinds_b107
        rw [aO_61 w, tc.2.1, if_neg (nI_ge kn (by omega)), aO_61 w, S5_mixOf hp tc pk kn, cI_some, bkt_e, cI_some, ← hc, aO_61 w, r_61_1 w, aO_64 w, g_64 w, cI_some, gI_in c6 (by omega), aO_61 w, j3', cI_some, if_neg (nI_neM (by omega)), aO_61 w, aO_61 w, r6, ly.oI o2, ly.get o2 lj, cI_some, hK j j1, ly.oI o2, ly.set o2 lk6, cV_some, ← hM', nI_1]
    · have j2' : f5_findAlike M 61 (nI k) (mI M 65 c) = some (-1, M) := j2
      have none : ∀ i, i < k → ¬ Rk1 (pG P) t K i k := fun i hi z => by
        obtain ⟨j', x1, x2, x3⟩ := cov i hi
        exact j1 j' (c4 j' x1 x2 (by rw [hc]; show bkt _ = bkt _; rw [mixN_Rk (x3.trans z)])) (x3.trans z)
      obtain ⟨M1, hM1⟩ : ∃ M1, M1 = uI M (ar fo) (upx (mI M (ar fo)) k (nI m)) := ⟨_, rfl⟩
      have s1 : Sm [65, ar 68, ar fo, ar fo] [] M M1 := by rw [hM1]; exact (Sm.rfl _ _ M).uI _ (by simp)
      obtain ⟨tc1, x1⟩ := tc.sm2 s1 (by decide) o2 o2 (by decide) ⟨o4, o5⟩ ⟨o4, o5⟩
      have e65 : mI M1 65 = mI M 65 := by rw [hM1, mI_uI, if_neg n65f]
      have e68 : mI M1 (ar 68) = mI M (ar 68) := by rw [hM1, mI_uI, if_neg nf8.symm]
      obtain ⟨M2, hM2⟩ : ∃ M2, M2 = uI M1 (ar 68) (upx (mI M1 (ar 68)) k (mI M 65 c)) := ⟨_, rfl⟩
      have s2 : Sm [65, ar 68, ar fo, ar fo] [] M M2 := by rw [hM2]; exact s1.uI _ (by simp)
      obtain ⟨tc2, x2⟩ := tc.sm2 s2 (by decide) o2 o2 (by decide) ⟨o4, o5⟩ ⟨o4, o5⟩
      have e65' : mI M2 65 = mI M 65 := by rw [hM2, mI_uI, if_neg n658, e65]
      obtain ⟨M3, hM3⟩ : ∃ M3, M3 = uI M2 65 (upx (mI M2 65) c (nI k)) := ⟨_, rfl⟩
      have s3 : Sm [65, ar 68, ar fo, ar fo] [] M M3 := by rw [hM3]; exact s2.uI _ (by simp)
      have q65 : mI M3 65 = upx (mI M 65) c (nI k) := by rw [hM3, mI_uI, if_pos rfl, e65']
      have q68 : mI M3 (ar 68) = upx (mI M (ar 68)) k (mI M 65 c) := by rw [hM3, mI_uI, if_neg n658.symm, hM2, mI_uI, if_pos rfl, e68]
      have qfo : mI M3 (ar fo) = upx (mI M (ar fo)) k (nI m) := by rw [hM3, mI_uI, if_neg n65f.symm, hM2, mI_uI, if_neg nf8, hM1, mI_uI, if_pos rfl]
      refine fin M3 m (m + 1) (fun i => i = k ∨ A i) s3 qfo (pt.next (.inr ⟨none, rfl, rfl⟩)) ?_ (fun i hi => ?_) (fun i hi => by rcases hi with z | z; omega; exact Nat.lt_succ_of_lt (hA i z)) ?_
      · rw [q65, q68]
        refine (ch.add (c := c)).cg (fun _ _ => rfl) (fun _ _ => rfl) (fun _ _ z => z) (fun i hi => ?_)
        rw [upx_e]
        by_cases e : i = k
        · rw [if_pos e, e, hc]
        · rw [if_neg e]
      · by_cases e : i = k
        · rw [e]
          exact ⟨k, by omega, .inl rfl, rfl, fun _ _ => rfl⟩
        · obtain ⟨j', y1, y2, y3⟩ := cov i (by omega)
          exact ⟨j', by omega, .inr y2, y3⟩
      · have w1 := tc1.1.1.w
        have w2 := tc2.1.1.w
        rw [LP4_s]
        generalize LP4 f5_partKinds_b12_body f = K1
        unfold f5_partKinds_b12_body f5_partKinds_b107
        rw [aO_61 w, tc.2.1, if_neg (nI_ge kn (by omega)), aO_61 w, S5_mixOf hp tc pk kn, cI_some, bkt_e, cI_some, ← hc, aO_61 w, r_61_1 w, aO_64 w, g_64 w, cI_some, gI_in c6 (by omega), aO_61 w, j2', cI_some, if_pos rfl, aO_61 w, r6, ly.oI o2, ly.set o2 lk6, cV_some, ← hM1]
        rw [aO_61 w1, aO_61 w1, r_61_1 w1, aO_64 w1, g_64 w1, cI_some, gI_in c6 (by omega), e65, r_61_3 w1, tc1.1.oI (by decide), tc1.1.set (b := 68) (by decide) lk8, cV_some, ← hM2]
        rw [aO_61 w2, r_61_1 w2, aO_64 w2, s_64 w2, pI_in c6 (by omega), cV_some, ← hM3, nI_1, nI_1]
theorem swK_s (M : MM) (x y : Nat) : mI (swK M x y) = mI M ∧ mJ (swK M x y) = mJ M ∧ mK (swK M x y) = mK M ∧ mz (swK M x y) = mz M ∧ mn (swK M x y) = mn M ∧ ∀ a k, mR (swK M x y) a k = if a = 61 ∧ k = 6 then y else if a = 61 ∧ k = 5 then x else mR M a k := by
  refine ⟨rfl, rfl, rfl, rfl, rfl, fun a k => ?_⟩
  unfold swK
  rw [sR_e, sR_e, mR_uR]
  by_cases c : a = 61
  · rw [if_pos c, upx_e, mR_uR, if_pos rfl, upx_e]
    by_cases k6 : k = 6
    · rw [if_pos k6, if_pos ⟨c, k6⟩]
    · rw [if_neg k6]
      by_cases k5 : k = 5
      · rw [if_pos k5, if_neg (fun z => k6 z.2), if_pos ⟨c, k5⟩]
      · rw [if_neg k5, if_neg (fun z => k6 z.2), if_neg (fun z => k5 z.2), c]
  · rw [if_neg c, if_neg (fun z => c z.1), if_neg (fun z => c z.1), mR_uR, if_neg c]
theorem TC.sw {M : MM} {ar : Nat → Nat} {d n : Nat} {S : Nat → Nat} {t : Nat → Nat → Nat} (h : TC M ar d P E n S t) : TC (swK M (mR M 61 6) (mR M 61 5)) ar d P E n S t := by
  obtain ⟨e1, e2, e3, e4, e5, e6⟩ := swK_s M (mR M 61 6) (mR M 61 5)
  obtain ⟨⟨g, x1, x2⟩, h2⟩ := h
  refine ⟨⟨⟨⟨g.w.1, fun q hq => ?_⟩, g.z, fun b hb => ?_, g.ne, g.fr, g.kI, g.kL, ?_⟩, x1, x2⟩, h2⟩
  · have : RRl.all (fun q => !(q.1 == 61 && (q.2.1 == 5 || q.2.1 == 6))) = true := by decide +kernel
    have := List.all_eq_true.mp this q hq
    rw [e6, if_neg (fun z => by rw [z.1, z.2] at this; exact absurd this (by decide)), if_neg (fun z => by rw [z.1, z.2] at this; exact absurd this (by decide))]
    exact g.w.2 q hq
  · have := (dIL_lt hb).2
    rw [e6, if_neg (fun z => this z.1), if_neg (fun z => this z.1)]
    exact g.r0 b hb
  · rw [e6, e6, if_neg (by omega), if_pos ⟨rfl, rfl⟩, if_pos ⟨rfl, rfl⟩]
    rcases g.sw with q | q
    · exact .inr ⟨q.2, q.1⟩
    · exact .inl ⟨q.2, q.1⟩
theorem S5_partKinds {M : MM} {ar : Nat → Nat} {d n : Nat} {S K : Nat → Nat} {t : Nat → Nat → Nat} (hp : WP P) (h : TC M ar d P E n S t) (pk : PKC M ar n K) : ∃ M' K' m', f5_partKinds M 61 = some (nI m', M') ∧ FrC M d M' d ∧ mI M' 61 = mI M 61 ∧ TC M' ar d P E n S t ∧ PKC M' ar n K' ∧ m' ≤ n ∧ PtI (pG P) t K K' n m' := by
  obtain ⟨k1, o2, o3, k4, k5, k6, o4, o5, o6, k7, o7⟩ := h.1.k5
  have w := h.1.1.w
  have le := h.2.2.2.1
  obtain ⟨M1, hM1⟩ : ∃ M1, M1 = uI M 65 (fun k => if k < 256 then (-1 : Int32) else mI M 65 k) := ⟨_, rfl⟩
  have s1 : Sm [65, ar 68, ar (mR M 61 6), ar (mR M 61 6)] [] M M1 := by rw [hM1]; exact (Sm.rfl _ _ M).uI _ (by simp)
  obtain ⟨tc1, x1⟩ := h.sm2 s1 (by decide) o2 o2 (by decide) ⟨o4, o5⟩ ⟨o4, o5⟩
  have e5 : mR M1 = mR M := s1.r
  have pk1 : PKC M1 ar n K := fun i hi => by
    rw [e5, hM1, mI_uI, if_neg (h.1.nf k1 (a := 65) (by decide) (by decide)).symm]
    exact pk i hi
  obtain ⟨M2, K', m', z1, z2, z3, z4⟩ := L5_pk12 hp tc1 pk1 (fo := mR M 61 6) (ko := mR M 61 5) (by rw [e5]) (by rw [e5]) n 0 (by omega) FU (FU_big (by omega)) M1 (fun _ => 0) 0 (fun _ => False) (Sm.rfl _ _ _) (fun i hi => absurd hi (Nat.not_lt_zero _)) ⟨fun a b ha => absurd ha (Nat.not_lt_zero _), fun a ha => absurd ha (Nat.not_lt_zero _), rfl⟩ (CHN.emp _ _ _ _ (fun c hc => by
    rw [hM1, mI_uI, if_pos rfl]
    show (if c < 256 then (-1 : Int32) else _) = _
    rw [if_pos hc])) (fun i hi => absurd hi (Nat.not_lt_zero _)) (fun _ z => z.elim)
  have sA := s1.trans z2
  obtain ⟨tc2, x2⟩ := h.sm2 sA (by decide) o2 o2 (by decide) ⟨o4, o5⟩ ⟨o4, o5⟩
  have mn : m' ≤ n := by rw [z4.2.2]; exact cntB_le _ _
  have tc3 := tc2.sw
  rw [sA.r] at tc3
  obtain ⟨e1, e2, e3, e4, e5', e6⟩ := swK_s M2 (mR M 61 6) (mR M 61 5)
  refine ⟨swK M2 (mR M 61 6) (mR M 61 5), K', m', ?_, FrC.of ?_ (by rw [e4, sA.z]) (by rw [e5', sA.n]), by rw [e1, x2], tc3, fun i hi => ?_, mn, z4⟩
  · unfold f5_partKinds
    rw [aO_61 w, r_61_1 w, aO_64 w, S3_fill (i_64 w) (by omega), cV_some, ← hM1]
    exact z1
  · have sx : SmX IX JX M M2 := sA.x (fun a ha hl => by
      simp only [List.mem_cons, List.not_mem_nil, or_false] at ha
      rcases ha with e | e | e | e
      · rw [e]; decide
      · rw [e] at hl ⊢; exact h.1.1.frI (by decide) hl
      · rw [e] at hl ⊢; exact h.1.1.frI o2 hl
      · rw [e] at hl ⊢; exact h.1.1.frI o2 hl) (fun _ q => by cases q)
    exact ⟨fun a k h1 h2 h3 => by
      rw [e6, if_neg (fun z => h2 ⟨z.1, .inr z.2⟩), if_neg (fun z => h2 ⟨z.1, .inl z.2⟩)]
      exact sx.1 a k h1 h2 h3, sx.2⟩
  · rw [e6, if_neg (by omega), if_pos ⟨rfl, rfl⟩, e1, z3 i hi]
    exact ⟨rfl, by have := z4.2.1 i hi; omega⟩
end PARTC
