/-! MACHINES: sets by their numbers, at the class -/
section SETNO
theorem LY.get {M : MM} {ar : Nat → Nat} {d : Nat} (h : LY M ar d) {b i : Nat} (hb : b ∈ dI) (hi : i < ln d b) : f3_get M b (nI i) = some (mI M (ar b) i, M) := by
  have rr := RMs_le h.2.2
  have l : ln d b < 2 ^ 31 := by unfold ln; split <;> omega
  rw [S3_get (h.1.ints hb) l, gI_in hi l]
theorem LY.set {M : MM} {ar : Nat → Nat} {d : Nat} (h : LY M ar d) {b i : Nat} (hb : b ∈ dI) (hi : i < ln d b) (v : Int32) : f3_set M b (nI i) v = some (uI M (ar b) (upx (mI M (ar b)) i v)) := by
  have rr := RMs_le h.2.2
  have l : ln d b < 2 ^ 31 := by unfold ln; split <;> omega
  rw [S3_set (h.1.ints hb) l, pI_in hi l]
theorem LY.oI {M : MM} {ar : Nat → Nat} {d : Nat} (h : LY M ar d) {b : Nat} (hb : b ∈ dI) {β : Type} {o : Option β} : aO M b 3 o = o := aO_e (by rw [h.1.w.1 _ (dI_6 hb).1, (dI_6 hb).2])
theorem LY.oL {M : MM} {ar : Nat → Nat} {d : Nat} (h : LY M ar d) {b : Nat} (hb : b ∈ dL) {β : Type} {o : Option β} : aO M b 4 o = o := aO_e (by rw [h.1.w.1 _ (dL_7 hb).1, (dL_7 hb).2])
theorem LY.nf {M : MM} {ar : Nat → Nat} {d : Nat} (h : LY M ar d) {b : Nat} (hb : b ∈ dI) {a : Nat} (ha : a < 119) (hn : dA.elem a = false) : a ≠ ar b := h.1.nf (List.mem_append_left _ hb) ha hn
theorem LY.ne {M : MM} {ar : Nat → Nat} {d : Nat} (h : LY M ar d) {b b' : Nat} (hb : b ∈ dI) (hb' : b' ∈ dI) (e : b ≠ b') : ar b ≠ ar b' := fun q => e (h.1.ne b (List.mem_append_left _ hb) b' (List.mem_append_left _ hb') q)
theorem S5_bucketOf (M : MM) (x : Int32) : ∃ c, c < 256 ∧ ∀ M', f5_bucketOf M' x = some (nI c, M') := by
  obtain ⟨y, hy⟩ : ∃ y, y = ushr (x * (-1640531535 : Int32)) (24 : Int32) &&& (255 : Int32) := ⟨_, rfl⟩
  have h1 : y.toBitVec.toNat < 256 := by
    have e1 : y.toBitVec = (ushr (x * (-1640531535 : Int32)) (24 : Int32)).toBitVec &&& (255 : Int32).toBitVec := by rw [hy]; rfl
    have e2 : y.toBitVec.toNat = (ushr (x * (-1640531535 : Int32)) (24 : Int32)).toBitVec.toNat &&& 255 := by rw [e1, BitVec.toNat_and]; rfl
    rw [e2]
    exact Nat.lt_of_le_of_lt Nat.and_le_right (by decide)
  refine ⟨y.toBitVec.toNat, h1, fun M' => ?_⟩
  have e : nI y.toBitVec.toNat = y := by
    apply Int32.toBitVec_inj.mp
    apply BitVec.eq_of_toNat_eq
    show (Int32.ofNat _).toBitVec.toNat = _
    rw [Int32.toBitVec_ofNat', BitVec.toNat_ofNat]
    exact Nat.mod_eq_of_lt (by omega)
  rw [e, hy]
  rfl
noncomputable def bkt (x : Int32) : Nat := (S5_bucketOf (fun _ _ => 0, fun _ _ => 0, fun _ _ => 0, fun _ => (0, 0), 0, 0) x).choose
theorem bkt_lt (x : Int32) : bkt x < 256 := (S5_bucketOf (fun _ _ => 0, fun _ _ => 0, fun _ _ => 0, fun _ => (0, 0), 0, 0) x).choose_spec.1
theorem bkt_e (M : MM) (x : Int32) : f5_bucketOf M x = some (nI (bkt x), M) := (S5_bucketOf (fun _ _ => 0, fun _ _ => 0, fun _ _ => 0, fun _ => (0, 0), 0, 0) x).choose_spec.2 M
/-- a chain from a head -/
def chn (row : Nat → Int32) : Int32 → List Nat → Prop
  | x, [] => x = -1
  | x, j :: l => x = nI j ∧ chn row (row j) l
def CHN (hd row : Nat → Int32) (n : Nat) (A : Nat → Prop) (bk : Nat → Nat) : Prop := ∀ c, c < 256 → ∃ l, chn row (hd c) l ∧ (∀ j, j ∈ l → j < n) ∧ l.length ≤ n ∧ ∀ i, i < n → A i → bk i = c → i ∈ l
theorem chn_cg {row row' : Nat → Int32} : ∀ (l : List Nat) x, chn row x l → (∀ j, j ∈ l → row' j = row j) → chn row' x l
  | [], x, h, _ => h
  | j :: l, x, h, e => ⟨h.1, by
    rw [e j (List.mem_cons_self ..)]
    exact chn_cg l _ h.2 (fun i hi => e i (List.mem_cons_of_mem _ hi))⟩
theorem CHN.cg {hd row hd' row' : Nat → Int32} {n : Nat} {A A' : Nat → Prop} {bk bk' : Nat → Nat} (h : CHN hd row n A bk) (e1 : ∀ c, c < 256 → hd' c = hd c) (e2 : ∀ j, j < n → row' j = row j) (e3 : ∀ i, i < n → A' i → A i) (e4 : ∀ i, i < n → bk' i = bk i) : CHN hd' row' n A' bk' := fun c hc => by
  obtain ⟨l, h1, h2, h3, h4⟩ := h c hc
  exact ⟨l, by rw [e1 c hc]; exact chn_cg l _ h1 (fun j hj => e2 j (h2 j hj)), h2, h3, fun i hi ha hb => h4 i hi (e3 i hi ha) (by rw [← e4 i hi]; exact hb)⟩
theorem CHN.add {hd row : Nat → Int32} {n : Nat} {A : Nat → Prop} {bk : Nat → Nat} (h : CHN hd row n A bk) {c : Nat} : CHN (upx hd c (nI n)) (upx row n (hd c)) (n + 1) (fun i => i = n ∨ A i) (upx bk n c) := fun c' hc' => by
  obtain ⟨l, h1, h2, h3, h4⟩ := h c' hc'
  have h1' : chn (upx row n (hd c)) (hd c') l := chn_cg l _ h1 (fun j hj => by rw [upx_e, if_neg (by have := h2 j hj; omega)])
  by_cases e : c' = c
  · rw [e] at h1' h4
    refine ⟨n :: l, ?_, fun j hj => ?_, by simp only [List.length_cons]; omega, fun i hi ha hb => ?_⟩
    · rw [upx_e, if_pos e]
      exact ⟨rfl, by rw [upx_e, if_pos rfl]; exact h1'⟩
    · rcases List.mem_cons.mp hj with q | q
      · omega
      · have := h2 j q
        omega
    · by_cases q : i = n
      · rw [q]
        exact List.mem_cons_self ..
      · rw [upx_e, if_neg q] at hb
        exact List.mem_cons_of_mem _ (h4 i (by omega) (by rcases ha with z | z; exact absurd z q; exact z) (hb.trans e))
  · refine ⟨l, by rw [upx_e, if_neg e]; exact h1', fun j hj => by have := h2 j hj; omega, by omega, fun i hi ha hb => ?_⟩
    by_cases q : i = n
    · rw [q, upx_e, if_pos rfl] at hb
      exact absurd hb.symm e
    · rw [upx_e, if_neg q] at hb
      exact h4 i (by omega) (by rcases ha with z | z; exact absurd z q; exact z) hb
theorem CHN.skip {hd row : Nat → Int32} {n : Nat} {A : Nat → Prop} {bk : Nat → Nat} (h : CHN hd row n A bk) (hn : ¬ A n) : CHN hd row (n + 1) A bk := fun c hc => by
  obtain ⟨l, h1, h2, h3, h4⟩ := h c hc
  exact ⟨l, h1, fun j hj => by have := h2 j hj; omega, by omega, fun i hi ha hb => h4 i (by
    refine Nat.lt_of_le_of_ne (by omega) (fun e => hn (by rw [← e]; exact ha))) ha hb⟩
theorem CHN.emp (hd row : Nat → Int32) (A : Nat → Prop) (bk : Nat → Nat) (h : ∀ c, c < 256 → hd c = -1) : CHN hd row 0 A bk := fun c hc => ⟨[], h c hc, (fun _ q => by cases q), Nat.le_refl _, fun i hi => absurd hi (Nat.not_lt_zero _)⟩
variable {P : PG} {o : Nat} {E R : Nat → Nat}
/-- the class's sets -/
def BC (M : MM) (ar : Nat → Nat) (d : Nat) (P : PG) (E : Nat → Nat) (n : Nat) (S : Nat → Nat) : Prop := LY M ar d ∧ mI M 61 15 = nI n ∧ n ≤ RMs d ∧ (∀ i, i < n → mI M (ar 66) i = nI (S i) ∧ RC P E (S i)) ∧ (∀ i j, i < n → j < n → S i = S j → i = j) ∧ CHN (mI M 65) (mI M (ar 68)) n (fun _ => True) (fun i => bkt (nI (S i)))
theorem BC.le {M : MM} {ar : Nat → Nat} {d n : Nat} {S : Nat → Nat} (h : BC M ar d P E n S) (hT : okT (pG P) (gTG P)) (hE : Std P o (gTG P) E R) : n ≤ 2340 := RC_le hT hE (fun i hi => (h.2.2.2.1 i hi).2) h.2.2.2.2.1
theorem L5_sn17 {M : MM} {ar : Nat → Nat} {d n : Nat} {S : Nat → Nat} (h : BC M ar d P E n S) (hn : n ≤ 2340) {s b : Nat} (hs : s < 2 ^ 15) : ∀ (l : List Nat) (x : Int32) (seen : Nat), chn (mI M (ar 68)) x l → (∀ j, j ∈ l → j < n) → l.length + seen ≤ n → ∀ f, l.length < f → 
    (∃ j, j < n ∧ S j = s ∧ LP6 f5_setNumber_b17_body f M 61 (nI s) (nI b) x (nI seen) = some (nI j, M)) ∨ ((∀ j, j ∈ l → S j ≠ s) ∧ LP6 f5_setNumber_b17_body f M 61 (nI s) (nI b) x (nI seen) = f5_setNumber_b60 M 61 (nI s) (nI b))
  | [], x, seen, hc, _, hl, f + 1, _ => by
    refine .inr ⟨(fun _ q => by cases q), ?_⟩
    have w := h.1.1.w
    rw [LP6_s]
    generalize LP6 f5_setNumber_b17_body f = K
    unfold f5_setNumber_b17_body
    rw [aO_61 w, h.2.1]
    by_cases c : nI n ≤ nI seen
    · rw [if_pos c]
    · rw [if_neg c, if_pos (show x = -1 from hc)]
  | j :: l, x, seen, hc, hj, hl, f + 1, hf => by
    have w := h.1.1.w
    have jn := hj j (List.mem_cons_self ..)
    simp only [List.length_cons] at hl hf
    have lt := (h.2.2.2.1 j jn).2.lt
    have l66 : j < ln d 66 := Nat.lt_of_lt_of_le jn h.2.2.1
    have l68 : j < ln d 68 := Nat.lt_of_lt_of_le jn h.2.2.1
    have st : LP6 f5_setNumber_b17_body (f + 1) M 61 (nI s) (nI b) x (nI seen) = if S j = s then some (nI j, M) else LP6 f5_setNumber_b17_body f M 61 (nI s) (nI b) (mI M (ar 68) j) (nI (seen + 1)) := by
      rw [LP6_s, hc.1]
      generalize LP6 f5_setNumber_b17_body f = K
      unfold f5_setNumber_b17_body
      rw [aO_61 w, h.2.1, if_neg (nI_ge (by omega) (by omega)), if_neg (nI_neM (by omega)), aO_61 w, r_61_2 w, h.1.oI (by decide), h.1.get (by decide) l66, cI_some, (h.2.2.2.1 j jn).1, aO_61 w, r_61_3 w, h.1.oI (by decide), h.1.get (by decide) l68, cI_some, nI_1]
      simp only [nI_eq (show S j < 2 ^ 31 by omega) (show s < 2 ^ 31 by omega)]
    by_cases c : S j = s
    · exact .inl ⟨j, jn, c, by rw [st, if_pos c]⟩
    · rw [st, if_neg c]
      rcases L5_sn17 h hn hs l (mI M (ar 68) j) (seen + 1) hc.2 (fun i hi => hj i (List.mem_cons_of_mem _ hi)) (by omega) f (by omega) with q | ⟨q, q'⟩
      · exact .inl q
      · exact .inr ⟨fun i hi => by
          rcases List.mem_cons.mp hi with e | e
          · rw [e]
            exact c
          · exact q i e, q'⟩
/-- sets and moves as one grows -/
def FrB (M0 : MM) (d0 : Nat) (M : MM) (d : Nat) : Prop := SmX IX JX M0 M ∧ (∀ k, k ≠ 12 → k ≠ 15 → mI M 61 k = mI M0 61 k) ∧ mI M 63 = mI M0 63 ∧ mR M 61 = mR M0 61 ∧ d0 ≤ d ∧ mz M + 10 * d0 = mz M0 + 10 * d ∧ mn M + 30 * RMs d0 = mn M0 + 30 * RMs d
theorem FrB.rfl (M : MM) (d : Nat) : FrB M d M d := ⟨SmX.rfl _ _ _, fun _ _ _ => Eq.refl _, Eq.refl _, Eq.refl _, Nat.le_refl _, Eq.refl _, Eq.refl _⟩
theorem FrB.trans {M M1 M2 : MM} {d d1 d2 : Nat} (a : FrB M d M1 d1) (b : FrB M1 d1 M2 d2) : FrB M d M2 d2 := ⟨a.1.trans b.1, fun k h h' => (b.2.1 k h h').trans (a.2.1 k h h'), b.2.2.1.trans a.2.2.1, b.2.2.2.1.trans a.2.2.2.1, Nat.le_trans a.2.2.2.2.1 b.2.2.2.2.1, by have := a.2.2.2.2.2.1; have := b.2.2.2.2.2.1; omega, by have := a.2.2.2.2.2.2; have := b.2.2.2.2.2.2; omega⟩
theorem L5_sn87 {M : MM} {ar : Nat → Nat} {d n : Nat} {S : Nat → Nat} (h : BC M ar d P E n S) (hn : n < RMs d) {s b : Nat} (hs : RC P E s) (hb : b = bkt (nI s)) (nw : ∀ i, i < n → S i ≠ s) : ∃ M', f5_setNumber_b87 M 61 (nI s) (nI b) = some (nI n, M') ∧ BC M' ar d P E (n + 1) (upx S n s) ∧ Sm [61, 65, ar 66, ar 68] [] M M' ∧ ∀ k, k ≠ 15 → mI M' 61 k = mI M 61 k := by
  obtain ⟨ly, h15, hr, hS, inj, ch⟩ := id h
  have w := ly.1.w
  have rr := RMs_le ly.2.2
  have b6 := bkt_lt (nI s)
  rw [← hb] at b6
  have n61 : ∀ b, b ∈ dI → (61 : Nat) ≠ ar b := fun b hb => ly.nf hb (by decide) (by decide)
  have n65 : ∀ b, b ∈ dI → (65 : Nat) ≠ ar b := fun b hb => ly.nf hb (by decide) (by decide)
  have n68 : ar 68 ≠ ar 66 := ly.ne (by decide) (by decide) (by decide)
  obtain ⟨M1, hM1⟩ : ∃ M1, M1 = uI M (ar 66) (upx (mI M (ar 66)) n (nI s)) := ⟨_, rfl⟩
  have s1 : Sm [61, 65, ar 66, ar 68] [] M M1 := by rw [hM1]; exact (Sm.rfl _ _ M).uI _ (by simp)
  have e61 : mI M1 61 = mI M 61 := by rw [hM1, mI_uI, if_neg (n61 66 (by decide))]
  have e65 : mI M1 65 = mI M 65 := by rw [hM1, mI_uI, if_neg (n65 66 (by decide))]
  have e68 : mI M1 (ar 68) = mI M (ar 68) := by rw [hM1, mI_uI, if_neg n68]
  have ly1 : LY M1 ar d := ly.sm s1 (by rw [e61])
  obtain ⟨M2, hM2⟩ : ∃ M2, M2 = uI M1 (ar 68) (upx (mI M1 (ar 68)) n (mI M 65 b)) := ⟨_, rfl⟩
  have s2 : Sm [61, 65, ar 66, ar 68] [] M M2 := by rw [hM2]; exact s1.uI _ (by simp)
  have e61' : mI M2 61 = mI M 61 := by rw [hM2, mI_uI, if_neg (n61 68 (by decide)), e61]
  have e65' : mI M2 65 = mI M 65 := by rw [hM2, mI_uI, if_neg (n65 68 (by decide)), e65]
  have ly2 : LY M2 ar d := ly.sm s2 (by rw [e61'])
  obtain ⟨M3, hM3⟩ : ∃ M3, M3 = uI M2 65 (upx (mI M2 65) b (nI n)) := ⟨_, rfl⟩
  have s3 : Sm [61, 65, ar 66, ar 68] [] M M3 := by rw [hM3]; exact s2.uI _ (by simp)
  have e61'' : mI M3 61 = mI M 61 := by rw [hM3, mI_uI, if_neg (by decide), e61']
  have ly3 : LY M3 ar d := ly.sm s3 (by rw [e61''])
  obtain ⟨M4, hM4⟩ : ∃ M4, M4 = sI M3 61 15 (nI (n + 1)) := ⟨_, rfl⟩
  have s4 : Sm [61, 65, ar 66, ar 68] [] M M4 := by rw [hM4, sI_e]; exact s3.uI _ (by simp)
  have f4 : ∀ k, k ≠ 15 → mI M4 61 k = mI M 61 k := fun k hk => by rw [hM4, mI_sI, if_neg (fun z => hk z.2), e61'']
  have f15 : mI M4 61 15 = nI (n + 1) := by rw [hM4, mI_sI, if_pos ⟨rfl, rfl⟩]
  have ly4 : LY M4 ar d := ly.sm s4 (f4 12 (by decide))
  have r66 : mI M4 (ar 66) = upx (mI M (ar 66)) n (nI s) := by
    rw [hM4, sI_e, mI_uI, if_neg (n61 66 (by decide)).symm, hM3, mI_uI, if_neg (n65 66 (by decide)).symm, hM2, mI_uI, if_neg n68.symm, hM1, mI_uI, if_pos rfl]
  have r68 : mI M4 (ar 68) = upx (mI M (ar 68)) n (mI M 65 b) := by
    rw [hM4, sI_e, mI_uI, if_neg (n61 68 (by decide)).symm, hM3, mI_uI, if_neg (n65 68 (by decide)).symm, hM2, mI_uI, if_pos rfl, e68]
  have r65 : mI M4 65 = upx (mI M 65) b (nI n) := by
    rw [hM4, sI_e, mI_uI, if_neg (by decide), hM3, mI_uI, if_pos rfl, e65']
  refine ⟨M4, ?_, ⟨ly4, f15, hn, fun i hi => ?_, fun i j hi hj e => ?_, ?_⟩, s4, f4⟩
  · unfold f5_setNumber_b87
    rw [aO_61 w, aO_61 w, r_61_2 w, ly.oI (by decide), h15, ly.set (b := 66) (i := n) (by decide) hn, cV_some, ← hM1]
    rw [aO_61 ly1.1.w, aO_61 ly1.1.w, aO_61 ly1.1.w, r_61_1 ly1.1.w, aO_64 ly1.1.w, g_64 ly1.1.w, cI_some, gI_in b6 (by omega), e65, r_61_3 ly1.1.w, ly1.oI (by decide), e61, h15, ly1.set (b := 68) (i := n) (by decide) hn, cV_some, ← hM2]
    rw [aO_61 ly2.1.w, aO_61 ly2.1.w, r_61_1 ly2.1.w, aO_64 ly2.1.w, s_64 ly2.1.w, pI_in b6 (by omega), e61', h15, cV_some, ← hM3]
    rw [aO_61 ly3.1.w, aO_61 ly3.1.w, e61'', h15, nI_1, bM_e, ← hM4, aO_61 ly4.1.w, f15, nI_sub1 (by omega)]
    rfl
  · rw [r66, upx_e, upx_e]
    by_cases e : i = n
    · rw [if_pos e, if_pos e]
      exact ⟨rfl, hs⟩
    · rw [if_neg e, if_neg e]
      exact hS i (by omega)
  · rw [upx_e, upx_e] at e
    by_cases a : i = n
    · by_cases b : j = n
      · rw [a, b]
      · rw [if_pos a, if_neg b] at e
        exact absurd e.symm (nw j (by omega))
    · by_cases b : j = n
      · rw [if_neg a, if_pos b] at e
        exact absurd e (nw i (by omega))
      · rw [if_neg a, if_neg b] at e
        exact inj i j (by omega) (by omega) e
  · rw [r65, r68]
    refine (ch.add (c := b)).cg (fun _ _ => rfl) (fun _ _ => rfl) (fun i hi _ => by
      by_cases e : i = n
      · exact .inl e
      · exact .inr trivial) (fun i hi => ?_)
    show bkt (nI (upx S n s i)) = upx (fun i => bkt (nI (S i))) n b i
    rw [upx_e, upx_e]
    by_cases e : i = n
    · rw [if_pos e, if_pos e, hb]
    · rw [if_neg e, if_neg e]
theorem S5_setNumber {M : MM} {ar : Nat → Nat} {d n : Nat} {S : Nat → Nat} (h : BC M ar d P E n S) (hT : okT (pG P) (gTG P)) (hE : Std P o (gTG P) E R) {s : Nat} (hs : RC P E s) : ∃ M' ar' d' n' S' j, f5_setNumber M 61 (nI s) = some (nI j, M') ∧ BC M' ar' d' P E n' S' ∧ FrB M d M' d' ∧ (∀ b, b ∈ dI → b ≠ 66 → b ≠ 68 → ∀ i, i < ln d b → mI M' (ar' b) i = mI M (ar b) i) ∧ n ≤ n' ∧ (∀ i, i < n → S' i = S i) ∧ j < n' ∧ S' j = s ∧ n' ≤ n + 1 ∧ (n' = n + 1 → j = n) := by
  obtain ⟨ly, h15, hr, hS, inj, ch⟩ := id h
  have w := ly.1.w
  have rr := RMs_le ly.2.2
  have le := h.le hT hE
  obtain ⟨b, hb⟩ : ∃ b, b = bkt (nI s) := ⟨_, rfl⟩
  have b6 := bkt_lt (nI s)
  rw [← hb] at b6
  obtain ⟨l, c1, c2, c3, c4⟩ := ch b b6
  have st : f5_setNumber M 61 (nI s) = LP6 f5_setNumber_b17_body FU M 61 (nI s) (nI b) (mI M 65 b) (nI 0) := by
    unfold f5_setNumber
    rw [bkt_e, cI_some, aO_61 w, r_61_1 w, aO_64 w, ← hb, g_64 w, cI_some, gI_in b6 (by omega)]
    rfl
  rcases L5_sn17 h le hs.lt l _ 0 c1 c2 (by omega) FU (FU_big (by omega)) with ⟨j, q1, q2, q3⟩ | ⟨q1, q2⟩
  · exact ⟨M, ar, d, n, S, j, st.trans q3, h, FrB.rfl _ _, fun _ _ _ _ _ _ => rfl, Nat.le_refl _, fun _ _ => rfl, q1, q2, by omega, fun z => by omega⟩
  · have nw : ∀ i, i < n → S i ≠ s := fun i hi e => q1 i (c4 i hi trivial (by rw [hb, ← e])) e
    have n40 : n + 1 ≤ 2340 := RC_le hT hE (n := n + 1) (S := upx S n s) (fun i hi => by
      rw [upx_e]
      split
      · exact hs
      · exact (hS i (by omega)).2) (fun i j hi hj e => by
      rw [upx_e, upx_e] at e
      by_cases a : i = n
      · by_cases b : j = n
        · rw [a, b]
        · rw [if_pos a, if_neg b] at e
          exact absurd e.symm (nw j (by omega))
      · by_cases b : j = n
        · rw [if_neg a, if_pos b] at e
          exact absurd e (nw i (by omega))
        · rw [if_neg a, if_neg b] at e
          exact inj i j (by omega) (by omega) e)
    have fin : ∀ {X : MM} {a : Nat → Nat} {d' : Nat}, BC X a d' P E n S → n < RMs d' → FrB M d X d' → (∀ b, b ∈ dI → ∀ i, i < ln d b → mI X (a b) i = mI M (ar b) i) → f5_setNumber_b60 M 61 (nI s) (nI b) = f5_setNumber_b87 X 61 (nI s) (nI b) → ∃ M' ar' d' n' S' j, f5_setNumber M 61 (nI s) = some (nI j, M') ∧ BC M' ar' d' P E n' S' ∧ FrB M d M' d' ∧ (∀ b, b ∈ dI → b ≠ 66 → b ≠ 68 → ∀ i, i < ln d b → mI M' (ar' b) i = mI M (ar b) i) ∧ n ≤ n' ∧ (∀ i, i < n → S' i = S i) ∧ j < n' ∧ S' j = s ∧ n' ≤ n + 1 ∧ (n' = n + 1 → j = n) := fun {X a d'} hX hn fr hv q => by
      obtain ⟨M', z1, z2, z3, z4⟩ := L5_sn87 hX hn hs hb nw
      have lX := hX.1
      refine ⟨M', a, d', n + 1, upx S n s, n, by rw [st, q2, q, z1], z2, fr.trans ⟨z3.x (fun a' ha' hl => ?_) (fun _ q _ => by cases q), fun k _ hk => z4 k hk, z3.i 63 ?_, by rw [z3.r], Nat.le_refl _, by rw [z3.z], by rw [z3.n]⟩, fun b hb h6 h8 i hi => ?_, by omega, fun i hi => by rw [upx_e, if_neg (by omega)], by omega, by rw [upx_e, if_pos rfl], by omega, fun _ => rfl⟩
      · simp only [List.mem_cons, List.not_mem_nil, or_false] at ha'
        rcases ha' with e | e | e | e
        · rw [e]; decide
        · rw [e]; decide
        · rw [e] at hl ⊢; exact lX.1.frI (by decide) hl
        · rw [e] at hl ⊢; exact lX.1.frI (by decide) hl
      · have a1 := lX.nf (b := 66) (a := 63) (by decide) (by decide) (by decide)
        have a2 := lX.nf (b := 68) (a := 63) (by decide) (by decide) (by decide)
        simp only [List.mem_cons, List.not_mem_nil, or_false]
        omega
      · have a1 := lX.ne hb (b' := 66) (by decide) h6
        have a2 := lX.ne hb (b' := 68) (by decide) h8
        have a3 := lX.nf hb (a := 61) (by decide) (by decide)
        have a4 := lX.nf hb (a := 65) (by decide) (by decide)
        rw [z3.i (a b) (by simp only [List.mem_cons, List.not_mem_nil, or_false]; omega)]
        exact hv b hb i hi
    by_cases c : n < RMs d
    · refine fin h c (FrB.rfl _ _) (fun _ _ _ _ => rfl) ?_
      unfold f5_setNumber_b60
      rw [aO_61 w, h15, show (2340 : Int32) = nI 2340 from rfl, if_pos (nI_lt (by omega) (by omega)), aO_61 w, aO_61 w, ly.2.1, if_pos (nI_lt (by omega) (by omega))]
    · have d6 : d < 6 := Nat.lt_of_le_of_ne ly.2.2 (fun e => by
        rw [e] at c
        have : RMs 6 = 4096 := rfl
        omega)
      obtain ⟨X, a, x1, x2, x3, x4, x5, x6, x7, x8⟩ := S5_widen ly d6
      have rs := RMs_s d
      have e66 : ∀ i, i < n → mI X (a 66) i = mI M (ar 66) i := fun i hi => x6 66 (by decide) i (Nat.lt_of_lt_of_le hi hr)
      have e68 : ∀ i, i < n → mI X (a 68) i = mI M (ar 68) i := fun i hi => x6 68 (by decide) i (Nat.lt_of_lt_of_le hi hr)
      have e65 : mI X 65 = mI M 65 := x3.i 65 (by decide) (by decide)
      refine fin (X := X) (a := a) (d' := d + 1) ⟨x2, by rw [x4 15 (by decide), h15], by omega, fun i hi => by rw [e66 i hi]; exact hS i hi, inj, ch.cg (fun c _ => by rw [e65]) e68 (fun _ _ z => z) (fun _ _ => rfl)⟩ (by omega) ⟨x3.more (by decide) (by decide), fun k h1 _ => x4 k h1, x3.i 63 (by decide) (by decide), x5, by omega, by omega, by omega⟩ (fun b hb i hi => x6 b hb i hi) ?_
      unfold f5_setNumber_b60
      rw [aO_61 w, h15, show (2340 : Int32) = nI 2340 from rfl, if_pos (nI_lt (by omega) (by omega)), aO_61 w, aO_61 w, ly.2.1, if_neg (fun z => by
        rw [Int32.lt_iff_toInt_lt, nI_toInt (by omega), nI_toInt (by omega)] at z
        omega), aO_61 w, x1, cV_some]
end SETNO
