/-! MACHINES: the rows that grow, at the class -/
def dI : List Nat := [66, 68, 70, 72, 74, 76, 78, 80]
def dL : List Nat := [82, 84]
def RMs (d : Nat) : Nat := 64 * 2 ^ d
def ln (d b : Nat) : Nat := if b = 70 then RMs d * 6 else RMs d
/-- the ten objects, their arrays and lengths -/
def LG (M : MM) (ar len : Nat → Nat) : Prop := Wl M ∧ 119 ≤ mz M ∧ (∀ b, b ∈ dI ++ dL → mR M b 0 = ar b) ∧ (∀ b, b ∈ dI ++ dL → ∀ b', b' ∈ dI ++ dL → ar b = ar b' → b = b') ∧ (∀ b, b ∈ dI ++ dL → ar b = b + 1 ∨ (119 ≤ ar b ∧ ar b < mz M)) ∧ (∀ b, b ∈ dI → mK M (ar b) = (0, len b)) ∧ (∀ b, b ∈ dL → mK M (ar b) = (1, len b)) ∧ ((mR M 61 5 = 72 ∧ mR M 61 6 = 74) ∨ (mR M 61 5 = 74 ∧ mR M 61 6 = 72))
theorem LG.w {M : MM} {ar len : Nat → Nat} (h : LG M ar len) : Wl M := h.1
theorem LG.z {M : MM} {ar len : Nat → Nat} (h : LG M ar len) : 119 ≤ mz M := h.2.1
theorem LG.r0 {M : MM} {ar len : Nat → Nat} (h : LG M ar len) : ∀ b, b ∈ dI ++ dL → mR M b 0 = ar b := h.2.2.1
theorem LG.ne {M : MM} {ar len : Nat → Nat} (h : LG M ar len) : ∀ b, b ∈ dI ++ dL → ∀ b', b' ∈ dI ++ dL → ar b = ar b' → b = b' := h.2.2.2.1
theorem LG.fr {M : MM} {ar len : Nat → Nat} (h : LG M ar len) : ∀ b, b ∈ dI ++ dL → ar b = b + 1 ∨ (119 ≤ ar b ∧ ar b < mz M) := h.2.2.2.2.1
theorem LG.kI {M : MM} {ar len : Nat → Nat} (h : LG M ar len) : ∀ b, b ∈ dI → mK M (ar b) = (0, len b) := h.2.2.2.2.2.1
theorem LG.kL {M : MM} {ar len : Nat → Nat} (h : LG M ar len) : ∀ b, b ∈ dL → mK M (ar b) = (1, len b) := h.2.2.2.2.2.2.1
theorem LG.sw {M : MM} {ar len : Nat → Nat} (h : LG M ar len) : (mR M 61 5 = 72 ∧ mR M 61 6 = 74) ∨ (mR M 61 5 = 74 ∧ mR M 61 6 = 72) := h.2.2.2.2.2.2.2
def LY (M : MM) (ar : Nat → Nat) (d : Nat) : Prop := LG M ar (ln d) ∧ mI M 61 12 = nI (RMs d) ∧ d ≤ 6
theorem dI_6 {b : Nat} (h : b ∈ dI) : b < 119 ∧ KK b = (6, 1) := by
  have : dI.all (fun b => decide (b < 119) && decide (KK b = (6, 1))) = true := by decide +kernel
  have := List.all_eq_true.mp this b h
  rw [Bool.and_eq_true, decide_eq_true_eq, decide_eq_true_eq] at this
  exact this
theorem dL_7 {b : Nat} (h : b ∈ dL) : b < 119 ∧ KK b = (7, 1) := by
  have : dL.all (fun b => decide (b < 119) && decide (KK b = (7, 1))) = true := by decide +kernel
  have := List.all_eq_true.mp this b h
  rw [Bool.and_eq_true, decide_eq_true_eq, decide_eq_true_eq] at this
  exact this
theorem LG.ints {M : MM} {ar len : Nat → Nat} (h : LG M ar len) {b : Nat} (hb : b ∈ dI) : IntsAt M b (ar b) (len b) := ⟨by rw [h.w.1 b (dI_6 hb).1, (dI_6 hb).2], h.r0 b (List.mem_append_left _ hb), h.kI b hb⟩
theorem LG.longs {M : MM} {ar len : Nat → Nat} (h : LG M ar len) {b : Nat} (hb : b ∈ dL) : LongsAt M b (ar b) (len b) := ⟨by rw [h.w.1 b (dL_7 hb).1, (dL_7 hb).2], h.r0 b (List.mem_append_right _ hb), h.kL b hb⟩
def dA : List Nat := [67, 69, 71, 73, 75, 77, 79, 81, 83, 85]
theorem LG.nf {M : MM} {ar len : Nat → Nat} (h : LG M ar len) {b : Nat} (hb : b ∈ dI ++ dL) {a : Nat} (ha : a < 119) (hn : dA.elem a = false) : a ≠ ar b := fun e => by
  rcases h.fr b hb with q | q
  · rw [q] at e
    have : (dI ++ dL).all (fun b => dA.elem (b + 1)) = true := by decide +kernel
    have := List.all_eq_true.mp this b hb
    rw [← e, hn] at this
    cases this
  · omega
theorem LG.sm {M M' : MM} {ar len : Nat → Nat} (h : LG M ar len) {Is Js : List Nat} (s : Sm Is Js M M') : LG M' ar len := ⟨h.w.sm s, by rw [s.z]; exact h.z, by rw [s.r]; exact h.r0, h.ne, by rw [s.z]; exact h.fr, by rw [s.k]; exact h.kI, by rw [s.k]; exact h.kL, by rw [s.r]; exact h.sw⟩
theorem LG.cg {M : MM} {ar len len' : Nat → Nat} (h : LG M ar len) (e : ∀ b, b ∈ dI ++ dL → len b = len' b) : LG M ar len' := ⟨h.w, h.z, h.r0, h.ne, h.fr, fun b hb => by rw [← e b (List.mem_append_left _ hb)]; exact h.kI b hb, fun b hb => by rw [← e b (List.mem_append_right _ hb)]; exact h.kL b hb, h.sw⟩
theorem LY.sm {M M' : MM} {ar : Nat → Nat} {d : Nat} (h : LY M ar d) {Is Js : List Nat} (s : Sm Is Js M M') (h12 : mI M' 61 12 = mI M 61 12) : LY M' ar d := ⟨h.1.sm s, h12.trans h.2.1, h.2.2⟩
/-- what growing leaves -/
def SmX (Is Js : List Nat) (M M' : MM) : Prop := (∀ a k, a < 119 → ¬ (a = 61 ∧ (k = 5 ∨ k = 6)) → ¬ (a ∈ dI ++ dL ∧ k = 0) → mR M' a k = mR M a k) ∧ (∀ a, a < 119 ∨ a < mz M → mK M' a = mK M a) ∧ mz M ≤ mz M' ∧ (∀ a, a < 119 → a ∉ Is → mI M' a = mI M a) ∧ ∀ a, a < 119 → a ∉ Js → mJ M' a = mJ M a
theorem SmX.trans {Is Js : List Nat} {M M1 M2 : MM} (a : SmX Is Js M M1) (b : SmX Is Js M1 M2) : SmX Is Js M M2 := ⟨fun x k l h h' => (b.1 x k l h h').trans (a.1 x k l h h'), fun x h => (b.2.1 x (h.imp id (fun q => Nat.lt_of_lt_of_le q a.2.2.1))).trans (a.2.1 x h), Nat.le_trans a.2.2.1 b.2.2.1, fun x h h' => (b.2.2.2.1 x h h').trans (a.2.2.2.1 x h h'), fun x h h' => (b.2.2.2.2 x h h').trans (a.2.2.2.2 x h h')⟩
theorem SmX.more {Is Js Is' Js' : List Nat} {M M' : MM} (h : SmX Is Js M M') (hi : ∀ a ∈ Is, a ∈ Is') (hj : ∀ a ∈ Js, a ∈ Js') : SmX Is' Js' M M' := ⟨h.1, h.2.1, h.2.2.1, fun a q z => h.2.2.2.1 a q (fun w => z (hi a w)), fun a q z => h.2.2.2.2 a q (fun w => z (hj a w))⟩
theorem SmX.i {Is Js : List Nat} {M M' : MM} (h : SmX Is Js M M') : ∀ a, a < 119 → a ∉ Is → mI M' a = mI M a := h.2.2.2.1
theorem SmX.j {Is Js : List Nat} {M M' : MM} (h : SmX Is Js M M') : ∀ a, a < 119 → a ∉ Js → mJ M' a = mJ M a := h.2.2.2.2
theorem SmX.rfl (Is Js : List Nat) (M : MM) : SmX Is Js M M := ⟨fun _ _ _ _ _ => Eq.refl _, fun _ _ => Eq.refl _, Nat.le_refl _, fun _ _ _ => Eq.refl _, fun _ _ _ => Eq.refl _⟩
theorem Sm.x {Is Js Is' Js' : List Nat} {M M' : MM} (s : Sm Is Js M M') (hi : ∀ a, a ∈ Is → a < 119 → a ∈ Is') (hj : ∀ a, a ∈ Js → a < 119 → a ∈ Js') : SmX Is' Js' M M' := ⟨fun a k _ _ _ => by rw [s.r], fun a _ => by rw [s.k], by rw [s.z]; exact Nat.le_refl _, fun a h h' => s.i a (fun z => h' (hi a z h)), fun a h h' => s.j a (fun z => h' (hj a z h))⟩
theorem Wl.smX {Is Js : List Nat} {M M' : MM} (h : Wl M) (s : SmX Is Js M M') : Wl M' := by
  refine ⟨fun a ha => by rw [s.2.1 a (.inl ha)]; exact h.1 a ha, fun q hq => ?_⟩
  have : RRl.all (fun q => decide (q.1 < 119) && (!(q.1 == 61 && (q.2.1 == 5 || q.2.1 == 6)) && !((dI ++ dL).elem q.1 && q.2.1 == 0))) = true := by decide +kernel
  have := List.all_eq_true.mp this q hq
  rw [Bool.and_eq_true, Bool.and_eq_true, decide_eq_true_eq] at this
  obtain ⟨l9, this⟩ := this
  rw [s.1 q.1 q.2.1 l9 (fun z => ?_) (fun z => ?_)]
  · exact h.2 q hq
  · have t := this.1
    rw [z.1] at t
    rcases z.2 with e | e <;> rw [e] at t <;> exact absurd t (by decide)
  · have t := this.2
    rw [List.elem_eq_true_of_mem z.1, z.2] at t
    exact absurd t (by decide)
def IX : List Nat := [61, 63, 65, 67, 69, 71, 73, 75, 77, 79, 81]
def JX : List Nat := [83, 85]
theorem LG.frI {M : MM} {ar len : Nat → Nat} (h : LG M ar len) {b : Nat} (hb : b ∈ dI) (hlt : ar b < 119) : ar b ∈ IX := by
  rcases h.fr b (List.mem_append_left _ hb) with q | q
  · rw [q]
    have : dI.all (fun b => IX.elem (b + 1)) = true := by decide +kernel
    exact List.mem_of_elem_eq_true (List.all_eq_true.mp this b hb)
  · omega
theorem LG.frJ {M : MM} {ar len : Nat → Nat} (h : LG M ar len) {b : Nat} (hb : b ∈ dL) (hlt : ar b < 119) : ar b ∈ JX := by
  rcases h.fr b (List.mem_append_right _ hb) with q | q
  · rw [q]
    have : dL.all (fun b => JX.elem (b + 1)) = true := by decide +kernel
    exact List.mem_of_elem_eq_true (List.all_eq_true.mp this b hb)
  · omega
section WIDE
theorem mI_nwb (M : MM) (kd len b : Nat) : mI (nw M kd len) b = if b = mz M then (fun _ => 0) else mI M b := rfl
theorem mJ_nwb (M : MM) (kd len b : Nat) : mJ (nw M kd len) b = if b = mz M then (fun _ => 0) else mJ M b := rfl
theorem mR_nwb (M : MM) (kd len b : Nat) : mR (nw M kd len) b = if b = mz M then (fun _ => 0) else mR M b := rfl
theorem mK_nwb (M : MM) (kd len b : Nat) : mK (nw M kd len) b = if b = mz M then (kd, len) else mK M b := rfl
theorem S3_widen {M : MM} {a r n m : Nat} (h : IntsAt M a r n) (hr : r ≠ mz M) (ha : a ≠ mz M) (hnm : n < m) (hm : m ≤ 60000000) : f3_widen M a (nI m) = some (uR (uI (nw M 0 m) (mz M) (fun k => if k < n then mI M r k else 0)) a (upx (mR (uI (nw M 0 m) (mz M) (fun k => if k < n then mI M r k else 0)) a) 0 (mz M))) := by
  obtain ⟨h1, h2, h3⟩ := h
  unfold f3_widen fJ_copyI
  rw [aO_e (by rw [h1]), h2, aL_e (by rw [h3]), h3, if_neg (show ¬ nI m ≤ nI (0, n).2 from nI_ge hnm (by omega)), aO_e (by rw [h1]), aL_e (by rw [h3]), if_neg (show ¬ nI m = nI (0, n).2 from fun e => by
    have := (nI_eq (show m < 2 ^ 31 by omega) (show n < 2 ^ 31 by omega)).mp e
    omega), gd_e ⟨nI_pos (by omega), by rw [nI_clamp (by omega)]; exact hm⟩, bW_e, bM_e, nI_clamp (by omega)]
  have e1 : mK (nw M 0 m) r = (0, n) := by rw [mK_nwb, if_neg hr, h3]
  have e2 : mK (nw M 0 m) (mz M) = (0, m) := by rw [mK_nwb, if_pos rfl]
  have mn : mnI (nI n) (nI m) = nI n := if_neg (fun z => by
    rw [Int32.lt_iff_toInt_lt, nI_toInt (by omega), nI_toInt (by omega)] at z
    omega)
  have mn' : mnI (nI (mK (nw M 0 m) r).2) (nI m) = nI n := by rw [e1]; exact mn
  have e0 : (0 : Int32).toNatClampNeg = 0 := rfl
  rw [aL_e (by rw [e1]), aL_e (by rw [e1]), aL_e (by rw [e2]), gd_e (show cpyOk (nw M 0 m) r (mz M) 0 0 (mnI (nI (mK (nw M 0 m) r).2) (nI m)) by
    rw [mn']
    exact ⟨by decide, by decide, nI_pos (by omega), by rw [e0, nI_clamp (by omega), e1]; show 0 + n ≤ n; omega, by rw [e0, nI_clamp (by omega), e2]; show 0 + n ≤ m; omega⟩), bM_e, cR_some, mn']
  have e3 : va_cpy (mI (nw M 0 m) r) (mI (nw M 0 m) (mz M)) (0 : Int32).toNatClampNeg (0 : Int32).toNatClampNeg (nI n).toNatClampNeg = fun k => if k < n then mI M r k else 0 := by
    funext k
    rw [e0, nI_clamp (by omega), mI_nwb, if_neg hr, mI_nwb, if_pos rfl]
    unfold va_cpy
    by_cases c : k < n
    · rw [if_pos ⟨Nat.zero_le _, by omega⟩, if_pos c]
      congr 1
      omega
    · rw [if_neg (by omega), if_neg c]
  rw [e3, aO_e (show (mK (sIr (nw M 0 m) (mz M) _) a).1 = 3 + 3 by
    show (mK (nw M 0 m) a).1 = _
    rw [mK_nwb, if_neg ha, h1])]
  rfl
theorem S4_widen {M : MM} {a r n m : Nat} (h : LongsAt M a r n) (hr : r ≠ mz M) (ha : a ≠ mz M) (hnm : n < m) (hm : m ≤ 60000000) : ∃ row, f4_widen M a (nI m) = some (uR (uJ (nw M 1 m) (mz M) row) a (upx (mR (uJ (nw M 1 m) (mz M) row) a) 0 (mz M))) := by
  obtain ⟨h1, h2, h3⟩ := h
  refine ⟨va_cpy (mJ (nw M 1 m) r) (mJ (nw M 1 m) (mz M)) 0 0 n, ?_⟩
  unfold f4_widen fJ_copyL
  rw [aO_e (by rw [h1]), h2, aL_e (by rw [h3]), h3, if_neg (show ¬ nI m ≤ nI (1, n).2 from nI_ge hnm (by omega)), aO_e (by rw [h1]), aL_e (by rw [h3]), if_neg (show ¬ nI m = nI (1, n).2 from fun e => by
    have := (nI_eq (show m < 2 ^ 31 by omega) (show n < 2 ^ 31 by omega)).mp e
    omega), gd_e ⟨nI_pos (by omega), by rw [nI_clamp (by omega)]; exact hm⟩, bW_e, bM_e, nI_clamp (by omega)]
  have e1 : mK (nw M 1 m) r = (1, n) := by rw [mK_nwb, if_neg hr, h3]
  have e2 : mK (nw M 1 m) (mz M) = (1, m) := by rw [mK_nwb, if_pos rfl]
  have mn : mnI (nI n) (nI m) = nI n := if_neg (fun z => by
    rw [Int32.lt_iff_toInt_lt, nI_toInt (by omega), nI_toInt (by omega)] at z
    omega)
  have mn' : mnI (nI (mK (nw M 1 m) r).2) (nI m) = nI n := by rw [e1]; exact mn
  have e0 : (0 : Int32).toNatClampNeg = 0 := rfl
  rw [aL_e (by rw [e1]), aL_e (by rw [e1]), aL_e (by rw [e2]), gd_e (show cpyOk (nw M 1 m) r (mz M) 0 0 (mnI (nI (mK (nw M 1 m) r).2) (nI m)) by
    rw [mn']
    exact ⟨by decide, by decide, nI_pos (by omega), by rw [e0, nI_clamp (by omega), e1]; show 0 + n ≤ n; omega, by rw [e0, nI_clamp (by omega), e2]; show 0 + n ≤ m; omega⟩), bM_e, cR_some, mn', e0, nI_clamp (by omega)]
  rw [aO_e (show (mK (sJr (nw M 1 m) (mz M) _) a).1 = 4 + 3 by
    show (mK (nw M 1 m) a).1 = _
    rw [mK_nwb, if_neg ha, h1])]
  rfl
end WIDE
