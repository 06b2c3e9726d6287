/-! WHAT THE FUNCTIONS OF THE MEMORY ANSWER: ground rows -/
def wp {β : Type} (o : Option β) (Q : β → Prop) : Prop := ∃ b, o = some b ∧ Q b
theorem wp_some {β : Type} {b : β} {Q : β → Prop} : wp (some b) Q ↔ Q b := ⟨fun ⟨_, h, q⟩ => by cases h; exact q, fun q => ⟨b, rfl, q⟩⟩
theorem wp_mono {β : Type} {o : Option β} {Q Q' : β → Prop} (h : wp o Q) (k : ∀ b, Q b → Q' b) : wp o Q' := ⟨h.choose, h.choose_spec.1, k _ h.choose_spec.2⟩
theorem wp_cI {β : Type} {oc : Option (Int32 × MM)} {k : Int32 → MM → Option β} {Q : β → Prop} (h : wp oc (fun q => wp (k q.1 q.2) Q)) : wp (cI oc k) Q := by
  obtain ⟨b, rfl, q⟩ := h
  exact q
theorem wp_cJ {β : Type} {oc : Option (Int64 × MM)} {k : Int64 → MM → Option β} {Q : β → Prop} (h : wp oc (fun q => wp (k q.1 q.2) Q)) : wp (cJ oc k) Q := by
  obtain ⟨b, rfl, q⟩ := h
  exact q
theorem wp_cR {β : Type} {oc : Option (Nat × MM)} {k : Nat → MM → Option β} {Q : β → Prop} (h : wp oc (fun q => wp (k q.1 q.2) Q)) : wp (cR oc k) Q := by
  obtain ⟨b, rfl, q⟩ := h
  exact q
theorem wp_cV {β : Type} {oc : Option MM} {k : MM → Option β} {Q : β → Prop} (h : wp oc (fun q => wp (k q) Q)) : wp (cV oc k) Q := by
  obtain ⟨b, rfl, q⟩ := h
  exact q
theorem cI_some {β : Type} (r : Int32) (M : MM) (k : Int32 → MM → Option β) : cI (some (r, M)) k = k r M := rfl
theorem cJ_some {β : Type} (r : Int64) (M : MM) (k : Int64 → MM → Option β) : cJ (some (r, M)) k = k r M := rfl
theorem cR_some {β : Type} (r : Nat) (M : MM) (k : Nat → MM → Option β) : cR (some (r, M)) k = k r M := rfl
theorem cV_some {β : Type} (M : MM) (k : MM → Option β) : cV (some M) k = k M := rfl
theorem bM_e {β : Type} (M : MM) (k : MM → Option β) : bM M k = k M := rfl
theorem bW_e {α β : Type} (v : α) (k : α → Option β) : bW v k = k v := rfl
theorem aO_e {β : Type} {M : MM} {a ci : Nat} {o : Option β} (h : (mK M a).1 = ci + 3) : aO M a ci o = o := if_pos h
theorem aL_e {β : Type} {M : MM} {a kd : Nat} {o : Option β} (h : (mK M a).1 = kd) : aL M a kd o = o := if_pos h
theorem aA_e {β : Type} {M : MM} {a kd i : Nat} {o : Option β} (h : (mK M a).1 = kd) (hi : i < (mK M a).2) (hn : i < 2 ^ 31) : aA M a kd (nI i) o = o := if_pos ⟨h, by rw [nI_clamp hn]; intro q; rcases q with q | q; exact nI_pos hn q; omega⟩
theorem aA_x {β : Type} {M : MM} {a kd : Nat} {j : Int32} {o : Option β} (h : (mK M a).1 = kd) (h0 : ¬ j < 0) (hi : j.toNatClampNeg < (mK M a).2) : aA M a kd j o = o := if_pos ⟨h, by intro q; rcases q with q | q; exact h0 q; omega⟩
theorem gd_e {β : Type} {c : Prop} [Decidable c] {o : Option β} (h : c) : gd c o = o := if_pos h
/-! rows -/
def uI (M : MM) (a : Nat) (r : Nat → Int32) : MM := (upr (mI M) a r, M.2)
def uJ (M : MM) (a : Nat) (r : Nat → Int64) : MM := (M.1, upr (mJ M) a r, M.2.2)
def uR (M : MM) (a : Nat) (r : Nat → Nat) : MM := (M.1, M.2.1, upr (mR M) a r, M.2.2.2)
theorem sI_e (M : MM) (a k : Nat) (v : Int32) : sI M a k v = uI M a (upx (mI M a) k v) := rfl
theorem sJ_e (M : MM) (a k : Nat) (v : Int64) : sJ M a k v = uJ M a (upx (mJ M a) k v) := rfl
theorem sR_e (M : MM) (a k : Nat) (v : Nat) : sR M a k v = uR M a (upx (mR M a) k v) := rfl
theorem mI_uI (M : MM) (a : Nat) (r : Nat → Int32) (b : Nat) : mI (uI M a r) b = if b = a then r else mI M b := rfl
theorem mJ_uJ (M : MM) (a : Nat) (r : Nat → Int64) (b : Nat) : mJ (uJ M a r) b = if b = a then r else mJ M b := rfl
theorem mR_uR (M : MM) (a : Nat) (r : Nat → Nat) (b : Nat) : mR (uR M a r) b = if b = a then r else mR M b := rfl
theorem mI_uJ (M : MM) (a : Nat) (r : Nat → Int64) : mI (uJ M a r) = mI M := rfl
theorem mI_uR (M : MM) (a : Nat) (r : Nat → Nat) : mI (uR M a r) = mI M := rfl
theorem mJ_uI (M : MM) (a : Nat) (r : Nat → Int32) : mJ (uI M a r) = mJ M := rfl
theorem mJ_uR (M : MM) (a : Nat) (r : Nat → Nat) : mJ (uR M a r) = mJ M := rfl
theorem mR_uI (M : MM) (a : Nat) (r : Nat → Int32) : mR (uI M a r) = mR M := rfl
theorem mR_uJ (M : MM) (a : Nat) (r : Nat → Int64) : mR (uJ M a r) = mR M := rfl
theorem mK_uI (M : MM) (a : Nat) (r : Nat → Int32) : mK (uI M a r) = mK M := rfl
theorem mK_uJ (M : MM) (a : Nat) (r : Nat → Int64) : mK (uJ M a r) = mK M := rfl
theorem mK_uR (M : MM) (a : Nat) (r : Nat → Nat) : mK (uR M a r) = mK M := rfl
theorem mz_uI (M : MM) (a : Nat) (r : Nat → Int32) : mz (uI M a r) = mz M := rfl
theorem mz_uJ (M : MM) (a : Nat) (r : Nat → Int64) : mz (uJ M a r) = mz M := rfl
theorem mz_uR (M : MM) (a : Nat) (r : Nat → Nat) : mz (uR M a r) = mz M := rfl
theorem mn_uI (M : MM) (a : Nat) (r : Nat → Int32) : mn (uI M a r) = mn M := rfl
theorem mn_uJ (M : MM) (a : Nat) (r : Nat → Int64) : mn (uJ M a r) = mn M := rfl
theorem mn_uR (M : MM) (a : Nat) (r : Nat → Nat) : mn (uR M a r) = mn M := rfl
theorem upr_upr {α : Type} (f : Nat → α) (a : Nat) (g g' : α) : upr (upr f a g) a g' = upr f a g' := by
  funext x
  unfold upr
  by_cases h : x = a <;> simp [h]
theorem uI_uI (M : MM) (a : Nat) (r r' : Nat → Int32) : uI (uI M a r) a r' = uI M a r' := by
  unfold uI mI
  rw [upr_upr]
theorem uJ_uJ (M : MM) (a : Nat) (r r' : Nat → Int64) : uJ (uJ M a r) a r' = uJ M a r' := by
  unfold uJ mJ
  rw [upr_upr]
theorem upr_self {α : Type} (f : Nat → α) (a : Nat) : upr f a (f a) = f := by
  funext x
  unfold upr
  by_cases h : x = a <;> simp [h]
theorem uI_self (M : MM) (a : Nat) : uI M a (mI M a) = M := by
  unfold uI mI
  rw [upr_self]
theorem uJ_self (M : MM) (a : Nat) : uJ M a (mJ M a) = M := by
  unfold uJ mJ
  rw [upr_self]
theorem uI_eq {M : MM} {a : Nat} {r : Nat → Int32} (h : r = mI M a) : uI M a r = M := by rw [h, uI_self]
theorem uJ_eq {M : MM} {a : Nat} {r : Nat → Int64} (h : r = mJ M a) : uJ M a r = M := by rw [h, uJ_self]
theorem upx_e {α : Type} (f : Nat → α) (k : Nat) (v : α) (j : Nat) : upx f k v j = if j = k then v else f j := rfl
theorem upx_id {α : Type} (f : Nat → α) (k : Nat) : upx f k (f k) = f := upr_self f k
theorem upx_upx {α : Type} (f : Nat → α) (k : Nat) (v w : α) : upx (upx f k v) k w = upx f k w := upr_upr f k v w
def Sm (Is Js : List Nat) (M M' : MM) : Prop := mR M' = mR M ∧ mK M' = mK M ∧ mz M' = mz M ∧ mn M' = mn M ∧ (∀ a, a ∉ Is → mI M' a = mI M a) ∧ (∀ a, a ∉ Js → mJ M' a = mJ M a)
theorem Sm.r {Is Js : List Nat} {M M' : MM} (h : Sm Is Js M M') : mR M' = mR M := h.1
theorem Sm.k {Is Js : List Nat} {M M' : MM} (h : Sm Is Js M M') : mK M' = mK M := h.2.1
theorem Sm.z {Is Js : List Nat} {M M' : MM} (h : Sm Is Js M M') : mz M' = mz M := h.2.2.1
theorem Sm.n {Is Js : List Nat} {M M' : MM} (h : Sm Is Js M M') : mn M' = mn M := h.2.2.2.1
theorem Sm.i {Is Js : List Nat} {M M' : MM} (h : Sm Is Js M M') : ∀ a, a ∉ Is → mI M' a = mI M a := h.2.2.2.2.1
theorem Sm.j {Is Js : List Nat} {M M' : MM} (h : Sm Is Js M M') : ∀ a, a ∉ Js → mJ M' a = mJ M a := h.2.2.2.2.2
theorem Sm.rfl (Is Js : List Nat) (M : MM) : Sm Is Js M M := ⟨Eq.refl _, Eq.refl _, Eq.refl _, Eq.refl _, fun _ _ => Eq.refl _, fun _ _ => Eq.refl _⟩
theorem Sm.trans {Is Js : List Nat} {M M1 M2 : MM} (h : Sm Is Js M M1) (h2 : Sm Is Js M1 M2) : Sm Is Js M M2 := ⟨h2.r.trans h.r, h2.k.trans h.k, h2.z.trans h.z, h2.n.trans h.n, fun a q => (h2.i a q).trans (h.i a q), fun a q => (h2.j a q).trans (h.j a q)⟩
theorem Sm.more {Is Js Is' Js' : List Nat} {M M' : MM} (h : Sm Is Js M M') (hi : ∀ a ∈ Is, a ∈ Is') (hj : ∀ a ∈ Js, a ∈ Js') : Sm Is' Js' M M' := ⟨h.r, h.k, h.z, h.n, fun a q => h.i a (fun w => q (hi a w)), fun a q => h.j a (fun w => q (hj a w))⟩
theorem Sm.uI {Is Js : List Nat} {M M' : MM} (h : Sm Is Js M M') {a : Nat} (r : Nat → Int32) (ha : a ∈ Is) : Sm Is Js M (uI M' a r) := ⟨h.r, h.k, h.z, h.n, fun b q => by rw [mI_uI, if_neg (fun w => q (by rw [w]; exact ha)), h.i b q], h.j⟩
theorem Sm.uJ {Is Js : List Nat} {M M' : MM} (h : Sm Is Js M M') {a : Nat} (r : Nat → Int64) (ha : a ∈ Js) : Sm Is Js M (uJ M' a r) := ⟨h.r, h.k, h.z, h.n, h.i, fun b q => by rw [mJ_uJ, if_neg (fun w => q (by rw [w]; exact ha)), h.j b q]⟩
/-! numbers -/
theorem nI_mulN (a b : Nat) : nI a * nI b = nI (a * b) := (Int32.ofNat_mul a b).symm
theorem nI_subN {a b : Nat} (h : b ≤ a) : nI a - nI b = nI (a - b) := by
  have h1 : nI (a - b) + nI b = nI a := by rw [nI_add, Nat.sub_add_cancel h]
  rw [← h1]
  exact Int32.add_sub_cancel _ _
theorem lN_ti63 {n : Nat} (h : n < 2 ^ 63) : (lN n).toInt = (n : Int) := lg_ofNat_toInt (by omega)
theorem lN_leN {a b : Nat} (ha : a < 2 ^ 63) (hb : b < 2 ^ 63) : lN a ≤ lN b ↔ a ≤ b := by rw [Int64.le_iff_toInt_le, lN_ti63 ha, lN_ti63 hb]; omega
theorem lN_ltN {a b : Nat} (ha : a < 2 ^ 63) (hb : b < 2 ^ 63) : lN a < lN b ↔ a < b := by rw [Int64.lt_iff_toInt_lt, lN_ti63 ha, lN_ti63 hb]; omega
theorem lN_eqN {a b : Nat} (ha : a < 2 ^ 63) (hb : b < 2 ^ 63) : lN a = lN b ↔ a = b := by rw [← Int64.toInt_inj, lN_ti63 ha, lN_ti63 hb]; omega
theorem lN_ltM {a : Nat} (ha : a < 2 ^ 63) : ¬ lN a < 0 := by rw [Int64.lt_iff_toInt_lt, lN_ti63 ha]; show ¬ (a : Int) < 0; omega
theorem lN_neM {a : Nat} (ha : a < 2 ^ 63) : ¬ lN a = -1 := by
  rw [← Int64.toInt_inj, lN_ti63 ha]
  show ¬ (a : Int) = -1
  omega
theorem nI_neM {a : Nat} (ha : a < 2 ^ 31) : ¬ nI a = -1 := by
  rw [← Int32.toInt_inj, nI_toInt ha]
  show ¬ (a : Int) = -1
  omega
theorem nI_neM' {a : Nat} (ha : a < 2 ^ 31) : ¬ -1 = nI a := fun h => nI_neM ha h.symm
theorem nI_leM {a : Nat} (ha : a < 2 ^ 31) : ¬ nI a ≤ -1 := by
  rw [Int32.le_iff_toInt_le, nI_toInt ha]
  show ¬ (a : Int) ≤ -1
  omega
theorem nI_ltM {a : Nat} (ha : a < 2 ^ 31) : ¬ nI a < 0 := nI_pos ha
theorem nI_l64 {a : Nat} (h : a < 2 ^ 31) : (nI a).toInt64 = lN a := nI_l h
theorem FU_big {n : Nat} (h : n < 2 ^ 64) : n < FU := Nat.lt_trans h (by decide)
theorem x_cases (x : Int32) : x < 0 ∨ ∃ n, n < 2 ^ 31 ∧ x = nI n := by
  by_cases h : x < 0
  · exact .inl h
  · exact .inr (nI_of h)
/-! rows of ints and longs with an index tested -/
def gI (row : Nat → Int32) (n : Nat) (x : Int32) : Int32 := if x < 0 then -1 else if nI n ≤ x then -1 else row x.toNatClampNeg
def pI (row : Nat → Int32) (n : Nat) (x v : Int32) : Nat → Int32 := if x < 0 then row else if nI n ≤ x then row else upx row x.toNatClampNeg v
def gJ (row : Nat → Int64) (n : Nat) (x : Int32) : Int64 := if x < 0 then 1000000000000001 else if nI n ≤ x then 1000000000000001 else row x.toNatClampNeg
def pJ (row : Nat → Int64) (n : Nat) (x : Int32) (v : Int64) : Nat → Int64 := if x < 0 then row else if nI n ≤ x then row else upx row x.toNatClampNeg v
theorem gI_in {row : Nat → Int32} {n i : Nat} (h : i < n) (hn : n < 2 ^ 31) : gI row n (nI i) = row i := by
  rw [gI, if_neg (nI_pos (by omega)), if_neg (nI_ge h hn), nI_clamp (by omega)]
theorem gI_out {row : Nat → Int32} {n i : Nat} (h : n ≤ i) (hn : i < 2 ^ 31) : gI row n (nI i) = -1 := by
  rw [gI, if_neg (nI_pos (by omega)), if_pos (nI_le h hn)]
theorem gI_neg {row : Nat → Int32} {n : Nat} {x : Int32} (h : x < 0) : gI row n x = -1 := if_pos h
theorem pI_in {row : Nat → Int32} {n i : Nat} {v : Int32} (h : i < n) (hn : n < 2 ^ 31) : pI row n (nI i) v = upx row i v := by
  rw [pI, if_neg (nI_pos (by omega)), if_neg (nI_ge h hn), nI_clamp (by omega)]
theorem gJ_in {row : Nat → Int64} {n i : Nat} (h : i < n) (hn : n < 2 ^ 31) : gJ row n (nI i) = row i := by
  rw [gJ, if_neg (nI_pos (by omega)), if_neg (nI_ge h hn), nI_clamp (by omega)]
theorem pJ_in {row : Nat → Int64} {n i : Nat} {v : Int64} (h : i < n) (hn : n < 2 ^ 31) : pJ row n (nI i) v = upx row i v := by
  rw [pJ, if_neg (nI_pos (by omega)), if_neg (nI_ge h hn), nI_clamp (by omega)]
def IntsAt (M : MM) (a r n : Nat) : Prop := mK M a = (6, 1) ∧ mR M a 0 = r ∧ mK M r = (0, n)
def LongsAt (M : MM) (a r n : Nat) : Prop := mK M a = (7, 1) ∧ mR M a 0 = r ∧ mK M r = (1, n)
theorem S3_get {M : MM} {a r n : Nat} (h : IntsAt M a r n) (hn : n < 2 ^ 31) (x : Int32) : f3_get M a x = some (gI (mI M r) n x, M) := by
  obtain ⟨h1, h2, h3⟩ := h
  unfold f3_get gI
  by_cases hx : x < 0
  · rw [if_pos hx, if_pos hx]
  · rw [if_neg hx, if_neg hx, aO_e (by rw [h1]), h2, aL_e (by rw [h3]), h3]
    by_cases hx2 : nI n ≤ x
    · rw [if_pos hx2, if_pos hx2]
    · rw [if_neg hx2, if_neg hx2, aO_e (by rw [h1]), aA_x (by rw [h3]) hx]
      rw [h3]
      obtain ⟨j, hj, rfl⟩ := nI_of hx
      rw [nI_clamp hj]
      exact Nat.lt_of_not_le fun q => hx2 (nI_le q hj)
theorem S3_set {M : MM} {a r n : Nat} (h : IntsAt M a r n) (hn : n < 2 ^ 31) (x v : Int32) : f3_set M a x v = some (uI M r (pI (mI M r) n x v)) := by
  obtain ⟨h1, h2, h3⟩ := h
  unfold f3_set pI
  by_cases hx : x < 0
  · rw [if_pos hx, if_pos hx, uI_self]
  · rw [if_neg hx, if_neg hx, aO_e (by rw [h1]), h2, aL_e (by rw [h3]), h3]
    by_cases hx2 : nI n ≤ x
    · rw [if_pos hx2, if_pos hx2, uI_self]
    · rw [if_neg hx2, if_neg hx2, aO_e (by rw [h1]), aA_x (by rw [h3]) hx]
      · rfl
      rw [h3]
      obtain ⟨j, hj, rfl⟩ := nI_of hx
      rw [nI_clamp hj]
      exact Nat.lt_of_not_le fun q => hx2 (nI_le q hj)
theorem S4_get {M : MM} {a r n : Nat} (h : LongsAt M a r n) (hn : n < 2 ^ 31) (x : Int32) : f4_get M a x = some (gJ (mJ M r) n x, M) := by
  obtain ⟨h1, h2, h3⟩ := h
  unfold f4_get gJ
  by_cases hx : x < 0
  · rw [if_pos hx, if_pos hx]
  · rw [if_neg hx, if_neg hx, aO_e (by rw [h1]), h2, aL_e (by rw [h3]), h3]
    by_cases hx2 : nI n ≤ x
    · rw [if_pos hx2, if_pos hx2]
    · rw [if_neg hx2, if_neg hx2, aO_e (by rw [h1]), aA_x (by rw [h3]) hx]
      rw [h3]
      obtain ⟨j, hj, rfl⟩ := nI_of hx
      rw [nI_clamp hj]
      exact Nat.lt_of_not_le fun q => hx2 (nI_le q hj)
theorem S4_set {M : MM} {a r n : Nat} (h : LongsAt M a r n) (hn : n < 2 ^ 31) (x : Int32) (v : Int64) : f4_set M a x v = some (uJ M r (pJ (mJ M r) n x v)) := by
  obtain ⟨h1, h2, h3⟩ := h
  unfold f4_set pJ
  by_cases hx : x < 0
  · rw [if_pos hx, if_pos hx, uJ_self]
  · rw [if_neg hx, if_neg hx, aO_e (by rw [h1]), h2, aL_e (by rw [h3]), h3]
    by_cases hx2 : nI n ≤ x
    · rw [if_pos hx2, if_pos hx2, uJ_self]
    · rw [if_neg hx2, if_neg hx2, aO_e (by rw [h1]), aA_x (by rw [h3]) hx]
      · rfl
      rw [h3]
      obtain ⟨j, hj, rfl⟩ := nI_of hx
      rw [nI_clamp hj]
      exact Nat.lt_of_not_le fun q => hx2 (nI_le q hj)
theorem LfillI {M : MM} {a n : Nat} {v : Int32} (hk : mK M a = (0, n)) (hn : n < 2 ^ 31) (g : Nat → Int32) : ∀ (d i : Nat), i + d = n → ∀ f, d < f → LP5 fJ_fillI_b5_body f (uI M a (fun k => if k < i then v else g k)) a v (nI i) (nI n) = some (uI M a (fun k => if k < n then v else g k))
  | 0, i, hi, f + 1, _ => by
    show fJ_fillI_b5_body _ _ _ _ _ _ = _
    unfold fJ_fillI_b5_body
    have e : i = n := by omega
    subst e
    rw [if_pos (nI_le (Nat.le_refl _) hn)]
  | d + 1, i, hi, f + 1, hf => by
    show fJ_fillI_b5_body _ _ _ _ _ _ = _
    unfold fJ_fillI_b5_body
    rw [if_neg (nI_ge (by omega) hn), aA_e (by rw [mK_uI, hk]) (by rw [mK_uI, hk]; show i < n; omega) (by omega), bM_e, sI_e, mI_uI, if_pos rfl, uI_uI, nI_clamp (by omega), nI_1]
    rw [show upx (fun k => if k < i then v else g k) i v = (fun k => if k < i + 1 then v else g k) from ?_]
    · exact LfillI hk hn g d (i + 1) (by omega) f (by omega)
    · funext k
      rw [upx_e]
      by_cases h1 : k = i
      · rw [if_pos h1, if_pos (by omega)]
      · by_cases h2 : k < i
        · rw [if_neg h1, if_pos h2, if_pos (by omega)]
        · rw [if_neg h1, if_neg h2, if_neg (by omega)]
theorem SJ_fillI {M : MM} {a n : Nat} {v : Int32} (hk : mK M a = (0, n)) (hn : n < 2 ^ 31) : fJ_fillI M a v = some (uI M a (fun k => if k < n then v else mI M a k)) := by
  unfold fJ_fillI
  rw [aL_e (by rw [hk]), bW_e, hk]
  have h := LfillI (v := v) hk hn (mI M a) n 0 (by omega) FU (FU_big (by omega))
  rw [uI_eq (by funext k; rw [if_neg (Nat.not_lt_zero k)])] at h
  exact h
theorem LfillJ {M : MM} {a n : Nat} {v : Int64} (hk : mK M a = (1, n)) (hn : n < 2 ^ 31) (g : Nat → Int64) : ∀ (d i : Nat), i + d = n → ∀ f, d < f → LP5 fJ_fillL_b6_body f (uJ M a (fun k => if k < i then v else g k)) a v (nI i) (nI n) = some (uJ M a (fun k => if k < n then v else g k))
  | 0, i, hi, f + 1, _ => by
    show fJ_fillL_b6_body _ _ _ _ _ _ = _
    unfold fJ_fillL_b6_body
    have e : i = n := by omega
    subst e
    rw [if_pos (nI_le (Nat.le_refl _) hn)]
  | d + 1, i, hi, f + 1, hf => by
    show fJ_fillL_b6_body _ _ _ _ _ _ = _
    unfold fJ_fillL_b6_body
    rw [if_neg (nI_ge (by omega) hn), aA_e (by rw [mK_uJ, hk]) (by rw [mK_uJ, hk]; show i < n; omega) (by omega), bM_e, sJ_e, mJ_uJ, if_pos rfl, uJ_uJ, nI_clamp (by omega), nI_1]
    rw [show upx (fun k => if k < i then v else g k) i v = (fun k => if k < i + 1 then v else g k) from ?_]
    · exact LfillJ hk hn g d (i + 1) (by omega) f (by omega)
    · funext k
      rw [upx_e]
      by_cases h1 : k = i
      · rw [if_pos h1, if_pos (by omega)]
      · by_cases h2 : k < i
        · rw [if_neg h1, if_pos h2, if_pos (by omega)]
        · rw [if_neg h1, if_neg h2, if_neg (by omega)]
theorem SJ_fillL {M : MM} {a n : Nat} {v : Int64} (hk : mK M a = (1, n)) (hn : n < 2 ^ 31) : fJ_fillL M a v = some (uJ M a (fun k => if k < n then v else mJ M a k)) := by
  unfold fJ_fillL
  rw [aL_e (by rw [hk]), bW_e, hk]
  have h := LfillJ (v := v) hk hn (mJ M a) n 0 (by omega) FU (FU_big (by omega))
  rw [uJ_eq (by funext k; rw [if_neg (Nat.not_lt_zero k)])] at h
  exact h
theorem S3_fill {M : MM} {a r n : Nat} (h : IntsAt M a r n) (hn : n < 2 ^ 31) (v : Int32) : f3_fill M a v = some (uI M r (fun k => if k < n then v else mI M r k)) := by
  obtain ⟨h1, h2, h3⟩ := h
  unfold f3_fill
  rw [aO_e (by rw [h1]), h2, SJ_fillI h3 hn]
  rfl
theorem S4_fill {M : MM} {a r n : Nat} (h : LongsAt M a r n) (hn : n < 2 ^ 31) (v : Int64) : f4_fill M a v = some (uJ M r (fun k => if k < n then v else mJ M r k)) := by
  obtain ⟨h1, h2, h3⟩ := h
  unfold f4_fill
  rw [aO_e (by rw [h1]), h2, SJ_fillL h3 hn]
  rfl
