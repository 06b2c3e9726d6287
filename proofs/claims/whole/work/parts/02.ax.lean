/-! THE MACHINE SEEN AS ONE MEMORY: rows of ints, longs and references by a cell's number; a method's contract over it -/
abbrev AV : Type := Int32 ⊕ (Int64 ⊕ Nat)
abbrev MM : Type := (Nat → Nat → Int32) × (Nat → Nat → Int64) × (Nat → Nat → Nat) × (Nat → Nat × Nat) × Nat × Nat
abbrev vi (x : Int32) : AV := .inl x
abbrev vl (x : Int64) : AV := .inr (.inl x)
abbrev vr (a : Nat) : AV := .inr (.inr a)
def mI (M : MM) : Nat → Nat → Int32 := M.1
def mJ (M : MM) : Nat → Nat → Int64 := M.2.1
def mR (M : MM) : Nat → Nat → Nat := M.2.2.1
def mK (M : MM) : Nat → Nat × Nat := M.2.2.2.1
def mz (M : MM) : Nat := M.2.2.2.2.1
def mn (M : MM) : Nat := M.2.2.2.2.2
def upr {α : Type} (f : Nat → α) (a : Nat) (g : α) : Nat → α := fun x => if x = a then g else f x
def upx {α : Type} (f : Nat → α) (k : Nat) (v : α) : Nat → α := fun j => if j = k then v else f j
def sI (M : MM) (a k : Nat) (v : Int32) : MM := (upr (mI M) a (upx (mI M a) k v), M.2)
def sJ (M : MM) (a k : Nat) (v : Int64) : MM := (M.1, upr (mJ M) a (upx (mJ M a) k v), M.2.2)
def sR (M : MM) (a k : Nat) (v : Nat) : MM := (M.1, M.2.1, upr (mR M) a (upx (mR M a) k v), M.2.2.2)
def nw (M : MM) (kd len : Nat) : MM := (upr (mI M) (mz M) (fun _ => 0), upr (mJ M) (mz M) (fun _ => 0), upr (mR M) (mz M) (fun _ => 0), upr (mK M) (mz M) (kd, len), mz M + 1, mn M + len)
abbrev CG : Type := va_G × ClassId × ClassId × ClassId
def rr (ad : Nat → Nat) (a : Nat) : Value := if a = 0 then .null else .ref (ad a)
def rv (ad : Nat → Nat) : AV → Value
  | .inl x => .int x
  | .inr (.inl x) => .long x
  | .inr (.inr a) => rr ad a
def fV (ad : Nat → Nat) (M : MM) (r ci k : Nat) : Value := match tyC ci k with
  | 0 => .int (mI M r k)
  | 1 => .long (mJ M r k)
  | _ => rr ad (mR M r k)
def cO (G : CG) (ad : Nat → Nat) (M : MM) (r : Nat) : va_E := match (mK M r).1 with
  | 0 => .inl (G.2.1, (mK M r).2, .inl (mI M r))
  | 1 => .inl (G.2.2.1, (mK M r).2, .inr (.inl (mJ M r)))
  | 2 => .inl (G.2.2.2, (mK M r).2, .inl (mI M r))
  | c + 3 => .inr (c, (List.range (mK M r).2).map (fV ad M r c))
def wsOf (G : CG) (ad : Nat → Nat) (M : MM) : va_W := (List.range (mz M - 1)).map (fun j => (ad (j + 1), cO G ad M (j + 1)))
def WF (M : MM) : Prop := 1 ≤ mz M ∧ (mK M 0).1 = 1000 ∧ (∀ r, mz M ≤ r → (mK M r).1 = 1000) ∧ (∀ r k, mR M r k < mz M) ∧ (∀ r c, (mK M r).1 = c + 3 → ∀ q, vwCl[c]? = some q → (mK M r).2 = q.2.2)
def okv (M : MM) : AV → Prop
  | .inr (.inr a) => a < mz M
  | _ => True
def Mono (M M' : MM) : Prop := mz M ≤ mz M' ∧ mn M ≤ mn M'
def gT : List Cond := lw_tbl.filter goodWord
def nestW : List Cond := lw_tbl.filter (fun w => match w with | .methodLinkNest .. => true | _ => false)
def tysG (G : CG) : List (ClassId × FieldType) := [(G.2.1, .int), (G.2.2.1, .long), (G.2.2.2, .boolean)]
def WK (G : CG) (s : State) : Prop := va_K G.1 vwCl (tysG G) s ∧ ∀ w ∈ nestW, va_Nw w s
theorem gw {w : Cond} (i : Nat) (h : lw_tbl[i]? = some w) (g : goodWord w = true) : w ∈ gT := List.mem_filter.mpr ⟨List.mem_of_getElem? h, g⟩
theorem gT_good : GoodIn gT gT := fun w h => ⟨h, good_of_word (List.mem_filter.mp h).2⟩
theorem upr_same {α : Type} (f : Nat → α) (a : Nat) (g : α) : upr f a g a = g := if_pos rfl
theorem upr_ne {α : Type} (f : Nat → α) {a b : Nat} (g : α) (h : b ≠ a) : upr f a g b = f b := if_neg h
theorem upx_same {α : Type} (f : Nat → α) (a : Nat) (g : α) : upx f a g a = g := if_pos rfl
theorem upx_ne {α : Type} (f : Nat → α) {a b : Nat} (g : α) (h : b ≠ a) : upx f a g b = f b := if_neg h
theorem ws_get {G : CG} {ad : Nat → Nat} {M : MM} {a : Nat} (h0 : 0 < a) (h : a < mz M) : (wsOf G ad M)[a - 1]? = some (ad a, cO G ad M a) := by
  have h1 : a - 1 < mz M - 1 := by omega
  have h2 : a - 1 + 1 = a := by omega
  simp only [wsOf, List.getElem?_map, List.getElem?_range h1, Option.map_some, h2]
theorem ws_set {G : CG} {ad : Nat → Nat} {M M' : MM} {a : Nat} (h0 : 0 < a) (hz : mz M' = mz M) (hr : ∀ r, r ≠ a → cO G ad M' r = cO G ad M r) : (wsOf G ad M).set (a - 1) (ad a, cO G ad M' a) = wsOf G ad M' := by
  apply List.ext_getElem?
  intro j
  simp only [wsOf, hz, List.getElem?_set, List.length_map, List.length_range, List.getElem?_map]
  by_cases hj : j < mz M - 1
  · rw [List.getElem?_range hj]
    by_cases hja : a - 1 = j
    · have e : j + 1 = a := by omega
      simp [hja, hj, e]
    · have e : j + 1 ≠ a := by omega
      simp [hja, hr _ e]
  · have e : (List.range (mz M - 1))[j]? = none := by simp; omega
    rw [e]
    by_cases hja : a - 1 = j
    · simp [hja, hj]
    · simp [hja]
theorem rr_ag {ad ad' : Nat → Nat} {n a : Nat} (h : ∀ j, j < n → ad' j = ad j) (ha : a < n) : rr ad' a = rr ad a := by
  unfold rr
  rw [h a ha]
theorem rv_ag {ad ad' : Nat → Nat} {M : MM} {v : AV} (h : ∀ j, j < mz M → ad' j = ad j) (hv : okv M v) : rv ad' v = rv ad v := by
  rcases v with x | x | a
  · rfl
  · rfl
  · exact rr_ag h hv
theorem fV_ag {ad ad' : Nat → Nat} {M : MM} (hW : WF M) (h : ∀ j, j < mz M → ad' j = ad j) (r ci k : Nat) : fV ad' M r ci k = fV ad M r ci k := by
  unfold fV
  split
  · rfl
  · rfl
  · exact rr_ag h (hW.2.2.2.1 r k)
theorem cO_ag {G : CG} {ad ad' : Nat → Nat} {M : MM} (hW : WF M) (h : ∀ j, j < mz M → ad' j = ad j) (r : Nat) : cO G ad' M r = cO G ad M r := by
  unfold cO
  split
  · rfl
  · rfl
  · rfl
  · rw [show fV ad' M r _ = fV ad M r _ from funext fun k => fV_ag hW h r _ k]
theorem ws_ag {G : CG} {ad ad' : Nat → Nat} {M : MM} (hW : WF M) (h : ∀ j, j < mz M → ad' j = ad j) : wsOf G ad' M = wsOf G ad M := by
  unfold wsOf
  refine List.map_congr_left fun j hj => ?_
  have hj := List.mem_range.mp hj
  rw [h (j + 1) (by omega), cO_ag hW h]
theorem mz_nw (M : MM) (kd len : Nat) : mz (nw M kd len) = mz M + 1 := rfl
theorem fV_nw {ad : Nat → Nat} {M : MM} {kd len r ci k : Nat} (h : r ≠ mz M) : fV ad (nw M kd len) r ci k = fV ad M r ci k := by
  unfold fV nw mI mJ mR
  simp only [upr_ne _ _ h, mI, mJ, mR]
theorem cO_nw {G : CG} {ad : Nat → Nat} {M : MM} {kd len r : Nat} (h : r ≠ mz M) : cO G ad (nw M kd len) r = cO G ad M r := by
  have e1 : mK (nw M kd len) r = mK M r := upr_ne _ _ h
  have e2 : mI (nw M kd len) r = mI M r := upr_ne _ _ h
  have e3 : mJ (nw M kd len) r = mJ M r := upr_ne _ _ h
  have e4 : ∀ c, fV ad (nw M kd len) r c = fV ad M r c := fun c => funext fun k => fV_nw h
  unfold cO
  rw [e1, e2, e3]
  simp only [e4]
theorem ws_push {G : CG} {ad : Nat → Nat} {M : MM} {kd len q : Nat} (hW : WF M) : wsOf G ad M ++ [(q, cO G (upx ad (mz M) q) (nw M kd len) (mz M))] = wsOf G (upx ad (mz M) q) (nw M kd len) := by
  obtain ⟨n, hn⟩ : ∃ n, mz M = n + 1 := ⟨mz M - 1, by have := hW.1; omega⟩
  have ha : ∀ j, j < mz M → upx ad (mz M) q j = ad j := fun j hj => upx_ne _ _ (Nat.ne_of_lt hj)
  show _ = (List.range (mz M + 1 - 1)).map _
  rw [Nat.add_sub_cancel, hn, List.range_succ, List.map_append, ← hn]
  have e : wsOf G ad M = wsOf G (upx ad (mz M) q) M := (ws_ag hW ha).symm
  rw [e]
  congr 1
  · unfold wsOf
    rw [hn, Nat.add_sub_cancel]
    refine List.map_congr_left fun j hj => ?_
    have hj := List.mem_range.mp hj
    rw [cO_nw (by omega)]
  · simp [← hn, upx]
