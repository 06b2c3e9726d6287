/-! new cells, ends, calls -/
theorem WF_nw {M : MM} {kd len : Nat} (h : WF M) (hkd : kd ≠ 1000) (hc : ∀ c, kd = c + 3 → ∀ q, vwCl[c]? = some q → len = q.2.2) : WF (nw M kd len) := by
  obtain ⟨h1, h2, h3, h4, h5⟩ := h
  have hz : mz (nw M kd len) = mz M + 1 := rfl
  have hK : ∀ r, mK (nw M kd len) r = if r = mz M then (kd, len) else mK M r := fun r => rfl
  have hR : ∀ r k, mR (nw M kd len) r k = if r = mz M then 0 else mR M r k := fun r k => by
    show upr (mR M) (mz M) (fun _ => 0) r k = _
    unfold upr
    split <;> rfl
  refine ⟨by omega, ?_, ?_, ?_, ?_⟩
  · rw [hK, if_neg (by omega)]
    exact h2
  · intro r hr
    rw [hK, if_neg (by omega)]
    exact h3 r (by omega)
  · intro r k
    rw [hR]
    split
    · omega
    · have := h4 r k
      omega
  · intro r c hr q hq
    rw [hK] at hr ⊢
    split at hr
    · rename_i e
      rw [if_pos e]
      exact hc c hr q hq
    · rename_i e
      rw [if_neg e]
      exact h5 r c hr q hq
theorem okv_le {M M' : MM} (h : mz M ≤ mz M') {v : AV} (hv : okv M v) : okv M' v := by
  rcases v with x | x | a
  · trivial
  · trivial
  · exact Nat.lt_of_lt_of_le hv h
theorem OK_le {M M' : MM} (h : mz M ≤ mz M') {lv : List (Nat × AV)} {st : List AV} (hv : OK M lv st) : OK M' lv st := ⟨fun q hq => okv_le h (hv.1 q hq), fun v hq => okv_le h (hv.2 v hq)⟩
theorem lm_ag {ad ad' : Nat → Nat} {M : MM} (h : ∀ j, j < mz M → ad' j = ad j) {lv : List (Nat × AV)} (hv : ∀ q ∈ lv, okv M q.2) : lv.map (lm ad') = lv.map (lm ad) :=
  List.map_congr_left fun q hq => by
    show (q.1, rv ad' q.2) = (q.1, rv ad q.2)
    rw [rv_ag h (hv q hq)]
theorem st_ag {ad ad' : Nat → Nat} {M : MM} (h : ∀ j, j < mz M → ad' j = ad j) {st : List AV} (hv : ∀ v ∈ st, okv M v) : st.map (rv ad') = st.map (rv ad) :=
  List.map_congr_left fun v hq => rv_ag h (hv v hq)
/-- an array's class as the world has it -/
theorem cls_of {D : va_G} {tys : List (ClassId × FieldType)} {s : State} {cA cB : ClassId} {ty : FieldType} (hp : ty = .int ∨ ty = .long ∨ ty = .boolean) (h1 : va_K D vwCl tys s) {k : Nat} (hk : tys[k]? = some (cA, ty)) (h2 : va_RA s cB ty) : cB = cA := by
  have h3 := (h1.2 k _ hk).2
  rcases hp with z | z | z <;> subst z
  · exact Option.some.inj ((va_nm_int h2).symm.trans (va_nm_int h3))
  · exact Option.some.inj ((va_nm_long h2).symm.trans (va_nm_long h3))
  · exact Option.some.inj ((va_nm_boolean h2).symm.trans (va_nm_boolean h3))
theorem rv0 (ad : Nat → Nat) : rr ad 0 = .null := rfl
theorem mK_nw (M : MM) (kd len : Nat) : mK (nw M kd len) (mz M) = (kd, len) := upr_same _ _ _
theorem mI_nw (M : MM) (kd len : Nat) : mI (nw M kd len) (mz M) = fun _ => 0 := upr_same _ _ _
theorem mJ_nw (M : MM) (kd len : Nat) : mJ (nw M kd len) (mz M) = fun _ => 0 := upr_same _ _ _
theorem mR_nw (M : MM) (kd len : Nat) : mR (nw M kd len) (mz M) = fun _ => 0 := upr_same _ _ _
section XC
variable {β : Type} {L : β → Option AV × MM} {i : MI} {pc : Nat} {lv : List (Nat × AV)} {st : List AV} {M : MM} {o : Option β}
/-- a new cell -/
theorem X_alloc {pc' kd len : Nat} {st0 : List AV} (hkd : kd ≠ 1000) (hcl : ∀ c, kd = c + 3 → ∀ q, vwCl[c]? = some q → len = q.2.2) (hsub : OK M lv st0 → OK M lv st)
    (hs : ∀ (p : Program) (l : Launch) (e : Env) (R : Room) (s : State) (m : MethodId) (args : Array Value) (below : List Frame) (meth : Method) (c : Code) (H : Heap) (locs : List Loc) (ls : Array Slot) (cells slots : Nat) (Q : State → Prop) (A : Nat → Prop) (G : CG) (ad : Nat → Nat), Sit i p R s m args meth c → World G ad A M s H locs → cells + 1 ≤ R.cells → slots + len ≤ R.slots →
      (∀ (q : Nat) (H1 : Heap), va_P G.1 vwCl (wsOf G ad M ++ [(q, cO G (upx ad (mz M) q) (nw M kd len) (mz M))]) H1 → va_D A (wsOf G ad M ++ [(q, cO G (upx ad (mz M) q) (nw M kd len) (mz M))]) → va_S A s.heap H1 locs → W p l e R s m args below meth c H1 locs (cells + 1) (slots + len) Q (F0 m pc' ls (.ref q :: st.map (rv ad)))) → W p l e R s m args below meth c H locs cells slots Q (F0 m pc ls (st0.map (rv ad))))
    (kk : X L i pc' lv (vr (mz M) :: st) (nw M kd len) o) : X L i pc lv st0 M o := by
  intro q hq hW hO
  have hO1 := hsub hO
  have hWn := WF_nw hW hkd hcl
  obtain ⟨h1, h2⟩ := kk q hq hWn ((OK_le (Nat.le_succ _) hO1).push (Nat.lt_succ_self (mz M)))
  have hz : mz (nw M kd len) = mz M + 1 := rfl
  have hnn : mn (nw M kd len) = mn M + len := rfl
  have m1 := h1.1.1
  have m2 := h1.1.2
  refine ⟨⟨⟨by omega, by omega⟩, h1.2⟩, ?_⟩
  intro p l e R s m args below meth c H locs ls cells slots A G ad n S hw hl hn hc hs2
  refine hs p l e R s m args below meth c H locs ls cells slots _ A G ad S hw (by omega) (by omega) fun x H1 hP hD hS => ?_
  have ha : ∀ j, j < mz M → upx ad (mz M) x j = ad j := fun j hj => upx_ne _ _ (Nat.ne_of_lt hj)
  rw [ws_push hW] at hP hD
  have hk2 := h2 p l e R s m args below meth c H1 locs ls (cells + 1) (slots + len) A G (upx ad (mz M) x) n S ⟨hw.1, hP, hD, hS, hw.2.2.2.2⟩ (by rw [lm_ag ha hO1.1]; exact hl) (by omega) (by omega) (by omega)
  have e : (vr (mz M) :: st).map (rv (upx ad (mz M) x)) = .ref x :: st.map (rv ad) := by
    rw [List.map_cons, st_ag ha hO1.2]
    show rr (upx ad (mz M) x) (mz M) :: _ = _
    rw [rr_ne hW.1, upx_same]
  rw [e] at hk2
  exact W_imp (fun t ht => MQ.imp (fun oc hq => hq.ag (Nat.le_refl n) (fun j hj => ha j (Nat.lt_of_lt_of_le hj hn))) ht) hk2
theorem X_newI {x : Int32} (hd : decode (ib i) pc = .ok (.newarray .int, 2)) (hw : Cond.arrayClass .int ∈ gT) (kk : X L i (pc + 2) lv (vr (mz M) :: st) (nw M 0 x.toNatClampNeg) o) : X L i pc lv (vi x :: st) M (gd (¬ x < 0 ∧ x.toNatClampNeg ≤ 60000000) o) :=
  X_gd fun hc => X_alloc (by decide) (fun c h => by omega) OK.pop (fun p l e R s m args below meth c H locs ls cells slots Q A G ad S hwd h1 h2 kk => by
    have hcO : ∀ q, cO G (upx ad (mz M) q) (nw M 0 x.toNatClampNeg) (mz M) = .inl (G.2.1, x.toNatClampNeg, .inl (fun _ => 0)) := fun q => by
      rw [cO_int (by rw [mK_nw]), mK_nw, mI_nw]
    refine va_newa (atype := .int) (ty := .int) (a0 := (x.toNatClampNeg, .inl (fun _ => 0))) (N' := x.toNatClampNeg) S.1 S.2.1 (S.2.2.2.2.1 _ hw) rfl hwd.1.1 hwd.2.1 hwd.2.2.1 hwd.2.2.2.1 hwd.2.2.2.2 (fun cA => rfl) hc.1 rfl (by show x.toNatClampNeg * 4 ≤ 536870912; omega) h1 h2 hd fun q cA H1 hK hP hD hS => ?_
    have e : cA = G.2.1 := cls_of (Or.inl rfl) hwd.1.1 (k := 0) rfl (hK.2 3 _ rfl).2
    subst e
    rw [← hcO q] at hP hD
    exact kk q H1 hP hD hS) kk
theorem X_newJ {x : Int32} (hd : decode (ib i) pc = .ok (.newarray .long, 2)) (hw : Cond.arrayClass .long ∈ gT) (kk : X L i (pc + 2) lv (vr (mz M) :: st) (nw M 1 x.toNatClampNeg) o) : X L i pc lv (vi x :: st) M (gd (¬ x < 0 ∧ x.toNatClampNeg ≤ 60000000) o) :=
  X_gd fun hc => X_alloc (by decide) (fun c h => by omega) OK.pop (fun p l e R s m args below meth c H locs ls cells slots Q A G ad S hwd h1 h2 kk => by
    have hcO : ∀ q, cO G (upx ad (mz M) q) (nw M 1 x.toNatClampNeg) (mz M) = .inl (G.2.2.1, x.toNatClampNeg, .inr (.inl (fun _ => 0))) := fun q => by
      rw [cO_long (by rw [mK_nw]), mK_nw, mJ_nw]
    refine va_newa (atype := .long) (ty := .long) (a0 := (x.toNatClampNeg, .inr (.inl (fun _ => 0)))) (N' := x.toNatClampNeg) S.1 S.2.1 (S.2.2.2.2.1 _ hw) rfl hwd.1.1 hwd.2.1 hwd.2.2.1 hwd.2.2.2.1 hwd.2.2.2.2 (fun cA => rfl) hc.1 rfl (by show x.toNatClampNeg * 8 ≤ 536870912; omega) h1 h2 hd fun q cA H1 hK hP hD hS => ?_
    have e : cA = G.2.2.1 := cls_of (Or.inr (Or.inl rfl)) hwd.1.1 (k := 1) rfl (hK.2 3 _ rfl).2
    subst e
    rw [← hcO q] at hP hD
    exact kk q H1 hP hD hS) kk
theorem X_newZ {x : Int32} (hd : decode (ib i) pc = .ok (.newarray .boolean, 2)) (hw : Cond.arrayClass .boolean ∈ gT) (kk : X L i (pc + 2) lv (vr (mz M) :: st) (nw M 2 x.toNatClampNeg) o) : X L i pc lv (vi x :: st) M (gd (¬ x < 0 ∧ x.toNatClampNeg ≤ 60000000) o) :=
  X_gd fun hc => X_alloc (by decide) (fun c h => by omega) OK.pop (fun p l e R s m args below meth c H locs ls cells slots Q A G ad S hwd h1 h2 kk => by
    have hcO : ∀ q, cO G (upx ad (mz M) q) (nw M 2 x.toNatClampNeg) (mz M) = .inl (G.2.2.2, x.toNatClampNeg, .inl (fun _ => 0)) := fun q => by
      rw [cO_bool (by rw [mK_nw]), mK_nw, mI_nw]
    refine va_newa (atype := .boolean) (ty := .boolean) (a0 := (x.toNatClampNeg, .inl (fun _ => 0))) (N' := x.toNatClampNeg) S.1 S.2.1 (S.2.2.2.2.1 _ hw) rfl hwd.1.1 hwd.2.1 hwd.2.2.1 hwd.2.2.2.1 hwd.2.2.2.2 (fun cA => rfl) hc.1 rfl (by show x.toNatClampNeg * 1 ≤ 536870912; omega) h1 h2 hd fun q cA H1 hK hP hD hS => ?_
    have e : cA = G.2.2.2 := cls_of (Or.inr (Or.inr rfl)) hwd.1.1 (k := 2) rfl (hK.2 3 _ rfl).2
    subst e
    rw [← hcO q] at hP hD
    exact kk q H1 hP hD hS) kk
/-- a class that the words let be made: its number, its name, how many fields -/
def NC (own : String) (idx ci N : Nat) : Prop := ∃ (C : String) (T : u_T) (ty0 : Nat → FieldType), vwCl[ci]? = some (C, T, N) ∧ Cond.classLink own idx C ∈ gT ∧ Cond.instantiable C N ∈ gT ∧ Cond.initialized C ∈ gT ∧ (∀ w ∈ u_ws C T N, w ∈ gT) ∧ (∀ k, k < N → parseFieldDescriptor (T k).2.2.1 = some (ty0 k)) ∧ (∀ j, j < N → defaultValue (ty0 j) = (match tyC ci j with | 0 => .int 0 | 1 => .long 0 | _ => .null))
theorem X_new {idx ci N : Nat} (hd : decode (ib i) pc = .ok (.new idx, 3)) (hn : NC (iy i).cls idx ci N) (kk : X L i (pc + 3) lv (vr (mz M) :: st) (nw M (ci + 3) N) o) : X L i pc lv st M o := by
  obtain ⟨C, T, ty0, f1, f2, f3, f4, f5, f6, f7⟩ := hn
  have hci : ci < 997 := by
    rcases Nat.lt_or_ge ci 997 with q | q
    · exact q
    · have : vwCl[ci]? = none := List.getElem?_eq_none (by show 13 ≤ ci; omega)
      rw [this] at f1
      cases f1
  have hcl : ∀ c, ci + 3 = c + 3 → ∀ q, vwCl[c]? = some q → N = q.2.2 := fun c h q hq => by
    have e : c = ci := by omega
    subst e
    rw [f1] at hq
    cases hq
    rfl
  refine X_alloc (by omega) hcl (fun h => h) (fun p l e R s m args below meth c H locs ls cells slots Q A G ad S hwd h1 h2 kk => ?_) kk
  have hcO : ∀ q, cO G (upx ad (mz M) q) (nw M (ci + 3) N) (mz M) = .inr (ci, (List.range N).map (fV ad (nw M (ci + 3) N) (mz M) ci)) := fun q => by
    rw [cO_obj (by rw [mK_nw]), mK_nw]
    show Sum.inr (ci, (List.range N).map _) = _
    rw [show fV (upx ad (mz M) q) (nw M (ci + 3) N) (mz M) ci = fV ad (nw M (ci + 3) N) (mz M) ci from funext fun k => by
      unfold fV
      rw [mR_nw]
      rfl]
  refine va_new (ci := ci) (fs := (List.range N).map (fV ad (nw M (ci + 3) N) (mz M) ci)) (C := C) (T := T) (N := N) S.1 S.2.1 S.2.2.2.2.1 f5 ty0 f6 S.2.2.2.1 (S.2.2.2.2.1 _ f2) (S.2.2.2.2.1 _ f3) (S.2.2.2.2.1 _ f4) hwd.1.1 hwd.2.1 hwd.2.2.1 hwd.2.2.2.1 hwd.2.2.2.2 f1 (fun j hj => ?_) h1 h2 hd fun q H1 hP hD hS => ?_
  · rw [f7 j hj]
    unfold vp_V
    rw [List.getD_eq_getElem?_getD, fs_get _ hj]
    show _ = fV ad (nw M (ci + 3) N) (mz M) ci j
    unfold fV
    rw [mI_nw, mJ_nw, mR_nw]
    rfl
  · rw [← hcO q] at hP hD
    exact kk q H1 hP hD hS
/-! ends -/
theorem X_end {r : Option AV} {b : β} (hL : L b = (r, M)) (hr : ∀ v, r = some v → v ∈ st)
    (hs : ∀ (p : Program) (l : Launch) (e : Env) (R : Room) (s : State) (m : MethodId) (args : Array Value) (below : List Frame) (meth : Method) (c : Code) (H : Heap) (locs : List Loc) (ls : Array Slot) (cells slots : Nat) (A : Nat → Prop) (G : CG) (ad : Nat → Nat) (Qc : Array Value → State → Outcome → State → Prop), Sit i p R s m args meth c →
      (∀ t : State, t.heap = H → Qc args s (.returned (r.map (rv ad))) t) → (∀ q ∈ locs, A q.base) → W p l e R s m args below meth c H locs cells slots (MQ below Qc args s cells slots A) (F0 m pc ls (st.map (rv ad)))) : X L i pc lv st M (some b) := by
  intro q hq hW hO
  cases hq
  rw [hL]
  refine ⟨⟨⟨Nat.le_refl _, Nat.le_refl _⟩, hW, fun v hv => hO.2 v (hr v hv)⟩, ?_⟩
  intro p l e R s m args below meth c H locs ls cells slots A G ad n S hw hl hn hc hs2
  have e1 : cells = R.cells := by simpa using hc
  have e2 : slots = R.slots := by simpa using hs2
  subst e1
  subst e2
  exact hs p l e R s m args below meth c H locs ls R.cells R.slots A G ad _ S (fun t ht => ⟨⟨ad, fun _ _ => rfl, rfl, by rw [ht]; exact hw.2.1, hw.2.2.1⟩, hw.2.2.2.1.F ht⟩) hw.2.2.2.1.2.2
theorem X_ireturn {x : Int32} {b : β} (hd : decode (ib i) pc = .ok (.ireturn, 1)) (hri : ir i = some .int) (hL : L b = (some (vi x), M)) : X L i pc lv [vi x] M (some b) :=
  X_end hL (fun v hv => by cases hv; exact List.mem_cons_self) (fun p l e R s m args below meth c H locs ls cells slots A G ad Qc S hq hf => W.iret S.1 S.2.1 (S.2.2.2.2.2.2.1.trans hri) (fun t ht _ => hq t ht) hf hd S.2.2.2.2.2.1)
theorem X_zreturn {x : Int32} {b : β} (hd : decode (ib i) pc = .ok (.ireturn, 1)) (hri : ir i = some .boolean) (hL : L b = (some (vi x), M)) : X L i pc lv [vi x] M (gd (x = 0 ∨ x = 1) (some b)) :=
  X_gd fun hc => X_end hL (fun v hv => by cases hv; exact List.mem_cons_self) (fun p l e R s m args below meth c H locs ls cells slots A G ad Qc S hq hf => W.zret S.1 S.2.1 (S.2.2.2.2.2.2.1.trans hri) (by rcases hc with h | h <;> subst h <;> rfl) (fun t ht _ => hq t ht) hf hd S.2.2.2.2.2.1)
theorem X_lreturn {x : Int64} {b : β} (hd : decode (ib i) pc = .ok (.lreturn, 1)) (hri : ir i = some .long) (hL : L b = (some (vl x), M)) : X L i pc lv [vl x] M (some b) :=
  X_end hL (fun v hv => by cases hv; exact List.mem_cons_self) (fun p l e R s m args below meth c H locs ls cells slots A G ad Qc S hq hf => W.lret S.1 S.2.1 (S.2.2.2.2.2.2.1.trans hri) (fun t ht _ => hq t ht) hf hd S.2.2.2.2.2.1)
theorem X_vreturn {b : β} (hd : decode (ib i) pc = .ok (.return_, 1)) (hri : ir i = none) (hL : L b = (none, M)) : X L i pc lv [] M (some b) :=
  X_end hL (fun v hv => by cases hv) (fun p l e R s m args below meth c H locs ls cells slots A G ad Qc S hq hf => W.vret S.1 S.2.1 (S.2.2.2.2.2.2.1.trans hri) (fun t ht _ => hq t ht) hf hd S.2.2.2.2.2.1)
end XC
