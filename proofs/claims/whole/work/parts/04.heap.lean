/-! the judgement's rows that read and write the memory -/
def aO {β : Type} (M : MM) (a ci : Nat) (o : Option β) : Option β := if (mK M a).1 = ci + 3 then o else none
def aA {β : Type} (M : MM) (a kd : Nat) (j : Int32) (o : Option β) : Option β := if (mK M a).1 = kd ∧ ¬ (j < 0 ∨ (mK M a).2 ≤ j.toNatClampNeg) then o else none
def aL {β : Type} (M : MM) (a kd : Nat) (o : Option β) : Option β := if (mK M a).1 = kd then o else none
theorem WF.alive {M : MM} (h : WF M) {a : Nat} (hk : (mK M a).1 ≠ 1000) : 0 < a ∧ a < mz M := by
  obtain ⟨h1, h2, h3, h4, h5⟩ := h
  refine ⟨?_, ?_⟩
  · rcases Nat.eq_zero_or_pos a with q | q
    · subst q
      exact absurd h2 hk
    · exact q
  · rcases Nat.lt_or_ge a (mz M) with q | q
    · exact q
    · exact absurd (h3 a q) hk
/-- a field by its pool number: the class, the field -/
def FL (own : String) (idx ci k : Nat) (C : String) (T : u_T) (N : Nat) : Prop := vwCl[ci]? = some (C, T, N) ∧ k < N ∧ Cond.fieldLink own idx (T k).1 (T k).2.1 (T k).2.2.1 ∈ gT ∧ (∀ w ∈ u_ws C T N, w ∈ gT)
def FG (own : String) (idx ci k ty : Nat) : Prop := tyC ci k = ty ∧ ∃ (C : String) (T : u_T) (N : Nat), FL own idx ci k C T N
def FP (own : String) (idx ci k ty : Nat) (fin : Bool) (f : FieldType) : Prop := tyC ci k = ty ∧ ∃ (C : String) (T : u_T) (N : Nat) (ty0 : Nat → FieldType), FL own idx ci k C T N ∧ (∀ k, k < N → parseFieldDescriptor (T k).2.2.1 = some (ty0 k)) ∧ (∀ a, a < N → ∀ b, b < N → a ≠ b → (T a).2.1 ≠ (T b).2.1) ∧ (T k).2.2.2 = fin ∧ ty0 k = f ∧ (T k).1 = C
theorem cO_obj {G : CG} {ad : Nat → Nat} {M : MM} {a ci : Nat} (h : (mK M a).1 = ci + 3) : cO G ad M a = .inr (ci, (List.range (mK M a).2).map (fV ad M a ci)) := by
  unfold cO
  rw [h]
theorem cO_int {G : CG} {ad : Nat → Nat} {M : MM} {a : Nat} (h : (mK M a).1 = 0) : cO G ad M a = .inl (G.2.1, (mK M a).2, .inl (mI M a)) := by
  unfold cO
  rw [h]
theorem cO_long {G : CG} {ad : Nat → Nat} {M : MM} {a : Nat} (h : (mK M a).1 = 1) : cO G ad M a = .inl (G.2.2.1, (mK M a).2, .inr (.inl (mJ M a))) := by
  unfold cO
  rw [h]
theorem cO_bool {G : CG} {ad : Nat → Nat} {M : MM} {a : Nat} (h : (mK M a).1 = 2) : cO G ad M a = .inl (G.2.2.2, (mK M a).2, .inl (mI M a)) := by
  unfold cO
  rw [h]
theorem fs_get {α : Type} {n k : Nat} (g : Nat → α) (h : k < n) : ((List.range n).map g)[k]? = some (g k) := by
  rw [List.getElem?_map, List.getElem?_range h]
  rfl
theorem fs_set {α : Type} {n k : Nat} (g g' : Nat → α) {v : α} (h : k < n) (hv : g' k = v) (hne : ∀ j, j ≠ k → g' j = g j) : ((List.range n).map g).set k v = (List.range n).map g' := by
  apply List.ext_getElem?
  intro j
  rw [List.getElem?_set]
  simp only [List.length_map, List.length_range, List.getElem?_map]
  by_cases hj : k = j
  · subst hj
    rw [if_pos rfl, if_pos h, List.getElem?_range h, ← hv]
    rfl
  · rw [if_neg hj]
    by_cases hjn : j < n
    · rw [List.getElem?_range hjn]
      simp [hne j (fun q => hj q.symm)]
    · have e : (List.range n)[j]? = none := by simp; omega
      rw [e]
      rfl
theorem mI_sI (M : MM) (a k : Nat) (v : Int32) (b j : Nat) : mI (sI M a k v) b j = if b = a ∧ j = k then v else mI M b j := by
  show upr (mI M) a (upx (mI M a) k v) b j = _
  unfold upr upx
  by_cases h : b = a
  · subst h
    by_cases h2 : j = k <;> simp [h2]
  · simp [h]
theorem mJ_sJ (M : MM) (a k : Nat) (v : Int64) (b j : Nat) : mJ (sJ M a k v) b j = if b = a ∧ j = k then v else mJ M b j := by
  show upr (mJ M) a (upx (mJ M a) k v) b j = _
  unfold upr upx
  by_cases h : b = a
  · subst h
    by_cases h2 : j = k <;> simp [h2]
  · simp [h]
theorem mR_sR (M : MM) (a k : Nat) (v : Nat) (b j : Nat) : mR (sR M a k v) b j = if b = a ∧ j = k then v else mR M b j := by
  show upr (mR M) a (upx (mR M a) k v) b j = _
  unfold upr upx
  by_cases h : b = a
  · subst h
    by_cases h2 : j = k <;> simp [h2]
  · simp [h]
theorem fV_0 {ad : Nat → Nat} {M : MM} {a ci k : Nat} (h : tyC ci k = 0) : fV ad M a ci k = .int (mI M a k) := by
  unfold fV
  rw [h]
  rfl
theorem fV_1 {ad : Nat → Nat} {M : MM} {a ci k : Nat} (h : tyC ci k = 1) : fV ad M a ci k = .long (mJ M a k) := by
  unfold fV
  rw [h]
  rfl
theorem fV_2 {ad : Nat → Nat} {M : MM} {a ci k : Nat} (h : tyC ci k = 2) : fV ad M a ci k = rr ad (mR M a k) := by
  unfold fV
  rw [h]
  rfl
theorem fV_congr {ad : Nat → Nat} {M M' : MM} {a ci k : Nat} (h1 : mI M' a k = mI M a k) (h2 : mJ M' a k = mJ M a k) (h3 : mR M' a k = mR M a k) : fV ad M' a ci k = fV ad M a ci k := by
  unfold fV
  rw [h1, h2, h3]
section XH
variable {β : Type} {L : β → Option AV × MM} {i : MI} {pc : Nat} {lv : List (Nat × AV)} {st : List AV} {M : MM} {o : Option β}
theorem X_aO {a ci : Nat} (k : (mK M a).1 = ci + 3 → X L i pc lv st M o) : X L i pc lv st M (aO M a ci o) := by
  intro q hq hW hO
  unfold aO at hq
  split at hq
  · rename_i h
    exact k h q hq hW hO
  · cases hq
theorem getf_raw {idx ci k ty a : Nat} (hf : FG (iy i).cls idx ci k ty) (hd : decode (ib i) pc = .ok (.getfield idx, 3)) (hK : (mK M a).1 = ci + 3) {v : AV} (hv : ∀ ad, fV ad M a ci k = rv ad v) (hok : WF M → okv M v) (kk : X L i (pc + 3) lv (v :: st) M o) : X L i pc lv (vr a :: st) M o := by
  intro q hq hW hO
  obtain ⟨h1, h2⟩ := kk q hq hW (hO.pop.push (hok hW))
  refine ⟨h1, ?_⟩
  intro p l e R s m args below meth c H locs ls cells slots A G ad n S hw hl hn hc hs
  obtain ⟨-, C, T, N, f1, f2, f3, f4⟩ := hf
  obtain ⟨a0, a1⟩ := hW.alive (a := a) (by rw [hK]; intro z; have z : ci = 997 := by omega
                                           subst z; cases f1)
  have hlen : (mK M a).2 = N := hW.2.2.2.2 a ci hK _ f1
  have he := ws_get (G := G) (ad := ad) a0 a1
  rw [cO_obj hK, hlen] at he
  show W p l e R s m args below meth c H locs cells slots _ (F0 m pc ls (rr ad a :: _))
  rw [rr_ne a0]
  refine va_get (D := G.1) (ci := ci) (v := rv ad v) (C := C) (T := T) (N := N) S.1 S.2.1 S.2.2.2.2.1 f4 S.2.2.2.1 hw.1.1 hw.2.1 (a - 1) he f1 k f2 (S.2.2.2.2.1 _ f3) (fun _ h9 => h9) (by rw [fs_get _ f2, hv]) hd ?_
  exact h2 p l e R s m args below meth c H locs ls cells slots A G ad n S hw hl hn hc hs
theorem X_getI {idx a : Nat} {ci k : Nat} (hd : decode (ib i) pc = .ok (.getfield idx, 3)) (hf : FG (iy i).cls idx ci k 0) (kk : X L i (pc + 3) lv (vi (mI M a k) :: st) M o) : X L i pc lv (vr a :: st) M (aO M a ci o) :=
  X_aO fun hK => getf_raw (v := vi (mI M a k)) hf hd hK (fun ad => by first | exact fV_0 hf.1 | exact fV_1 hf.1 | exact fV_2 hf.1) (fun _ => trivial) kk
theorem X_getJ {idx a : Nat} {ci k : Nat} (hd : decode (ib i) pc = .ok (.getfield idx, 3)) (hf : FG (iy i).cls idx ci k 1) (kk : X L i (pc + 3) lv (vl (mJ M a k) :: st) M o) : X L i pc lv (vr a :: st) M (aO M a ci o) :=
  X_aO fun hK => getf_raw (v := vl (mJ M a k)) hf hd hK (fun ad => by first | exact fV_0 hf.1 | exact fV_1 hf.1 | exact fV_2 hf.1) (fun _ => trivial) kk
theorem X_getR {idx a : Nat} {ci k : Nat} (hd : decode (ib i) pc = .ok (.getfield idx, 3)) (hf : FG (iy i).cls idx ci k 2) (kk : X L i (pc + 3) lv (vr (mR M a k) :: st) M o) : X L i pc lv (vr a :: st) M (aO M a ci o) :=
  X_aO fun hK => getf_raw (v := vr (mR M a k)) hf hd hK (fun ad => by first | exact fV_0 hf.1 | exact fV_1 hf.1 | exact fV_2 hf.1) (fun h => h.2.2.2.1 a k) kk
/-- a store into an object's field or a row's place: the world behind it -/
theorem put_raw {idx ci k ty a : Nat} {fin : Bool} {f : FieldType} {v : AV} {M' : MM} (hd : decode (ib i) pc = .ok (.putfield idx, 3)) (hf : FP (iy i).cls idx ci k ty fin f) (hfin : fin = true → (iy i).name = "<init>" ∧ ∀ (C : String) (T : u_T) (N : Nat), vwCl[ci]? = some (C, T, N) → C = (iy i).cls) (hK : (mK M a).1 = ci + 3)
    (hn : ∀ ad, narrow f (rv ad v) = rv ad v) (hfit : ∀ ad, fits f (rv ad v) = true) (hz : mz M' = mz M) (hnn : mn M' = mn M) (hKK : mK M' = mK M) (hfv : ∀ ad, fV ad M' a ci k = rv ad v) (hfo : ∀ ad j, j ≠ k → fV ad M' a ci j = fV ad M a ci j) (hro : ∀ G ad r, r ≠ a → cO G ad M' r = cO G ad M r) (hWF : WF M → okv M v → WF M')
    (kk : X L i (pc + 3) lv st M' o) : X L i pc lv (v :: vr a :: st) M o := by
  intro q hq hW hO
  have hok : ∀ w, okv M' w ↔ okv M w := fun w => by
    rcases w with x | x | b
    · exact Iff.rfl
    · exact Iff.rfl
    · show b < mz M' ↔ b < mz M
      rw [hz]
  obtain ⟨h1, h2⟩ := kk q hq (hWF hW hO.top) ⟨fun w hw => (hok _).mpr (hO.1 w hw), fun w hw => (hok _).mpr (hO.pop.pop.2 w hw)⟩
  refine ⟨⟨⟨by have := h1.1.1; omega, by have := h1.1.2; omega⟩, h1.2⟩, ?_⟩
  intro p l e R s m args below meth c H locs ls cells slots A G ad n S hw hl hnm hc hs
  obtain ⟨-, C, T, N, ty0, ⟨f1, f2, f3, f4⟩, f5, f6, f7, f8, f9⟩ := hf
  obtain ⟨a0, a1⟩ := hW.alive (a := a) (by rw [hK]; intro z; have z : ci = 997 := by omega
                                           subst z; cases f1)
  have hlen : (mK M a).2 = N := hW.2.2.2.2 a ci hK _ f1
  have he := ws_get (G := G) (ad := ad) a0 a1
  rw [cO_obj hK, hlen] at he
  have hws : (wsOf G ad M).set (a - 1) (ad a, .inr (ci, ((List.range N).map (fV ad M a ci)).set k (rv ad v))) = wsOf G ad M' := by
    rw [fs_set (fV ad M a ci) (fV ad M' a ci) f2 (hfv ad) (hfo ad)]
    have := ws_set (G := G) (ad := ad) (M := M) (M' := M') a0 hz (hro G ad)
    rw [cO_obj (by rw [hKK]; exact hK), hKK, hlen] at this
    exact this
  show W p l e R s m args below meth c H locs cells slots _ (F0 m pc ls (rv ad v :: rr ad a :: _))
  rw [rr_ne a0]
  have hd9 : parseFieldDescriptor (T k).2.2.1 = some f := by rw [f5 k f2, f8]
  have hend : ∀ (H1 : Heap) (locs1 : List Loc), va_P G.1 vwCl ((wsOf G ad M).set (a - 1) (ad a, .inr (ci, ((List.range N).map (fV ad M a ci)).set k (rv ad v)))) H1 → va_D A ((wsOf G ad M).set (a - 1) (ad a, .inr (ci, ((List.range N).map (fV ad M a ci)).set k (rv ad v)))) → va_S A s.heap H1 locs1 →
      W p l e R s m args below meth c H1 locs1 cells slots (MQ below (QC G ad A n (L q)) args s R.cells R.slots A) (F0 m (pc + 3) ls (st.map (rv ad))) := fun H1 locs1 hP hD hS => by
    rw [hws] at hP hD
    exact h2 p l e R s m args below meth c H1 locs1 ls cells slots A G ad n S ⟨hw.1, hP, hD, hS, hw.2.2.2.2⟩ hl (by omega) (by omega) (by omega)
  cases fin with
  | false => exact va_put (D := G.1) (ci := ci) (v := rv ad v) (ty := f) (C := C) (T := T) (N := N) S.1 S.2.1 S.2.2.2.2.1 f4 ty0 f5 f6 S.2.2.2.1 hw.1.1 hw.2.1 hw.2.2.1 hw.2.2.2.1 (a - 1) he f1 k f2 (S.2.2.2.2.1 _ f3) (fun _ h9 => h9) f7 hd9 (hn ad) (hfit ad) (by simpa using f2) hd hend
  | true =>
    obtain ⟨g1, g2⟩ := hfin rfl
    exact va_putF (D := G.1) (ci := ci) (v := rv ad v) (ty := f) (C := C) (T := T) (N := N) S.1 S.2.1 S.2.2.2.2.1 f4 ty0 f5 f6 S.2.2.2.1 hw.1.1 hw.2.1 hw.2.2.1 hw.2.2.2.1 (a - 1) he f1 k f2 (S.2.2.2.2.1 _ f3) (fun _ h9 => h9) f7 (S.2.2.2.2.2.2.2.1.trans g1) (f9.trans (g2 C T N f1)) hd9 (hn ad) (hfit ad) (by simpa using f2) hd hend
theorem cO_congr {G : CG} {ad : Nat → Nat} {M M' : MM} {r : Nat} (h1 : mK M' r = mK M r) (h2 : mI M' r = mI M r) (h3 : mJ M' r = mJ M r) (h4 : mR M' r = mR M r) : cO G ad M' r = cO G ad M r := by
  unfold cO
  rw [h1, h2, h3, show fV ad M' r = fV ad M r from funext fun c => funext fun k => by unfold fV; rw [h2, h3, h4]]
theorem WF_sR {M : MM} {a k b : Nat} (h : WF M) (hb : b < mz M) : WF (sR M a k b) := by
  obtain ⟨h1, h2, h3, h4, h5⟩ := h
  refine ⟨h1, h2, h3, fun r j => ?_, h5⟩
  show upr (mR M) a (upx (mR M a) k b) r j < mz M
  unfold upr
  split
  · unfold upx
    split
    · exact hb
    · exact h4 a j
  · exact h4 r j
theorem X_putI {idx a : Nat} {ci k : Nat} {x : Int32} (hd : decode (ib i) pc = .ok (.putfield idx, 3)) (hf : FP (iy i).cls idx ci k 0 false .int) (kk : X L i (pc + 3) lv st (sI M a k x) o) : X L i pc lv (vi x :: vr a :: st) M (aO M a ci o) :=
  X_aO fun hK => put_raw (v := vi x) (M' := sI M a k x) hd hf (fun h => by cases h) hK (fun _ => rfl) (fun _ => rfl) rfl rfl rfl (fun ad => by rw [fV_0 hf.1, mI_sI, if_pos ⟨rfl, rfl⟩]; rfl) (fun ad j hj => fV_congr (by rw [mI_sI, if_neg (fun h => hj h.2)]) rfl rfl) (fun G ad r hr => cO_congr rfl (upr_ne _ _ hr) rfl rfl) (fun h _ => h) kk
theorem X_putZ {idx a : Nat} {ci k : Nat} {x : Int32} (hd : decode (ib i) pc = .ok (.putfield idx, 3)) (hf : FP (iy i).cls idx ci k 0 false .boolean) (kk : X L i (pc + 3) lv st (sI M a k x) o) : X L i pc lv (vi x :: vr a :: st) M (aO M a ci (gd (x = 0 ∨ x = 1) o)) :=
  X_aO fun hK => X_gd fun hc => put_raw (v := vi x) (M' := sI M a k x) hd hf (fun h => by cases h) hK (fun _ => by rcases hc with h | h <;> subst h <;> rfl) (fun _ => by rcases hc with h | h <;> subst h <;> rfl) rfl rfl rfl (fun ad => by rw [fV_0 hf.1, mI_sI, if_pos ⟨rfl, rfl⟩]; rfl) (fun ad j hj => fV_congr (by rw [mI_sI, if_neg (fun h => hj h.2)]) rfl rfl) (fun G ad r hr => cO_congr rfl (upr_ne _ _ hr) rfl rfl) (fun h _ => h) kk
theorem X_putJ {idx a : Nat} {ci k : Nat} {x : Int64} (hd : decode (ib i) pc = .ok (.putfield idx, 3)) (hf : FP (iy i).cls idx ci k 1 false .long) (kk : X L i (pc + 3) lv st (sJ M a k x) o) : X L i pc lv (vl x :: vr a :: st) M (aO M a ci o) :=
  X_aO fun hK => put_raw (v := vl x) (M' := sJ M a k x) hd hf (fun h => by cases h) hK (fun _ => rfl) (fun _ => rfl) rfl rfl rfl (fun ad => by rw [fV_1 hf.1, mJ_sJ, if_pos ⟨rfl, rfl⟩]; rfl) (fun ad j hj => fV_congr rfl (by rw [mJ_sJ, if_neg (fun h => hj h.2)]) rfl) (fun G ad r hr => cO_congr rfl rfl (upr_ne _ _ hr) rfl) (fun h _ => h) kk
def RefT (f : FieldType) : Prop := (∀ v : Value, narrow f v = v) ∧ ∀ (ad : Nat → Nat) (b : Nat), fits f (rr ad b) = true
theorem RefT.obj (C : String) : RefT (.object C) := ⟨fun v => by cases v <;> rfl, fun ad b => by unfold rr; split <;> rfl⟩
theorem RefT.arr (t : FieldType) : RefT (.array t) := ⟨fun v => by cases v <;> rfl, fun ad b => by unfold rr; split <;> rfl⟩
theorem X_putR {idx a b : Nat} {ci k : Nat} {f : FieldType} (hd : decode (ib i) pc = .ok (.putfield idx, 3)) (hf : FP (iy i).cls idx ci k 2 false f) (hr : RefT f) (kk : X L i (pc + 3) lv st (sR M a k b) o) : X L i pc lv (vr b :: vr a :: st) M (aO M a ci o) :=
  X_aO fun hK => put_raw (v := vr b) (M' := sR M a k b) hd hf (fun h => by cases h) hK (fun ad => hr.1 _) (fun ad => hr.2 ad b) rfl rfl rfl (fun ad => by rw [fV_2 hf.1, mR_sR, if_pos ⟨rfl, rfl⟩]; rfl) (fun ad j hj => fV_congr rfl rfl (by rw [mR_sR, if_neg (fun h => hj h.2)])) (fun G ad r hr => cO_congr rfl rfl rfl (upr_ne _ _ hr)) (fun h hb => WF_sR h hb) kk
theorem X_putRF {idx a b : Nat} {ci k : Nat} {f : FieldType} (hd : decode (ib i) pc = .ok (.putfield idx, 3)) (hf : FP (iy i).cls idx ci k 2 true f) (hr : RefT f) (hi : (iy i).name = "<init>") (hC : vwCl[ci]?.map (fun q => q.1) = some (iy i).cls) (kk : X L i (pc + 3) lv st (sR M a k b) o) : X L i pc lv (vr b :: vr a :: st) M (aO M a ci o) :=
  X_aO fun hK => put_raw (v := vr b) (M' := sR M a k b) hd hf (fun h => ⟨hi, fun C T N hc => by rw [hc] at hC; exact Option.some.inj hC⟩) hK (fun ad => hr.1 _) (fun ad => hr.2 ad b) rfl rfl rfl (fun ad => by rw [fV_2 hf.1, mR_sR, if_pos ⟨rfl, rfl⟩]; rfl) (fun ad j hj => fV_congr rfl rfl (by rw [mR_sR, if_neg (fun h => hj h.2)])) (fun G ad r hr => cO_congr rfl rfl rfl (upr_ne _ _ hr)) (fun h hb => WF_sR h hb) kk
theorem X_putIF {idx a : Nat} {ci k : Nat} {x : Int32} (hd : decode (ib i) pc = .ok (.putfield idx, 3)) (hf : FP (iy i).cls idx ci k 0 true .int) (hi : (iy i).name = "<init>") (hC : vwCl[ci]?.map (fun q => q.1) = some (iy i).cls) (kk : X L i (pc + 3) lv st (sI M a k x) o) : X L i pc lv (vi x :: vr a :: st) M (aO M a ci o) :=
  X_aO fun hK => put_raw (v := vi x) (M' := sI M a k x) hd hf (fun h => ⟨hi, fun C T N hc => by rw [hc] at hC; exact Option.some.inj hC⟩) hK (fun _ => rfl) (fun _ => rfl) rfl rfl rfl (fun ad => by rw [fV_0 hf.1, mI_sI, if_pos ⟨rfl, rfl⟩]; rfl) (fun ad j hj => fV_congr (by rw [mI_sI, if_neg (fun h => hj h.2)]) rfl rfl) (fun G ad r hr => cO_congr rfl (upr_ne _ _ hr) rfl rfl) (fun h _ => h) kk
/-! arrays -/
theorem X_aA {a kd : Nat} {j : Int32} (k : (mK M a).1 = kd → vp_in j (mK M a).2 → X L i pc lv st M o) : X L i pc lv st M (aA M a kd j o) := by
  intro q hq hW hO
  unfold aA at hq
  split at hq
  · rename_i h
    exact k h.1 h.2 q hq hW hO
  · cases hq
theorem X_aL {a kd : Nat} (k : (mK M a).1 = kd → X L i pc lv st M o) : X L i pc lv st M (aL M a kd o) := by
  intro q hq hW hO
  unfold aL at hq
  split at hq
  · rename_i h
    exact k h q hq hW hO
  · cases hq
theorem ax_aread {a : Nat} {j : Int32} {v : AV} (hK : (mK M a).1 < 3) (hok : WF M → okv M v)
    (hs : ∀ (p : Program) (l : Launch) (e : Env) (R : Room) (s : State) (m : MethodId) (args : Array Value) (below : List Frame) (meth : Method) (c : Code) (H : Heap) (locs : List Loc) (ls : Array Slot) (cells slots : Nat) (Q : State → Prop) (A : Nat → Prop) (G : CG) (ad : Nat → Nat), Sit i p R s m args meth c → World G ad A M s H locs → (wsOf G ad M)[a - 1]? = some (ad a, cO G ad M a) →
      W p l e R s m args below meth c H locs cells slots Q (F0 m (pc + 1) ls (rv ad v :: st.map (rv ad))) → W p l e R s m args below meth c H locs cells slots Q (F0 m pc ls (.int j :: .ref (ad a) :: st.map (rv ad))))
    (kk : X L i (pc + 1) lv (v :: st) M o) : X L i pc lv (vi j :: vr a :: st) M o := by
  intro q hq hW hO
  obtain ⟨h1, h2⟩ := kk q hq hW (hO.pop.pop.push (hok hW))
  refine ⟨h1, ?_⟩
  intro p l e R s m args below meth c H locs ls cells slots A G ad n S hw hl hn hc hs2
  obtain ⟨a0, a1⟩ := hW.alive (a := a) (by omega)
  show W p l e R s m args below meth c H locs cells slots _ (F0 m pc ls (.int j :: rr ad a :: _))
  rw [rr_ne a0]
  exact hs p l e R s m args below meth c H locs ls cells slots _ A G ad S hw (ws_get a0 a1) (h2 p l e R s m args below meth c H locs ls cells slots A G ad n S hw hl hn hc hs2)
theorem X_iaload {a : Nat} {j : Int32} (hd : decode (ib i) pc = .ok (.iaload, 1)) (kk : X L i (pc + 1) lv (vi (mI M a j.toNatClampNeg) :: st) M o) : X L i pc lv (vi j :: vr a :: st) M (aA M a 0 j o) :=
  X_aA fun hK hin => ax_aread (v := vi (mI M a j.toNatClampNeg)) (by omega) (fun _ => trivial) (fun p l e R s m args below meth c H locs ls cells slots Q A G ad S hw he kk => va_iald S.1 S.2.1 hw.1.1 hw.2.1 (a - 1) 0 (by rw [he, cO_int hK]) rfl hin hd kk) kk
theorem X_laload {a : Nat} {j : Int32} (hd : decode (ib i) pc = .ok (.laload, 1)) (kk : X L i (pc + 1) lv (vl (mJ M a j.toNatClampNeg) :: st) M o) : X L i pc lv (vi j :: vr a :: st) M (aA M a 1 j o) :=
  X_aA fun hK hin => ax_aread (v := vl (mJ M a j.toNatClampNeg)) (by omega) (fun _ => trivial) (fun p l e R s m args below meth c H locs ls cells slots Q A G ad S hw he kk => va_lald S.1 S.2.1 hw.1.1 hw.2.1 (a - 1) 1 (by rw [he, cO_long hK]) rfl hin hd kk) kk
theorem X_baload {a : Nat} {j : Int32} (hd : decode (ib i) pc = .ok (.baload, 1)) (kk : X L i (pc + 1) lv (vi (mI M a j.toNatClampNeg) :: st) M o) : X L i pc lv (vi j :: vr a :: st) M (aA M a 2 j o) :=
  X_aA fun hK hin => ax_aread (v := vi (mI M a j.toNatClampNeg)) (by omega) (fun _ => trivial) (fun p l e R s m args below meth c H locs ls cells slots Q A G ad S hw he kk => va_zald S.1 S.2.1 hw.1.1 hw.2.1 (a - 1) 2 (by rw [he, cO_bool hK]) rfl hin hd kk) kk
theorem X_alen {a kd : Nat} (hk : kd < 3) (hd : decode (ib i) pc = .ok (.arraylength, 1)) (kk : X L i (pc + 1) lv (vi (nI (mK M a).2) :: st) M o) : X L i pc lv (vr a :: st) M (aL M a kd o) :=
  X_aL fun hK => by
    intro q hq hW hO
    obtain ⟨h1, h2⟩ := kk q hq hW (hO.pop.push trivial)
    refine ⟨h1, ?_⟩
    intro p l e R s m args below meth c H locs ls cells slots A G ad n S hw hl hn hc hs2
    obtain ⟨a0, a1⟩ := hW.alive (a := a) (by omega)
    show W p l e R s m args below meth c H locs cells slots _ (F0 m pc ls (rr ad a :: _))
    rw [rr_ne a0]
    have hk2 := h2 p l e R s m args below meth c H locs ls cells slots A G ad n S hw hl hn hc hs2
    have he := ws_get (G := G) (ad := ad) a0 a1
    rcases (show kd = 0 ∨ kd = 1 ∨ kd = 2 by omega) with z | z | z <;> subst z
    · rw [cO_int hK] at he
      exact va_alen S.1 S.2.1 hw.1.1 hw.2.1 (a - 1) 0 he (ty := .int) rfl (v := nI (mK M a).2) rfl hd hk2
    · rw [cO_long hK] at he
      exact va_alen S.1 S.2.1 hw.1.1 hw.2.1 (a - 1) 1 he (ty := .long) rfl (v := nI (mK M a).2) rfl hd hk2
    · rw [cO_bool hK] at he
      exact va_alen S.1 S.2.1 hw.1.1 hw.2.1 (a - 1) 2 he (ty := .boolean) rfl (v := nI (mK M a).2) rfl hd hk2
theorem ax_awrite {a : Nat} {j : Int32} {v : AV} {M' : MM} (hK : (mK M a).1 < 3) (hz : mz M' = mz M) (hnn : mn M' = mn M) (hro : ∀ G ad r, r ≠ a → cO G ad M' r = cO G ad M r) (hWF : WF M → WF M')
    (hs : ∀ (p : Program) (l : Launch) (e : Env) (R : Room) (s : State) (m : MethodId) (args : Array Value) (below : List Frame) (meth : Method) (c : Code) (H : Heap) (locs : List Loc) (ls : Array Slot) (cells slots : Nat) (Q : State → Prop) (A : Nat → Prop) (G : CG) (ad : Nat → Nat), Sit i p R s m args meth c → World G ad A M s H locs → (wsOf G ad M)[a - 1]? = some (ad a, cO G ad M a) →
      (∀ (H1 : Heap) (locs1 : List Loc), va_P G.1 vwCl ((wsOf G ad M).set (a - 1) (ad a, cO G ad M' a)) H1 → va_D A ((wsOf G ad M).set (a - 1) (ad a, cO G ad M' a)) → va_S A s.heap H1 locs1 → W p l e R s m args below meth c H1 locs1 cells slots Q (F0 m (pc + 1) ls (st.map (rv ad)))) → W p l e R s m args below meth c H locs cells slots Q (F0 m pc ls (rv ad v :: .int j :: .ref (ad a) :: st.map (rv ad))))
    (kk : X L i (pc + 1) lv st M' o) : X L i pc lv (v :: vi j :: vr a :: st) M o := by
  intro q hq hW hO
  have hok : ∀ w, okv M' w ↔ okv M w := fun w => by
    rcases w with x | x | b
    · exact Iff.rfl
    · exact Iff.rfl
    · show b < mz M' ↔ b < mz M
      rw [hz]
  obtain ⟨h1, h2⟩ := kk q hq (hWF hW) ⟨fun w hw => (hok _).mpr (hO.1 w hw), fun w hw => (hok _).mpr (hO.pop.pop.pop.2 w hw)⟩
  refine ⟨⟨⟨by have := h1.1.1; omega, by have := h1.1.2; omega⟩, h1.2⟩, ?_⟩
  intro p l e R s m args below meth c H locs ls cells slots A G ad n S hw hl hn hc hs2
  obtain ⟨a0, a1⟩ := hW.alive (a := a) (by omega)
  show W p l e R s m args below meth c H locs cells slots _ (F0 m pc ls (rv ad v :: .int j :: rr ad a :: _))
  rw [rr_ne a0]
  refine hs p l e R s m args below meth c H locs ls cells slots _ A G ad S hw (ws_get a0 a1) fun H1 locs1 hP hD hS => ?_
  rw [ws_set a0 hz (hro G ad)] at hP hD
  exact h2 p l e R s m args below meth c H1 locs1 ls cells slots A G ad n S ⟨hw.1, hP, hD, hS, hw.2.2.2.2⟩ hl (by omega) (by omega) (by omega)
theorem X_iastore {a : Nat} {j x : Int32} (hd : decode (ib i) pc = .ok (.iastore, 1)) (kk : X L i (pc + 1) lv st (sI M a j.toNatClampNeg x) o) : X L i pc lv (vi x :: vi j :: vr a :: st) M (aA M a 0 j o) :=
  X_aA fun hK hin => ax_awrite (v := vi x) (M' := sI M a j.toNatClampNeg x) (by omega) rfl rfl (fun G ad r hr => cO_congr rfl (upr_ne _ _ hr) rfl rfl) (fun h => h) (fun p l e R s m args below meth c H locs ls cells slots Q A G ad S hw he kk => va_iast S.1 S.2.1 hw.1.1 hw.2.1 hw.2.2.1 hw.2.2.2.1 (a - 1) 0 (by rw [he, cO_int hK]) rfl hin hd (fun H1 locs1 hP hD hS => by
    have e : cO G ad (sI M a j.toNatClampNeg x) a = .inl (G.2.1, (mK M a).2, .inl (upd (mI M a) j.toNatClampNeg x)) := by rw [cO_int (M := sI M a j.toNatClampNeg x) hK]; show _ = Sum.inl (_, _, Sum.inl _); rw [show mI (sI M a j.toNatClampNeg x) a = upd (mI M a) j.toNatClampNeg x from upr_same _ _ _]; rfl
    rw [e] at kk
    exact kk H1 locs1 hP hD hS)) kk
theorem X_lastore {a : Nat} {j : Int32} {x : Int64} (hd : decode (ib i) pc = .ok (.lastore, 1)) (kk : X L i (pc + 1) lv st (sJ M a j.toNatClampNeg x) o) : X L i pc lv (vl x :: vi j :: vr a :: st) M (aA M a 1 j o) :=
  X_aA fun hK hin => ax_awrite (v := vl x) (M' := sJ M a j.toNatClampNeg x) (by omega) rfl rfl (fun G ad r hr => cO_congr rfl rfl (upr_ne _ _ hr) rfl) (fun h => h) (fun p l e R s m args below meth c H locs ls cells slots Q A G ad S hw he kk => va_last S.1 S.2.1 hw.1.1 hw.2.1 hw.2.2.1 hw.2.2.2.1 (a - 1) 1 (by rw [he, cO_long hK]) rfl hin hd (fun H1 locs1 hP hD hS => by
    have e : cO G ad (sJ M a j.toNatClampNeg x) a = .inl (G.2.2.1, (mK M a).2, .inr (.inl (vp_updL (mJ M a) j.toNatClampNeg x))) := by rw [cO_long (M := sJ M a j.toNatClampNeg x) hK]; show _ = Sum.inl (_, _, Sum.inr (Sum.inl _)); rw [show mJ (sJ M a j.toNatClampNeg x) a = vp_updL (mJ M a) j.toNatClampNeg x from upr_same _ _ _]; rfl
    rw [e] at kk
    exact kk H1 locs1 hP hD hS)) kk
theorem X_bastore {a : Nat} {j x : Int32} (hd : decode (ib i) pc = .ok (.bastore, 1)) (kk : X L i (pc + 1) lv st (sI M a j.toNatClampNeg x) o) : X L i pc lv (vi x :: vi j :: vr a :: st) M (aA M a 2 j (gd (x = 0 ∨ x = 1) o)) :=
  X_aA fun hK hin => X_gd fun hc => ax_awrite (v := vi x) (M' := sI M a j.toNatClampNeg x) (by omega) rfl rfl (fun G ad r hr => cO_congr rfl (upr_ne _ _ hr) rfl rfl) (fun h => h) (fun p l e R s m args below meth c H locs ls cells slots Q A G ad S hw he kk => va_zast S.1 S.2.1 hw.1.1 hw.2.1 hw.2.2.1 hw.2.2.2.1 (a - 1) 2 (by rw [he, cO_bool hK]) rfl hin hd (fun H1 locs1 hP hD hS => by
    have e9 : vp_nar .boolean x = x := by rcases hc with h | h <;> subst h <;> rfl
    rw [e9] at hP hD
    have e : cO G ad (sI M a j.toNatClampNeg x) a = .inl (G.2.2.2, (mK M a).2, .inl (upd (mI M a) j.toNatClampNeg x)) := by rw [cO_bool (M := sI M a j.toNatClampNeg x) hK]; show _ = Sum.inl (_, _, Sum.inl _); rw [show mI (sI M a j.toNatClampNeg x) a = upd (mI M a) j.toNatClampNeg x from upr_same _ _ _]; rfl
    rw [e] at kk
    exact kk H1 locs1 hP hD hS)) kk
end XH
