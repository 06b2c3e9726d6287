/-! THE JUDGEMENT X: from a place in a method, over a memory, the method comes to what the function tells -/
/-- a method: its name, code, words of locals, result, frames and words below it -/
abbrev MI : Type := MethodName × ByteArray × Nat × Option FieldType × Nat × Nat
def iy (i : MI) : MethodName := i.1
def ib (i : MI) : ByteArray := i.2.1
def iL (i : MI) : Nat := i.2.2.1
def ir (i : MI) : Option FieldType := i.2.2.2.1
def ifr (i : MI) : Nat := i.2.2.2.2.1
def ilo (i : MI) : Nat := i.2.2.2.2.2
def Sit (i : MI) (p : Program) (R : Room) (s : State) (m : MethodId) (args : Array Value) (meth : Method) (c : Code) : Prop :=
  p.tables.exec = Jvm.exec ∧ c.code = ib i ∧ c.maxLocals = iL i ∧ s.vm.findClass (iy i).cls = some m.cls ∧ (∀ w ∈ gT, w.before args s = true) ∧ meth.locks = false ∧ meth.sig.returnType = ir i ∧ meth.name = (iy i).name ∧ ifr i ≤ R.frames ∧ ilo i ≤ R.locals
def World (G : CG) (ad : Nat → Nat) (A : Nat → Prop) (M : MM) (s : State) (H : Heap) (locs : List Loc) : Prop :=
  WK G s ∧ va_P G.1 vwCl (wsOf G ad M) H ∧ va_D A (wsOf G ad M) ∧ va_S A s.heap H locs ∧ ∀ q, s.heap.size ≤ q → A q
def QC (G : CG) (ad : Nat → Nat) (A : Nat → Prop) (n : Nat) (x : Option AV × MM) : Array Value → State → Outcome → State → Prop := fun _ st o t =>
  (∃ ad' : Nat → Nat, (∀ j, j < n → ad' j = ad j) ∧ o = .returned (x.1.map (rv ad')) ∧ va_P G.1 vwCl (wsOf G ad' x.2) t.heap ∧ va_D A (wsOf G ad' x.2)) ∧ va_F A st t
def lm (ad : Nat → Nat) (q : Nat × AV) : Nat × Value := (q.1, rv ad q.2)
def OK (M : MM) (lv : List (Nat × AV)) (st : List AV) : Prop := (∀ q ∈ lv, okv M q.2) ∧ ∀ v ∈ st, okv M v
def XW (i : MI) (pc : Nat) (lv : List (Nat × AV)) (st : List AV) (M : MM) (x : Option AV × MM) : Prop :=
  ∀ (p : Program) (l : Launch) (e : Env) (R : Room) (s : State) (m : MethodId) (args : Array Value) (below : List Frame) (meth : Method) (c : Code) (H : Heap) (locs : List Loc) (ls : Array Slot) (cells slots : Nat) (A : Nat → Prop) (G : CG) (ad : Nat → Nat) (n : Nat),
    Sit i p R s m args meth c → World G ad A M s H locs → lv_has ls (iL i) (lv.map (lm ad)) → n ≤ mz M → cells + (mz x.2 - mz M) = R.cells → slots + (mn x.2 - mn M) = R.slots →
    W p l e R s m args below meth c H locs cells slots (MQ below (QC G ad A n x) args s R.cells R.slots A) (F0 m pc ls (st.map (rv ad)))
def Good (M : MM) (x : Option AV × MM) : Prop := Mono M x.2 ∧ WF x.2 ∧ ∀ v, x.1 = some v → okv x.2 v
def X {β : Type} (L : β → Option AV × MM) (i : MI) (pc : Nat) (lv : List (Nat × AV)) (st : List AV) (M : MM) (o : Option β) : Prop :=
  ∀ q, o = some q → WF M → OK M lv st → Good M (L q) ∧ XW i pc lv st M (L q)
theorem QC.ag {G : CG} {ad ad1 : Nat → Nat} {A : Nat → Prop} {n n1 : Nat} {x : Option AV × MM} {a : Array Value} {st t : State} {o : Outcome} (hn : n ≤ n1) (h : ∀ j, j < n → ad1 j = ad j) (hq : QC G ad1 A n1 x a st o t) : QC G ad A n x a st o t := by
  obtain ⟨⟨ad', h1, h2⟩, h3⟩ := hq
  exact ⟨⟨ad', fun j hj => (h1 j (by omega)).trans (h j hj), h2⟩, h3⟩
theorem MQ.imp {below : List Frame} {Q1 Q2 : Array Value → State → Outcome → State → Prop} {a : Array Value} {s : State} {mc ms : Nat} {free : Addr → Prop} {t : State} (h : ∀ o, Q1 a s o t → Q2 a s o t) (hm : MQ below Q1 a s mc ms free t) : MQ below Q2 a s mc ms free t := by
  obtain ⟨o, h1, h2, h3, h4⟩ := hm
  exact ⟨o, h1, h2, h o h3, h4⟩
theorem W_imp {p : Program} {l : Launch} {e : Env} {R : Room} {s : State} {m : MethodId} {args : Array Value} {below : List Frame} {meth : Method} {c : Code} {H : Heap} {locs : List Loc} {cells slots : Nat} {Q Q' : State → Prop} {g : JFrame} (h : ∀ t, Q t → Q' t) (k : W p l e R s m args below meth c H locs cells slots Q g) : W p l e R s m args below meth c H locs cells slots Q' g := by
  intro T hT X
  obtain ⟨t, a, b⟩ := k T hT X
  exact ⟨t, a, h t b⟩
/-- a step that leaves the heap -/
def PS (i : MI) (pc : Nat) (lv : List (Nat × AV)) (st : List AV) (pc' : Nat) (lv' : List (Nat × AV)) (st' : List AV) : Prop :=
  ∀ (p : Program) (l : Launch) (e : Env) (R : Room) (s : State) (m : MethodId) (args : Array Value) (below : List Frame) (meth : Method) (c : Code) (H : Heap) (locs : List Loc) (ls : Array Slot) (cells slots : Nat) (Q : State → Prop) (ad : Nat → Nat),
    Sit i p R s m args meth c → lv_has ls (iL i) (lv.map (lm ad)) → (∀ ls', lv_has ls' (iL i) (lv'.map (lm ad)) → W p l e R s m args below meth c H locs cells slots Q (F0 m pc' ls' (st'.map (rv ad)))) →
    W p l e R s m args below meth c H locs cells slots Q (F0 m pc ls (st.map (rv ad)))
section XR
variable {β : Type} {L : β → Option AV × MM} {i : MI} {pc : Nat} {lv : List (Nat × AV)} {st : List AV} {M : MM} {o : Option β}
theorem X_pure {pc' : Nat} {lv' : List (Nat × AV)} {st' : List AV} (hok : OK M lv st → OK M lv' st') (hs : PS i pc lv st pc' lv' st') (k : X L i pc' lv' st' M o) : X L i pc lv st M o := by
  intro q hq hW hO
  obtain ⟨h1, h2⟩ := k q hq hW (hok hO)
  refine ⟨h1, ?_⟩
  intro p l e R s m args below meth c H locs ls cells slots A G ad n S hw hl hn hc hs2
  exact hs p l e R s m args below meth c H locs ls cells slots _ ad S hl fun ls' hl' => h2 p l e R s m args below meth c H locs ls' cells slots A G ad n S hw hl' hn hc hs2
theorem OK.pop {v : AV} (h : OK M lv (v :: st)) : OK M lv st := ⟨h.1, fun w hw => h.2 w (List.mem_cons_of_mem _ hw)⟩
theorem OK.push {v : AV} (h : OK M lv st) (hv : okv M v) : OK M lv (v :: st) := ⟨h.1, fun w hw => (List.mem_cons.mp hw).elim (fun e => e ▸ hv) (h.2 w)⟩
theorem OK.top {v : AV} (h : OK M lv (v :: st)) : okv M v := h.2 v List.mem_cons_self
theorem OK.at {k j : Nat} {v : AV} (h : OK M lv st) (hk : lv[j]? = some (k, v)) : okv M v := h.1 (k, v) (List.mem_of_getElem? hk)
theorem lm_at {ad : Nat → Nat} {ls : Array Slot} {nL k j : Nat} {v : AV} (h : lv_has ls nL (lv.map (lm ad))) (hk : lv[j]? = some (k, v)) : ls[k]? = some (.val (rv ad v)) :=
  lv_at h j (by rw [List.getElem?_map, hk]; rfl)
theorem X_push {pc' : Nat} {v : AV} (hv : okv M v) (hs : PS i pc lv st pc' lv (v :: st)) (k : X L i pc' lv (v :: st) M o) : X L i pc lv st M o := X_pure (fun h => h.push hv) hs k
theorem X_iload {k : Nat} (j : Nat) {x : Int32} (hd : decode (ib i) pc = .ok (.iload k, 2)) (hl : lv[j]? = some (k, vi x)) (kk : X L i (pc + 2) lv (vi x :: st) M o) : X L i pc lv st M o :=
  X_push (v := vi x) trivial (fun p l e R s m args below meth c H locs ls cells slots Q ad S h kk => lv_iload S.1 S.2.1 hd (lm_at h hl) (kk ls h)) kk
theorem X_iloadn {k : Fin 4} (j : Nat) {x : Int32} (hd : decode (ib i) pc = .ok (.iload_n k, 1)) (hl : lv[j]? = some ((k : Nat), vi x)) (kk : X L i (pc + 1) lv (vi x :: st) M o) : X L i pc lv st M o :=
  X_push (v := vi x) trivial (fun p l e R s m args below meth c H locs ls cells slots Q ad S h kk => lv_iload_n S.1 S.2.1 hd rfl (lm_at h hl) (kk ls h)) kk
theorem X_lload {k : Nat} (j : Nat) {x : Int64} (hd : decode (ib i) pc = .ok (.lload k, 2)) (hl : lv[j]? = some (k, vl x)) (kk : X L i (pc + 2) lv (vl x :: st) M o) : X L i pc lv st M o :=
  X_push (v := vl x) trivial (fun p l e R s m args below meth c H locs ls cells slots Q ad S h kk => lv_lload S.1 S.2.1 hd (lm_at h hl) (kk ls h)) kk
theorem X_lloadn {k : Fin 4} (j : Nat) {x : Int64} (hd : decode (ib i) pc = .ok (.lload_n k, 1)) (hl : lv[j]? = some ((k : Nat), vl x)) (kk : X L i (pc + 1) lv (vl x :: st) M o) : X L i pc lv st M o :=
  X_push (v := vl x) trivial (fun p l e R s m args below meth c H locs ls cells slots Q ad S h kk => lv_lload_n S.1 S.2.1 hd rfl (lm_at h hl) (kk ls h)) kk
theorem rr_isRef (ad : Nat → Nat) (a : Nat) : (rr ad a).isRef = true := by unfold rr; split <;> rfl
theorem rr_cat (ad : Nat → Nat) (a : Nat) : (rr ad a).category = 1 := by unfold rr; split <;> rfl
theorem rr_ne {ad : Nat → Nat} {a : Nat} (h : 0 < a) : rr ad a = .ref (ad a) := if_neg (by omega)
section
variable {p : Program} {l : Launch} {e : Env} {R : Room} {s : State} {m : MethodId} {args : Array Value} {below : List Frame} {meth : Method} {c : Code} {H : Heap} {locs : List Loc} {cells slots : Nat} {Q : State → Prop} {cc : ByteArray} {ls : Array Slot} {rest : List Value}
theorem ax_aload_n (hexec : p.tables.exec = Jvm.exec) (hb : c.code = cc) {k : Fin 4} {v : Value} (hv : v.isRef = true) (hdg : decode cc pc = .ok (.aload_n k, 1)) (hl : ls[(k : Nat)]? = some (.val v)) (kk : W p l e R s m args below meth c H locs cells slots Q (F0 m (pc + 1) ls (v :: rest))) : W p l e R s m args below meth c H locs cells slots Q (F0 m pc ls rest) := by
  intro T hT X
  obtain ⟨t, a, b⟩ := kk T hT X
  refine ⟨t, ?_, b⟩
  jvm_step X.here [X.here.top, hexec, hb, hdg, hl, hv]
  exact a
theorem ax_aload (hexec : p.tables.exec = Jvm.exec) (hb : c.code = cc) {k : Nat} {v : Value} (hv : v.isRef = true) (hdg : decode cc pc = .ok (.aload k, 2)) (hl : ls[k]? = some (.val v)) (kk : W p l e R s m args below meth c H locs cells slots Q (F0 m (pc + 2) ls (v :: rest))) : W p l e R s m args below meth c H locs cells slots Q (F0 m pc ls rest) := by
  intro T hT X
  obtain ⟨t, a, b⟩ := kk T hT X
  refine ⟨t, ?_, b⟩
  jvm_step X.here [X.here.top, hexec, hb, hdg, hl, hv]
  exact a
theorem ax_astore_n (hexec : p.tables.exec = Jvm.exec) (hb : c.code = cc) {k : Fin 4} {nL : Nat} {v : Value} {lv : List (Nat × Value)} (hv : v.isRef = true) (hdg : decode cc pc = .ok (.astore_n k, 1)) (h : lv_has ls nL lv) (hn : (k : Nat) < nL)
    (kk : ∀ ls' : Array Slot, lv_has ls' nL (((k : Nat), v) :: lv.filter (fun q => !(q.1 == (k : Nat)) && !(q.1 + 1 == (k : Nat) && q.2.category == 2))) → W p l e R s m args below meth c H locs cells slots Q (F0 m (pc + 1) ls' rest)) : W p l e R s m args below meth c H locs cells slots Q (F0 m pc ls (v :: rest)) := by
  obtain ⟨ls', e', h'⟩ := lv_store1 (v := v) h hn (by cases v <;> first | rfl | cases hv)
  intro T hT X
  obtain ⟨t, a, b⟩ := kk ls' h' T hT X
  refine ⟨t, ?_, b⟩
  jvm_step X.here [X.here.top, ↓top_set X.here.top, hexec, hb, hdg, e', hv]
  exact a
theorem ax_astore (hexec : p.tables.exec = Jvm.exec) (hb : c.code = cc) {k : Nat} {nL : Nat} {v : Value} {lv : List (Nat × Value)} (hv : v.isRef = true) (hdg : decode cc pc = .ok (.astore k, 2)) (h : lv_has ls nL lv) (hn : k < nL)
    (kk : ∀ ls' : Array Slot, lv_has ls' nL ((k, v) :: lv.filter (fun q => !(q.1 == k) && !(q.1 + 1 == k && q.2.category == 2))) → W p l e R s m args below meth c H locs cells slots Q (F0 m (pc + 2) ls' rest)) : W p l e R s m args below meth c H locs cells slots Q (F0 m pc ls (v :: rest)) := by
  obtain ⟨ls', e', h'⟩ := lv_store1 (v := v) h hn (by cases v <;> first | rfl | cases hv)
  intro T hT X
  obtain ⟨t, a, b⟩ := kk ls' h' T hT X
  refine ⟨t, ?_, b⟩
  jvm_step X.here [X.here.top, ↓top_set X.here.top, hexec, hb, hdg, e', hv]
  exact a
end
theorem X_aload {k : Nat} (j : Nat) {a : Nat} (hd : decode (ib i) pc = .ok (.aload k, 2)) (hl : lv[j]? = some (k, vr a)) (kk : X L i (pc + 2) lv (vr a :: st) M o) : X L i pc lv st M o :=
  fun q hq hW hO => X_push (v := vr a) (hO.at hl) (fun p l e R s m args below meth c H locs ls cells slots Q ad S h kk => ax_aload S.1 S.2.1 (rr_isRef ad a) hd (lm_at h hl) (kk ls h)) kk q hq hW hO
theorem X_aloadn {k : Fin 4} (j : Nat) {a : Nat} (hd : decode (ib i) pc = .ok (.aload_n k, 1)) (hl : lv[j]? = some ((k : Nat), vr a)) (kk : X L i (pc + 1) lv (vr a :: st) M o) : X L i pc lv st M o :=
  fun q hq hW hO => X_push (v := vr a) (hO.at hl) (fun p l e R s m args below meth c H locs ls cells slots Q ad S h kk => ax_aload_n S.1 S.2.1 (rr_isRef ad a) hd (lm_at h hl) (kk ls h)) kk q hq hW hO
/-- the locals behind a store of one word, of two words -/
def st1 (k : Nat) (v : AV) (lv : List (Nat × AV)) : List (Nat × AV) := (k, v) :: lv.filter (fun q => !(q.1 == k) && !(q.1 + 1 == k && q.2.isRight && (match q.2 with | .inr (.inl _) => true | _ => false)))
def st2 (k : Nat) (v : AV) (lv : List (Nat × AV)) : List (Nat × AV) := (k, v) :: lv.filter (fun q => !(q.1 == k) && (!(q.1 == k + 1) && !(q.1 + 1 == k && q.2.isRight && (match q.2 with | .inr (.inl _) => true | _ => false))))
theorem rv_cat2 (ad : Nat → Nat) (v : AV) : ((rv ad v).category == 2) = (v.isRight && (match v with | .inr (.inl _) => true | _ => false)) := by
  rcases v with x | x | a
  · rfl
  · rfl
  · show ((rr ad a).category == 2) = _
    rw [rr_cat]; rfl
theorem st1_map (ad : Nat → Nat) (k : Nat) (v : AV) (lv : List (Nat × AV)) : (k, rv ad v) :: (lv.map (lm ad)).filter (fun q => !(q.1 == k) && !(q.1 + 1 == k && q.2.category == 2)) = (st1 k v lv).map (lm ad) := by
  show _ = (k, rv ad v) :: _
  rw [List.filter_map]
  congr 2
  refine List.filter_congr fun q _ => ?_
  show (!(q.1 == k) && !(q.1 + 1 == k && ((rv ad q.2).category == 2))) = _
  rw [rv_cat2, Bool.and_assoc]
theorem st2_map (ad : Nat → Nat) (k : Nat) (v : AV) (lv : List (Nat × AV)) : (k, rv ad v) :: (lv.map (lm ad)).filter (fun q => !(q.1 == k) && (!(q.1 == k + 1) && !(q.1 + 1 == k && q.2.category == 2))) = (st2 k v lv).map (lm ad) := by
  show _ = (k, rv ad v) :: _
  rw [List.filter_map]
  congr 2
  refine List.filter_congr fun q _ => ?_
  show (!(q.1 == k) && (!(q.1 == k + 1) && !(q.1 + 1 == k && ((rv ad q.2).category == 2)))) = _
  rw [rv_cat2, Bool.and_assoc]
theorem OK.st1 {k : Nat} {v : AV} (h : OK M lv (v :: st)) : OK M (st1 k v lv) st := ⟨fun q hq => (List.mem_cons.mp hq).elim (fun e => e ▸ h.top) (fun z => h.1 q (List.mem_filter.mp z).1), h.pop.2⟩
theorem OK.st2 {k : Nat} {v : AV} (h : OK M lv (v :: st)) : OK M (st2 k v lv) st := ⟨fun q hq => (List.mem_cons.mp hq).elim (fun e => e ▸ h.top) (fun z => h.1 q (List.mem_filter.mp z).1), h.pop.2⟩
theorem X_istore {k : Nat} {x : Int32} {lv' : List (Nat × AV)} (hd : decode (ib i) pc = .ok (.istore k, 2)) (hn : k < iL i) (hl : st1 k (vi x) lv = lv') (kk : X L i (pc + 2) lv' st M o) : X L i pc lv (vi x :: st) M o :=
  X_pure (fun h => hl ▸ h.st1) (fun p l e R s m args below meth c H locs ls cells slots Q ad S h kk => lv_istore S.1 S.2.1 hd h hn (by rw [← hl]; exact st1_map ad k (vi x) lv) kk) kk
theorem X_istoren {k : Fin 4} {x : Int32} {lv' : List (Nat × AV)} (hd : decode (ib i) pc = .ok (.istore_n k, 1)) (hn : (k : Nat) < iL i) (hl : st1 k (vi x) lv = lv') (kk : X L i (pc + 1) lv' st M o) : X L i pc lv (vi x :: st) M o :=
  X_pure (fun h => hl ▸ h.st1) (fun p l e R s m args below meth c H locs ls cells slots Q ad S h kk => lv_istore_n S.1 S.2.1 hd rfl h hn (by rw [← hl]; exact st1_map ad k (vi x) lv) kk) kk
theorem X_lstore {k : Nat} {x : Int64} {lv' : List (Nat × AV)} (hd : decode (ib i) pc = .ok (.lstore k, 2)) (hn : k + 1 < iL i) (hl : st2 k (vl x) lv = lv') (kk : X L i (pc + 2) lv' st M o) : X L i pc lv (vl x :: st) M o :=
  X_pure (fun h => hl ▸ h.st2) (fun p l e R s m args below meth c H locs ls cells slots Q ad S h kk => lv_lstore S.1 S.2.1 hd h hn (by rw [← hl]; exact st2_map ad k (vl x) lv) kk) kk
theorem X_lstoren {k : Fin 4} {x : Int64} {lv' : List (Nat × AV)} (hd : decode (ib i) pc = .ok (.lstore_n k, 1)) (hn : (k : Nat) + 1 < iL i) (hl : st2 k (vl x) lv = lv') (kk : X L i (pc + 1) lv' st M o) : X L i pc lv (vl x :: st) M o :=
  X_pure (fun h => hl ▸ h.st2) (fun p l e R s m args below meth c H locs ls cells slots Q ad S h kk => lv_lstore_n S.1 S.2.1 hd rfl h hn (by rw [← hl]; exact st2_map ad k (vl x) lv) kk) kk
theorem X_astore {k a : Nat} {lv' : List (Nat × AV)} (hd : decode (ib i) pc = .ok (.astore k, 2)) (hn : k < iL i) (hl : st1 k (vr a) lv = lv') (kk : X L i (pc + 2) lv' st M o) : X L i pc lv (vr a :: st) M o :=
  X_pure (fun h => hl ▸ h.st1) (fun p l e R s m args below meth c H locs ls cells slots Q ad S h kk => ax_astore S.1 S.2.1 (rr_isRef ad a) hd h hn (fun ls' h' => kk ls' (by rw [← hl, ← st1_map]; exact h'))) kk
theorem X_astoren {k : Fin 4} {a : Nat} {lv' : List (Nat × AV)} (hd : decode (ib i) pc = .ok (.astore_n k, 1)) (hn : (k : Nat) < iL i) (hl : st1 k (vr a) lv = lv') (kk : X L i (pc + 1) lv' st M o) : X L i pc lv (vr a :: st) M o :=
  X_pure (fun h => hl ▸ h.st1) (fun p l e R s m args below meth c H locs ls cells slots Q ad S h kk => ax_astore_n S.1 S.2.1 (rr_isRef ad a) hd h hn (fun ls' h' => kk ls' (by rw [← hl, ← st1_map]; exact h'))) kk
theorem X_iinc {k : Nat} (j : Nat) {n : Int} {x y : Int32} {lv' : List (Nat × AV)} (hd : decode (ib i) pc = .ok (.iinc k n, 3)) (hx : lv[j]? = some (k, vi x)) (hy : x + Int32.ofInt n = y) (hn : k < iL i) (hl : st1 k (vi y) lv = lv') (kk : X L i (pc + 3) lv' st M o) : X L i pc lv st M o :=
  X_pure (fun h => hl ▸ OK.st1 (v := vi y) (h.push trivial)) (fun p l e R s m args below meth c H locs ls cells slots Q ad S h kk => lv_iinc S.1 S.2.1 hd h (k := j) (by rw [List.getElem?_map, hx]; rfl) hy hn (by rw [← hl]; exact st1_map ad k (vi y) lv) kk) kk
theorem X_iconst {n : Int} {x : Int32} (hx : Int32.ofInt n = x) (hd : decode (ib i) pc = .ok (.iconst n, 1)) (kk : X L i (pc + 1) lv (vi x :: st) M o) : X L i pc lv st M o :=
  X_push (v := vi x) trivial (fun p l e R s m args below meth c H locs ls cells slots Q ad S h kk => lv_iconst S.1 S.2.1 hd hx (kk ls h)) kk
theorem X_bipush {n : Int} {x : Int32} (hx : (Int8.ofInt n).toInt32 = x) (hd : decode (ib i) pc = .ok (.bipush n, 2)) (kk : X L i (pc + 2) lv (vi x :: st) M o) : X L i pc lv st M o :=
  X_push (v := vi x) trivial (fun p l e R s m args below meth c H locs ls cells slots Q ad S h kk => lv_bipush S.1 S.2.1 hd hx (kk ls h)) kk
theorem X_sipush {n : Int} {x : Int32} (hx : (Int16.ofInt n).toInt32 = x) (hd : decode (ib i) pc = .ok (.sipush n, 3)) (kk : X L i (pc + 3) lv (vi x :: st) M o) : X L i pc lv st M o :=
  X_push (v := vi x) trivial (fun p l e R s m args below meth c H locs ls cells slots Q ad S h kk => lv_sipush S.1 S.2.1 hd hx (kk ls h)) kk
theorem X_lconst {n : Fin 2} {x : Int64} (hx : Int64.ofNat (n : Nat) = x) (hd : decode (ib i) pc = .ok (.lconst n, 1)) (kk : X L i (pc + 1) lv (vl x :: st) M o) : X L i pc lv st M o :=
  X_push (v := vl x) trivial (fun p l e R s m args below meth c H locs ls cells slots Q ad S h kk => lv_lconst S.1 S.2.1 hd hx (kk ls h)) kk
theorem X_ldc {n : Nat} {x : Int32} (hx : Cond.constant (iy i).cls n x ∈ gT) (hd : decode (ib i) pc = .ok (.ldc n, 2)) (kk : X L i (pc + 2) lv (vi x :: st) M o) : X L i pc lv st M o :=
  X_push (v := vi x) trivial (fun p l e R s m args below meth c H locs ls cells slots Q ad S h kk => lv_ldc S.1 S.2.1 S.2.2.2.1 (S.2.2.2.2.1 _ hx) hd (kk ls h)) kk
theorem X_ldcw {n : Nat} {x : Int32} (hx : Cond.constant (iy i).cls n x ∈ gT) (hd : decode (ib i) pc = .ok (.ldc_w n, 3)) (kk : X L i (pc + 3) lv (vi x :: st) M o) : X L i pc lv st M o :=
  X_push (v := vi x) trivial (fun p l e R s m args below meth c H locs ls cells slots Q ad S h kk => lv_ldcw S.1 S.2.1 S.2.2.2.1 (S.2.2.2.2.1 _ hx) hd (kk ls h)) kk
theorem X_ldc2 {n : Nat} {x : Int64} (hx : Cond.constantLong (iy i).cls n x ∈ gT) (hd : decode (ib i) pc = .ok (.ldc2_w n, 3)) (kk : X L i (pc + 3) lv (vl x :: st) M o) : X L i pc lv st M o :=
  X_push (v := vl x) trivial (fun p l e R s m args below meth c H locs ls cells slots Q ad S h kk => lv_ldc2 S.1 S.2.1 S.2.2.2.1 (S.2.2.2.2.1 _ hx) hd (kk ls h)) kk
theorem X_iadd {x : Int32} {y : Int32}  (hd : decode (ib i) pc = .ok (.iadd, 1)) (kk : X L i (pc + 1) lv (vi (x + y) :: st) M o) : X L i pc lv (vi y :: vi x :: st) M o :=
  X_pure (fun h => h.pop.pop.push (v := vi (x + y)) trivial) (fun p l e R s m args below meth c H locs ls cells slots Q ad S h kk => lv_iadd S.1 S.2.1 hd (kk ls h)) kk
theorem X_isub {x : Int32} {y : Int32}  (hd : decode (ib i) pc = .ok (.isub, 1)) (kk : X L i (pc + 1) lv (vi (x - y) :: st) M o) : X L i pc lv (vi y :: vi x :: st) M o :=
  X_pure (fun h => h.pop.pop.push (v := vi (x - y)) trivial) (fun p l e R s m args below meth c H locs ls cells slots Q ad S h kk => lv_isub S.1 S.2.1 hd (kk ls h)) kk
theorem X_imul {x : Int32} {y : Int32}  (hd : decode (ib i) pc = .ok (.imul, 1)) (kk : X L i (pc + 1) lv (vi (x * y) :: st) M o) : X L i pc lv (vi y :: vi x :: st) M o :=
  X_pure (fun h => h.pop.pop.push (v := vi (x * y)) trivial) (fun p l e R s m args below meth c H locs ls cells slots Q ad S h kk => lv_imul S.1 S.2.1 hd (kk ls h)) kk
theorem X_iand {x : Int32} {y : Int32}  (hd : decode (ib i) pc = .ok (.iand, 1)) (kk : X L i (pc + 1) lv (vi (x &&& y) :: st) M o) : X L i pc lv (vi y :: vi x :: st) M o :=
  X_pure (fun h => h.pop.pop.push (v := vi (x &&& y)) trivial) (fun p l e R s m args below meth c H locs ls cells slots Q ad S h kk => lv_iand S.1 S.2.1 hd (kk ls h)) kk
theorem X_ior {x : Int32} {y : Int32}  (hd : decode (ib i) pc = .ok (.ior, 1)) (kk : X L i (pc + 1) lv (vi (x ||| y) :: st) M o) : X L i pc lv (vi y :: vi x :: st) M o :=
  X_pure (fun h => h.pop.pop.push (v := vi (x ||| y)) trivial) (fun p l e R s m args below meth c H locs ls cells slots Q ad S h kk => lv_ior S.1 S.2.1 hd (kk ls h)) kk
theorem X_ixor {x : Int32} {y : Int32}  (hd : decode (ib i) pc = .ok (.ixor, 1)) (kk : X L i (pc + 1) lv (vi (x ^^^ y) :: st) M o) : X L i pc lv (vi y :: vi x :: st) M o :=
  X_pure (fun h => h.pop.pop.push (v := vi (x ^^^ y)) trivial) (fun p l e R s m args below meth c H locs ls cells slots Q ad S h kk => lv_ixor S.1 S.2.1 hd (kk ls h)) kk
theorem X_ishl {x : Int32} {y : Int32}  (hd : decode (ib i) pc = .ok (.ishl, 1)) (kk : X L i (pc + 1) lv (vi (x <<< (y &&& 31)) :: st) M o) : X L i pc lv (vi y :: vi x :: st) M o :=
  X_pure (fun h => h.pop.pop.push (v := vi (x <<< (y &&& 31))) trivial) (fun p l e R s m args below meth c H locs ls cells slots Q ad S h kk => lv_ishl S.1 S.2.1 hd (kk ls h)) kk
theorem X_ishr {x : Int32} {y : Int32}  (hd : decode (ib i) pc = .ok (.ishr, 1)) (kk : X L i (pc + 1) lv (vi (x >>> (y &&& 31)) :: st) M o) : X L i pc lv (vi y :: vi x :: st) M o :=
  X_pure (fun h => h.pop.pop.push (v := vi (x >>> (y &&& 31))) trivial) (fun p l e R s m args below meth c H locs ls cells slots Q ad S h kk => lv_ishr S.1 S.2.1 hd (kk ls h)) kk
theorem X_iushr {x : Int32} {y : Int32}  (hd : decode (ib i) pc = .ok (.iushr, 1)) (kk : X L i (pc + 1) lv (vi ((x.toUInt32 >>> (y.toUInt32 &&& Int32.toUInt32 31)).toInt32) :: st) M o) : X L i pc lv (vi y :: vi x :: st) M o :=
  X_pure (fun h => h.pop.pop.push (v := vi ((x.toUInt32 >>> (y.toUInt32 &&& Int32.toUInt32 31)).toInt32)) trivial) (fun p l e R s m args below meth c H locs ls cells slots Q ad S h kk => lv_iushr S.1 S.2.1 hd rfl (kk ls h)) kk
theorem X_ladd {x : Int64} {y : Int64}  (hd : decode (ib i) pc = .ok (.ladd, 1)) (kk : X L i (pc + 1) lv (vl (x + y) :: st) M o) : X L i pc lv (vl y :: vl x :: st) M o :=
  X_pure (fun h => h.pop.pop.push (v := vl (x + y)) trivial) (fun p l e R s m args below meth c H locs ls cells slots Q ad S h kk => lv_ladd S.1 S.2.1 hd (kk ls h)) kk
theorem X_lsub {x : Int64} {y : Int64}  (hd : decode (ib i) pc = .ok (.lsub, 1)) (kk : X L i (pc + 1) lv (vl (x - y) :: st) M o) : X L i pc lv (vl y :: vl x :: st) M o :=
  X_pure (fun h => h.pop.pop.push (v := vl (x - y)) trivial) (fun p l e R s m args below meth c H locs ls cells slots Q ad S h kk => lv_lsub S.1 S.2.1 hd (kk ls h)) kk
theorem X_lor {x : Int64} {y : Int64}  (hd : decode (ib i) pc = .ok (.lor, 1)) (kk : X L i (pc + 1) lv (vl (x ||| y) :: st) M o) : X L i pc lv (vl y :: vl x :: st) M o :=
  X_pure (fun h => h.pop.pop.push (v := vl (x ||| y)) trivial) (fun p l e R s m args below meth c H locs ls cells slots Q ad S h kk => lv_lor S.1 S.2.1 hd (kk ls h)) kk
theorem X_lmul {x : Int64} {y : Int64}  (hd : decode (ib i) pc = .ok (.lmul, 1)) (kk : X L i (pc + 1) lv (vl (x * y) :: st) M o) : X L i pc lv (vl y :: vl x :: st) M o :=
  X_pure (fun h => h.pop.pop.push (v := vl (x * y)) trivial) (fun p l e R s m args below meth c H locs ls cells slots Q ad S h kk => lv_lmul S.1 S.2.1 hd (kk ls h)) kk
theorem X_lshl {x : Int64} {y : Int32}  (hd : decode (ib i) pc = .ok (.lshl, 1)) (kk : X L i (pc + 1) lv (vl (x <<< (y.toInt64 &&& 63)) :: st) M o) : X L i pc lv (vi y :: vl x :: st) M o :=
  X_pure (fun h => h.pop.pop.push (v := vl (x <<< (y.toInt64 &&& 63))) trivial) (fun p l e R s m args below meth c H locs ls cells slots Q ad S h kk => lv_lshl S.1 S.2.1 hd rfl (kk ls h)) kk
theorem X_lcmp {x : Int64} {y : Int64}  (hd : decode (ib i) pc = .ok (.lcmp, 1)) (kk : X L i (pc + 1) lv (vi (lg_cmp x y) :: st) M o) : X L i pc lv (vl y :: vl x :: st) M o :=
  X_pure (fun h => h.pop.pop.push (v := vi (lg_cmp x y)) trivial) (fun p l e R s m args below meth c H locs ls cells slots Q ad S h kk => W.lcmp S.1 S.2.1 hd (kk ls h)) kk
theorem X_i2l {x : Int32} (hd : decode (ib i) pc = .ok (.i2l, 1)) (kk : X L i (pc + 1) lv (vl x.toInt64 :: st) M o) : X L i pc lv (vi x :: st) M o :=
  X_pure (fun h => h.pop.push (v := vl x.toInt64) trivial) (fun p l e R s m args below meth c H locs ls cells slots Q ad S h kk => lv_i2l S.1 S.2.1 hd rfl (kk ls h)) kk
def gd {β : Type} (c : Prop) [Decidable c] (o : Option β) : Option β := if c then o else none
theorem X_gd {c : Prop} [Decidable c] (kk : c → X L i pc lv st M o) : X L i pc lv st M (gd c o) := by
  intro q hq hW hO
  unfold gd at hq
  split at hq
  · rename_i hc
    exact kk hc q hq hW hO
  · cases hq
theorem X_idiv {x y : Int32} (hd : decode (ib i) pc = .ok (.idiv, 1)) (kk : X L i (pc + 1) lv (vi (x / y) :: st) M o) : X L i pc lv (vi y :: vi x :: st) M (gd (¬ y = 0) o) :=
  X_gd fun hc => X_pure (fun h => h.pop.pop.push (v := vi (x / y)) trivial) (fun p l e R s m args below meth c H locs ls cells slots Q ad S h kk => lv_idiv S.1 S.2.1 hd hc (kk ls h)) kk
theorem X_irem {x y : Int32} (hd : decode (ib i) pc = .ok (.irem, 1)) (kk : X L i (pc + 1) lv (vi (x - x / y * y) :: st) M o) : X L i pc lv (vi y :: vi x :: st) M (gd (¬ y = 0) o) :=
  X_gd fun hc => X_pure (fun h => h.pop.pop.push (v := vi (x - x / y * y)) trivial) (fun p l e R s m args below meth c H locs ls cells slots Q ad S h kk => lv_irem S.1 S.2.1 hd hc (kk ls h)) kk
theorem rv_c1 {ad : Nat → Nat} {v : AV} (h : ∀ x, v ≠ vl x) : (rv ad v).category = 1 := by
  rcases v with x | x | a
  · rfl
  · exact absurd rfl (h x)
  · exact rr_cat ad a
theorem X_dupr {a : Nat} (hd : decode (ib i) pc = .ok (.dup, 1)) (kk : X L i (pc + 1) lv (vr a :: vr a :: st) M o) : X L i pc lv (vr a :: st) M o :=
  X_pure (fun h => h.push h.top) (fun p l e R s m args below meth c H locs ls cells slots Q ad S h kk => lv_dup S.1 S.2.1 hd (rr_cat ad a) (kk ls h)) kk
theorem X_dupi {x : Int32} (hd : decode (ib i) pc = .ok (.dup, 1)) (kk : X L i (pc + 1) lv (vi x :: vi x :: st) M o) : X L i pc lv (vi x :: st) M o :=
  X_pure (fun h => h.push h.top) (fun p l e R s m args below meth c H locs ls cells slots Q ad S h kk => lv_dup S.1 S.2.1 hd rfl (kk ls h)) kk
theorem X_dup2 {a : Nat} {x : Int32} (hd : decode (ib i) pc = .ok (.dup2, 1)) (kk : X L i (pc + 1) lv (vi x :: vr a :: vi x :: vr a :: st) M o) : X L i pc lv (vi x :: vr a :: st) M o :=
  X_pure (fun h => (h.push h.pop.top).push h.top) (fun p l e R s m args below meth c H locs ls cells slots Q ad S h kk => lv_dup2_11 S.1 S.2.1 hd rfl (rr_cat ad a) (kk ls h)) kk
theorem X_popi {x : Int32} (hd : decode (ib i) pc = .ok (.pop, 1)) (kk : X L i (pc + 1) lv st M o) : X L i pc lv (vi x :: st) M o :=
  X_pure (fun h => h.pop) (fun p l e R s m args below meth c H locs ls cells slots Q ad S h kk => lv_pop S.1 S.2.1 hd rfl (kk ls h)) kk
theorem X_popr {a : Nat} (hd : decode (ib i) pc = .ok (.pop, 1)) (kk : X L i (pc + 1) lv st M o) : X L i pc lv (vr a :: st) M o :=
  X_pure (fun h => h.pop) (fun p l e R s m args below meth c H locs ls cells slots Q ad S h kk => lv_pop S.1 S.2.1 hd (rr_cat ad a) (kk ls h)) kk
theorem X_goto {n : Int} {t : Nat} (hd : decode (ib i) pc = .ok (.goto n, 3)) (ht : (pc : Int) + n = (t : Int)) (kk : X L i t lv st M o) : X L i pc lv st M o :=
  X_pure (fun h => h) (fun p l e R s m args below meth c H locs ls cells slots Q ad S h kk => lv_goto S.1 S.2.1 hd ht (kk ls h)) kk
/-- a branch: two goals -/
theorem X_two {c : Prop} [Decidable c] {t f : Nat} {st' : List AV} {o1 o2 : Option β} (hok : OK M lv st → OK M lv st')
    (hs : ∀ (p : Program) (l : Launch) (e : Env) (R : Room) (s : State) (m : MethodId) (args : Array Value) (below : List Frame) (meth : Method) (c' : Code) (H : Heap) (locs : List Loc) (ls : Array Slot) (cells slots : Nat) (Q : State → Prop) (ad : Nat → Nat),
      Sit i p R s m args meth c' → (c → W p l e R s m args below meth c' H locs cells slots Q (F0 m t ls (st'.map (rv ad)))) → (¬ c → W p l e R s m args below meth c' H locs cells slots Q (F0 m f ls (st'.map (rv ad)))) → W p l e R s m args below meth c' H locs cells slots Q (F0 m pc ls (st.map (rv ad))))
    (k1 : c → X L i t lv st' M o1) (k2 : ¬ c → X L i f lv st' M o2) : X L i pc lv st M (if c then o1 else o2) := by
  intro q hq hW hO
  by_cases hc : c
  · rw [if_pos hc] at hq
    obtain ⟨h1, h2⟩ := k1 hc q hq hW (hok hO)
    refine ⟨h1, ?_⟩
    intro p l e R s m args below meth c' H locs ls cells slots A G ad n S hw hl hn hcs hs2
    exact hs p l e R s m args below meth c' H locs ls cells slots _ ad S (fun _ => h2 p l e R s m args below meth c' H locs ls cells slots A G ad n S hw hl hn hcs hs2) (fun h => absurd hc h)
  · rw [if_neg hc] at hq
    obtain ⟨h1, h2⟩ := k2 hc q hq hW (hok hO)
    refine ⟨h1, ?_⟩
    intro p l e R s m args below meth c' H locs ls cells slots A G ad n S hw hl hn hcs hs2
    exact hs p l e R s m args below meth c' H locs ls cells slots _ ad S (fun h => absurd h hc) (fun _ => h2 p l e R s m args below meth c' H locs ls cells slots A G ad n S hw hl hn hcs hs2)
theorem X_if_eq {x : Int32} {n : Int} {t : Nat} {o1 o2 : Option β} (hd : decode (ib i) pc = .ok (.ifCond .eq n, 3)) (ht : (pc : Int) + n = (t : Int)) (k1 : x = 0 → X L i t lv st M o1) (k2 : ¬ x = 0 → X L i (pc + 3) lv st M o2) : X L i pc lv (vi x :: st) M (if x = 0 then o1 else o2) :=
  X_two OK.pop (fun p l e R s m args below meth c' H locs ls cells slots Q ad S a b => lv_if_eq S.1 S.2.1 hd ht a b) k1 k2
theorem X_if_ne {x : Int32} {n : Int} {t : Nat} {o1 o2 : Option β} (hd : decode (ib i) pc = .ok (.ifCond .ne n, 3)) (ht : (pc : Int) + n = (t : Int)) (k1 : x = 0 → X L i (pc + 3) lv st M o1) (k2 : ¬ x = 0 → X L i t lv st M o2) : X L i pc lv (vi x :: st) M (if x = 0 then o1 else o2) :=
  X_two OK.pop (fun p l e R s m args below meth c' H locs ls cells slots Q ad S a b => lv_if_ne S.1 S.2.1 hd ht b a) k1 k2
theorem X_if_lt {x : Int32} {n : Int} {t : Nat} {o1 o2 : Option β} (hd : decode (ib i) pc = .ok (.ifCond .lt n, 3)) (ht : (pc : Int) + n = (t : Int)) (k1 : x < 0 → X L i t lv st M o1) (k2 : ¬ x < 0 → X L i (pc + 3) lv st M o2) : X L i pc lv (vi x :: st) M (if x < 0 then o1 else o2) :=
  X_two OK.pop (fun p l e R s m args below meth c' H locs ls cells slots Q ad S a b => lv_if_lt S.1 S.2.1 hd ht a b) k1 k2
theorem X_if_ge {x : Int32} {n : Int} {t : Nat} {o1 o2 : Option β} (hd : decode (ib i) pc = .ok (.ifCond .ge n, 3)) (ht : (pc : Int) + n = (t : Int)) (k1 : 0 ≤ x → X L i t lv st M o1) (k2 : ¬ 0 ≤ x → X L i (pc + 3) lv st M o2) : X L i pc lv (vi x :: st) M (if 0 ≤ x then o1 else o2) :=
  X_two OK.pop (fun p l e R s m args below meth c' H locs ls cells slots Q ad S a b => lv_if_ge S.1 S.2.1 hd ht a b) k1 k2
theorem X_if_gt {x : Int32} {n : Int} {t : Nat} {o1 o2 : Option β} (hd : decode (ib i) pc = .ok (.ifCond .gt n, 3)) (ht : (pc : Int) + n = (t : Int)) (k1 : 0 < x → X L i t lv st M o1) (k2 : ¬ 0 < x → X L i (pc + 3) lv st M o2) : X L i pc lv (vi x :: st) M (if 0 < x then o1 else o2) :=
  X_two OK.pop (fun p l e R s m args below meth c' H locs ls cells slots Q ad S a b => lv_if_gt S.1 S.2.1 hd ht a b) k1 k2
theorem X_if_le {x : Int32} {n : Int} {t : Nat} {o1 o2 : Option β} (hd : decode (ib i) pc = .ok (.ifCond .le n, 3)) (ht : (pc : Int) + n = (t : Int)) (k1 : x ≤ 0 → X L i t lv st M o1) (k2 : ¬ x ≤ 0 → X L i (pc + 3) lv st M o2) : X L i pc lv (vi x :: st) M (if x ≤ 0 then o1 else o2) :=
  X_two OK.pop (fun p l e R s m args below meth c' H locs ls cells slots Q ad S a b => lv_if_le S.1 S.2.1 hd ht a b) k1 k2
theorem X_icmp_eq {x y : Int32} {n : Int} {t : Nat} {o1 o2 : Option β} (hd : decode (ib i) pc = .ok (.if_icmp .eq n, 3)) (ht : (pc : Int) + n = (t : Int)) (k1 : x = y → X L i t lv st M o1) (k2 : ¬ x = y → X L i (pc + 3) lv st M o2) : X L i pc lv (vi y :: vi x :: st) M (if x = y then o1 else o2) :=
  X_two (fun h => h.pop.pop) (fun p l e R s m args below meth c' H locs ls cells slots Q ad S a b => lv_icmp_eq S.1 S.2.1 hd ht a b) k1 k2
theorem X_icmp_ne {x y : Int32} {n : Int} {t : Nat} {o1 o2 : Option β} (hd : decode (ib i) pc = .ok (.if_icmp .ne n, 3)) (ht : (pc : Int) + n = (t : Int)) (k1 : x = y → X L i (pc + 3) lv st M o1) (k2 : ¬ x = y → X L i t lv st M o2) : X L i pc lv (vi y :: vi x :: st) M (if x = y then o1 else o2) :=
  X_two (fun h => h.pop.pop) (fun p l e R s m args below meth c' H locs ls cells slots Q ad S a b => lv_icmp_ne S.1 S.2.1 hd ht b a) k1 k2
theorem X_icmp_lt {x y : Int32} {n : Int} {t : Nat} {o1 o2 : Option β} (hd : decode (ib i) pc = .ok (.if_icmp .lt n, 3)) (ht : (pc : Int) + n = (t : Int)) (k1 : x < y → X L i t lv st M o1) (k2 : ¬ x < y → X L i (pc + 3) lv st M o2) : X L i pc lv (vi y :: vi x :: st) M (if x < y then o1 else o2) :=
  X_two (fun h => h.pop.pop) (fun p l e R s m args below meth c' H locs ls cells slots Q ad S a b => lv_icmp_lt S.1 S.2.1 hd ht a b) k1 k2
theorem X_icmp_ge {x y : Int32} {n : Int} {t : Nat} {o1 o2 : Option β} (hd : decode (ib i) pc = .ok (.if_icmp .ge n, 3)) (ht : (pc : Int) + n = (t : Int)) (k1 : y ≤ x → X L i t lv st M o1) (k2 : ¬ y ≤ x → X L i (pc + 3) lv st M o2) : X L i pc lv (vi y :: vi x :: st) M (if y ≤ x then o1 else o2) :=
  X_two (fun h => h.pop.pop) (fun p l e R s m args below meth c' H locs ls cells slots Q ad S a b => lv_icmp_ge S.1 S.2.1 hd ht a b) k1 k2
theorem X_icmp_gt {x y : Int32} {n : Int} {t : Nat} {o1 o2 : Option β} (hd : decode (ib i) pc = .ok (.if_icmp .gt n, 3)) (ht : (pc : Int) + n = (t : Int)) (k1 : y < x → X L i t lv st M o1) (k2 : ¬ y < x → X L i (pc + 3) lv st M o2) : X L i pc lv (vi y :: vi x :: st) M (if y < x then o1 else o2) :=
  X_two (fun h => h.pop.pop) (fun p l e R s m args below meth c' H locs ls cells slots Q ad S a b => lv_icmp_gt S.1 S.2.1 hd ht a b) k1 k2
theorem X_icmp_le {x y : Int32} {n : Int} {t : Nat} {o1 o2 : Option β} (hd : decode (ib i) pc = .ok (.if_icmp .le n, 3)) (ht : (pc : Int) + n = (t : Int)) (k1 : x ≤ y → X L i t lv st M o1) (k2 : ¬ x ≤ y → X L i (pc + 3) lv st M o2) : X L i pc lv (vi y :: vi x :: st) M (if x ≤ y then o1 else o2) :=
  X_two (fun h => h.pop.pop) (fun p l e R s m args below meth c' H locs ls cells slots Q ad S a b => lv_icmp_le S.1 S.2.1 hd ht a b) k1 k2
end XR
