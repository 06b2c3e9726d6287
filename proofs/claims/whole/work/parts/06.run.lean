/-! THE CONTRACT of a method over the memory, from the judgement; calls by it -/
theorem nest_moved {u U : State} (hvm : u.WarmedH U.vm) {w : Cond} (hw : w ∈ nestW) (h : va_Nw w u) : va_Nw w U := by
  have h1 := (List.mem_filter.mp hw).2
  cases w <;> first | exact va_Nw.warmM hvm h | (simp at h1; done)
theorem nest_same {u U : State} (hvm : u.vm = U.vm) {w : Cond} (hw : w ∈ nestW) (h : va_Nw w u) : va_Nw w U := by
  have h1 := (List.mem_filter.mp hw).2
  cases w <;> first | exact va_tabs rfl hvm h | (simp at h1; done)
theorem WK.moved {G : CG} {u U : State} (hvm : u.WarmedH U.vm) (h : WK G u) : WK G U := ⟨va_K.moved hvm.alike h.1, fun w hw => nest_moved hvm hw (h.2 w hw)⟩
def rmOf (i : MI) (mc ms : Nat) : Room := { frames := ifr i, cells := mc, slots := ms, locals := ilo i }
def wsF (i : MI) : List Cond := Cond.code (iy i) (ib i) (iL i) (ir i) :: gT
def PreM (G : CG) (ad : Nat → Nat) (M : MM) (as : List AV) (sz : Nat) : Array Value → State → Prop := va_Pc (as.map (rv ad)) (fun U => U.heap.size = sz ∧ WK G U ∧ va_P G.1 vwCl (wsOf G ad M) U.heap ∧ va_D (fun _ => True) (wsOf G ad M))
def Run (i : MI) (as : List AV) (M : MM) (x : Option AV × MM) : Prop :=
  WF M → (∀ v ∈ as, okv M v) → Good M x ∧ ∀ (l : Launch) (G : CG) (ad : Nat → Nat) (sz : Nat),
    Met l (iy i) (wsF i) (rmOf i (mz x.2 - mz M) (mn x.2 - mn M)) (PreM G ad M as sz) (QC G ad (va_A (wsOf G ad M) sz) (mz M) x) (mz x.2 - mz M) (mn x.2 - mn M) (va_A (wsOf G ad M) sz)
theorem PreM.blind {G : CG} {ad : Nat → Nat} {M : MM} {as : List AV} {sz : Nat} : FrameBlind (PreM G ad M as sz) := fun a U g mk h =>
  ⟨h.1, h.2.1, ⟨va_K.moved (u := U) (U := U.calling g mk a) (Vm.Alike.refl U.vm) h.2.2.1.1, fun w hw => nest_same (u := U) (U := U.calling g mk a) rfl hw (h.2.2.1.2 w hw)⟩, h.2.2.2⟩
def ct : List AV → Nat
  | [] => 0
  | v :: st => (match v with | .inr (.inl _) => 2 | _ => 1) + ct st
theorem ct_sum (ad : Nat → Nat) : ∀ st : List AV, ((st.map (rv ad)).map fun v => v.category).sum = ct st
  | [] => rfl
  | v :: st => by
    rw [List.map_cons, List.map_cons, List.sum_cons, ct_sum ad st]
    rcases v with x | x | a
    · rfl
    · rfl
    · show (rr ad a).category + _ = 1 + _
      rw [rr_cat]
/-- the arguments as locals -/
def la : Nat → List AV → List (Nat × AV)
  | _, [] => []
  | k, v :: vs => (k, v) :: la (k + (match v with | .inr (.inl _) => 2 | _ => 1)) vs
theorem cat_rv (ad : Nat → Nat) (v : AV) : (rv ad v).category = (match v with | .inr (.inl _) => 2 | _ => 1) := by
  rcases v with x | x | a
  · rfl
  · rfl
  · exact rr_cat ad a
theorem la_map (ad : Nat → Nat) : ∀ (vs : List AV) (k : Nat), lv_args k (vs.map (rv ad)) = (la k vs).map (lm ad)
  | [], _ => rfl
  | v :: vs, k => by
    rw [List.map_cons]
    show _ = (k, rv ad v) :: (la _ vs).map (lm ad)
    rw [← la_map ad vs]
    simp only [lv_args]
    rcases v with x | x | a
    · rfl
    · rfl
    · have := rr_cat ad a
      simp [rv, this]
theorem la_ok {M : MM} : ∀ (vs : List AV) (k : Nat), (∀ v ∈ vs, okv M v) → ∀ q ∈ la k vs, okv M q.2
  | [], _, _, q, hq => by cases hq
  | v :: vs, k, h, q, hq => by
    rcases List.mem_cons.mp hq with e | e
    · subst e
      exact h v List.mem_cons_self
    · exact la_ok vs _ (fun w hw => h w (List.mem_cons_of_mem _ hw)) q e
theorem sl_len (ad : Nat → Nat) : ∀ vs : List AV, (lg_sl (vs.map (rv ad))).length = ct vs
  | [] => rfl
  | v :: vs => by
    have ih := sl_len ad vs
    simp only [lg_sl, List.map_cons, List.flatMap_cons, List.length_append] at ih ⊢
    rw [ih]
    rcases v with x | x | a
    · rfl
    · rfl
    · have := rr_cat ad a
      simp [rv, this, ct]
theorem Run_of_X {β : Type} {L : β → Option AV × MM} {i : MI} {as : List AV} {M : MM} {o : Option β} (hst : plainName (iy i).cls = true) (hlen : ct as ≤ iL i) (hx : X L i 0 (la 0 as) [] M o) : ∀ q, o = some q → Run i as M (L q) := by
  intro q hq hW hok
  obtain ⟨h1, h2⟩ := hx q hq hW ⟨la_ok as 0 hok, fun v hv => by cases hv⟩
  refine ⟨h1, fun l G ad sz => ?_⟩
  refine Met.ofW (cc := ib i) (maxL := iL i) (ret := ir i) hst rfl ?_
  intro p e s m args below meth c s₁ B hml hv
  obtain ⟨rfl, hsz, hK, hP, hD0⟩ := hv
  subst hsz
  have hts := atoms_spec (ws := wsF i) B.pre
  have hl := lv_entry (as.map (rv ad)) (n := iL i) (by rw [sl_len]; exact hlen)
  rw [lg_entry_eq]
  rw [la_map] at hl
  exact h2 p l e _ s m _ below meth c s.heap [] _ 0 0 _ G ad (mz M) ⟨B.exec, B.bytes, hml, findClass_of_methodNamed B.named, fun w hw => hts w (List.mem_cons_of_mem _ hw), B.notSynchronized, B.returns, (name_of_methodNamed B.named B.method).1, Nat.le_refl _, Nat.le_refl _⟩
    ⟨hK, hP, hD0.self, va_S.rf, fun q h => Or.inr h⟩ hl (Nat.le_refl _) (Nat.zero_add _) (Nat.zero_add _)
section XK
variable {β γ : Type} {L : β → Option AV × MM} {Lc : γ → Option AV × MM} {i j : MI} {pc : Nat} {lv : List (Nat × AV)} {st : List AV} {M : MM} {oc : Option γ} {f : γ → Option β}
/-- behind a call -/
theorem call_raw {as st1 : List AV} (hst1 : OK M lv st1 → OK M lv st ∧ ∀ v ∈ as, okv M v)
    (hs : ∀ (p : Program) (l : Launch) (e : Env) (R : Room) (s : State) (m : MethodId) (args : Array Value) (below : List Frame) (meth : Method) (c : Code) (H : Heap) (locs : List Loc) (ls : Array Slot) (cells slots : Nat) (A : Nat → Prop) (G : CG) (ad : Nat → Nat) (x : Option AV × MM), Sit i p R s m args meth c → World G ad A M s H locs → ls.size = iL i →
      Met l (iy j) (wsF j) (rmOf j (mz x.2 - mz M) (mn x.2 - mn M)) (PreM G ad M as H.size) (QC G ad (va_A (wsOf G ad M) H.size) (mz M) x) (mz x.2 - mz M) (mn x.2 - mn M) (va_A (wsOf G ad M) H.size) →
      cells + (mz x.2 - mz M) ≤ R.cells → slots + (mn x.2 - mn M) ≤ R.slots → (∀ U : State, U.heap = H → s.WarmedH U.vm → PreM G ad M as H.size (as.map (rv ad)).toArray U) →
      ∃ a, va_Run p l e R s m args below meth c H locs cells slots (mz x.2 - mz M) (mn x.2 - mn M) (F0 m pc ls (st1.map (rv ad))) (st.map (rv ad)) (QC G ad (va_A (wsOf G ad M) H.size) (mz M) x a) (va_A (wsOf G ad M) H.size))
    (hrun : ∀ q, oc = some q → Run j as M (Lc q)) (kk : ∀ q, oc = some q → X L i (pc + 3) lv ((Lc q).1.toList ++ st) (Lc q).2 (f q)) : X L i pc lv st1 M (oc.bind f) := by
  intro q hq hW hO
  obtain ⟨q1, e1, e2⟩ := Option.bind_eq_some_iff.mp hq
  obtain ⟨hO1, hOa⟩ := hst1 hO
  obtain ⟨⟨g1, g2, g3⟩, hM⟩ := hrun q1 e1 hW hOa
  have hO2 := OK_le g1.1 hO1
  have hO3 : OK (Lc q1).2 lv ((Lc q1).1.toList ++ st) := ⟨hO2.1, fun v hv => by
    rcases List.mem_append.mp hv with h | h
    · exact g3 v (by simpa using h)
    · exact hO2.2 v h⟩
  obtain ⟨h1, h2⟩ := kk q1 e1 q e2 g2 hO3
  have m1 := g1.1
  have m2 := g1.2
  have m3 := h1.1.1
  have m4 := h1.1.2
  refine ⟨⟨⟨by omega, by omega⟩, h1.2⟩, ?_⟩
  intro p l e R s m args below meth c H locs ls cells slots A G ad n S hw hl hn hc hs2
  obtain ⟨a, hr⟩ := hs p l e R s m args below meth c H locs ls cells slots A G ad (Lc q1) S hw hl.1 (hM l G ad H.size) (by omega) (by omega)
    (fun U hU hWm => ⟨rfl, by rw [hU], hw.1.moved hWm, by rw [hU]; exact hw.2.1, hw.2.2.1.weaken (fun _ _ _ _ => trivial)⟩)
  intro T hT XX
  obtain ⟨v, st₀, t, T', Ls, h0, X', hL, t1, t2, ⟨⟨ad', k1, k2, k3, k4⟩, hz, hkeep⟩, hgo⟩ := hr T hT XX
  cases k2
  rw [h0] at hz hkeep
  have hf : ∀ q, va_A (wsOf G ad M) H.size q → A q := fun q h => by
    rcases h with ⟨k, e, h⟩ | h
    · exact hw.2.2.1.2 k _ h
    · exact hw.2.2.2.2 q (Nat.le_trans hw.2.2.2.1.1 h)
  have hst2 : ((Lc q1).1.map (rv ad')).toList ++ st.map (rv ad) = ((Lc q1).1.toList ++ st).map (rv ad') := by
    rw [List.map_append, st_ag k1 hO1.2]
    cases (Lc q1).1 <;> rfl
  have hS1 : va_S A s.heap T'.heap (locs ++ Ls) := by
    have hS := hw.2.2.2.1
    refine ⟨Nat.le_trans hS.1 (by rw [t1]; exact hz), fun q h1 h2 => by rw [t1, hkeep q (Nat.lt_of_lt_of_le h1 hS.1) (fun z => h2 (hf q z))]; exact hS.2.1 q h1 h2, fun q hq => ?_⟩
    rcases List.mem_append.mp hq with h | h
    · exact hS.2.2 q h
    · exact hf _ (hL q h)
  have hk2 := h2 p l e R s m args below meth c T'.heap (locs ++ Ls) ls (cells + (mz (Lc q1).2 - mz M)) (slots + (mn (Lc q1).2 - mn M)) A G ad' n S
    ⟨hw.1, by rw [t1]; exact k3, k4.weaken (fun k q _ h => hf q.1 h), hS1, hw.2.2.2.2⟩ (by rw [lm_ag k1 hO1.1]; exact hl) (by omega) (by omega) (by omega)
  obtain ⟨t3, b1, b2⟩ := hk2 T' rfl X'
  rw [← hst2] at b1
  exact ⟨t3, hgo t3 b1, MQ.imp (fun oc hq => hq.ag (Nat.le_refl n) (fun j hj => k1 j (Nat.lt_of_lt_of_le hj hn))) b2⟩
/-- what the words say of a call -/
def CB (own : String) (idx : Nat) (j : MI) (n : Nat) : Prop := Cond.methodLink own idx (iy j) ∈ gT ∧ Cond.code (iy j) (ib j) (iL j) (ir j) ∈ gT ∧ Cond.initialized (iy j).cls ∈ gT ∧ ((iy j).cls ≠ "java/lang/invoke/MethodHandle" ∧ (iy j).cls ≠ "java/lang/invoke/VarHandle" ∧ (parseMethodDescriptor (iy j).desc).map (fun d => d.parameters.length) = some n)
def CVw (own : String) (idx : Nat) (j : MI) (n ci : Nat) : Prop := CB own idx j n ∧ Cond.instanceMethod (iy j) ∈ gT ∧ Cond.selects (iy j).cls (iy j) (iy j) ∈ gT ∧ vwCl[ci]?.map (fun q => q.1) = some (iy j).cls
def CSw (own : String) (idx : Nat) (j : MI) (n : Nat) : Prop := CB own idx j n ∧ Cond.static (iy j) ∈ gT
def CIw (own : String) (idx : Nat) (j : MI) (n : Nat) : Prop := CB own idx j n ∧ (iy j).name = "<init>" ∧ Cond.instanceMethod (iy j) ∈ gT ∧ ir j = none
def CNw (own : String) (idx : Nat) (host : String) (j : MI) (n : Nat) : Prop := Cond.methodLinkNest own idx (iy j) host ∈ nestW ∧ Cond.code (iy j) (ib j) (iL j) (ir j) ∈ gT ∧ Cond.initialized (iy j).cls ∈ gT ∧ ((iy j).cls ≠ "java/lang/invoke/MethodHandle" ∧ (iy j).cls ≠ "java/lang/invoke/VarHandle" ∧ (parseMethodDescriptor (iy j).desc).map (fun d => d.parameters.length) = some n) ∧ (iy j).name = "<init>" ∧ Cond.instanceMethod (iy j) ∈ gT ∧ ir j = none
def RMw (i j : MI) : Prop := ifr j + 1 ≤ ifr i ∧ 8 + (iL j + 11) + ilo j ≤ ilo i
theorem wsF_good {j : MI} (h : Cond.code (iy j) (ib j) (iL j) (ir j) ∈ gT) : GoodIn gT (wsF j) := fun w hw => (List.mem_cons.mp hw).elim (fun e => e ▸ gT_good _ h) (gT_good w)
theorem cb_of {p : Program} {R : Room} {s : State} {m : MethodId} {args : Array Value} {meth : Method} {c : Code} {idx mc ms n : Nat} (S : Sit i p R s m args meth c) (hc : CB (iy i).cls idx j n) (hr : RMw i j) : CallB R s args (iy i).cls idx (iy j) (ib j) (iL j) (ir j) (wsF j) (rmOf j mc ms) mc ms n :=
  callB_of n S.2.2.2.2.1 (wsF_good hc.2.1) rfl rfl rfl (S.2.2.2.2.1 _ hc.2.2.1) (S.2.2.2.2.1 _ hc.1) hc.2.2.2 ⟨Nat.le_trans hr.1 S.2.2.2.2.2.2.2.2.1, Nat.le_trans hr.2 S.2.2.2.2.2.2.2.2.2⟩
theorem fix_of {p : Program} {R : Room} {s : State} {m : MethodId} {args : Array Value} {meth : Method} {c : Code} (S : Sit i p R s m args meth c) : CallFix p m c (ib i) (iL i) s args gT (iy i).cls := ⟨S.1, S.2.1, S.2.2.1, S.2.2.2.1, S.2.2.2.2.1⟩
theorem X_callV {idx ci b : Nat} {as st1 : List AV} (hd : decode (ib i) pc = .ok (.invokevirtual idx, 3)) (hc : CVw (iy i).cls idx j as.length ci) (hr : RMw i j) (he : as.reverse ++ vr b :: st = st1) (h8 : ct st ≤ 8)
    (hrun : ∀ q, oc = some q → Run j (vr b :: as) M (Lc q)) (kk : ∀ q, oc = some q → X L i (pc + 3) lv ((Lc q).1.toList ++ st) (Lc q).2 (f q)) : X L i pc lv st1 M (aO M b ci (oc.bind f)) := by
  subst he
  refine X_aO fun hK => fun q hq hW => call_raw (as := vr b :: as) (fun h => ⟨⟨h.1, fun v hv => h.2 v (List.mem_append_right _ (List.mem_cons_of_mem _ hv))⟩, fun v hv => h.2 v (by
    rcases List.mem_cons.mp hv with e | e
    · subst e
      exact List.mem_append_right _ List.mem_cons_self
    · exact List.mem_append_left _ (List.mem_reverse.mpr e))⟩) (fun p l e R s m args below meth c H locs ls cells slots A G ad x S hw hl hM hcs hsl hp => ?_) hrun kk q hq hW
  obtain ⟨cb, w1, w2, w3⟩ := hc
  obtain ⟨a0, a1⟩ := hW.alive (a := b) (by rw [hK]; intro z; have z : ci = 997 := by omega
                                           subst z; cases w3)
  have hws := ws_get (G := G) (ad := ad) a0 a1
  rw [cO_obj hK] at hws
  obtain ⟨q3, f1, f2⟩ := Option.map_eq_some_iff.mp w3
  have hrecv := va_recv hw.1.1 hw.2.1 f1 hws
  rw [f2] at hrecv
  have hst : ((as.reverse ++ vr b :: st).map (rv ad)) = (as.map (rv ad)).reverse ++ .ref (ad b) :: st.map (rv ad) := by
    rw [List.map_append, List.map_reverse, List.map_cons]
    show _ ++ rr ad b :: _ = _
    rw [rr_ne a0]
  have hargs : (vr b :: as).map (rv ad) = .ref (ad b) :: as.map (rv ad) := by
    rw [List.map_cons]
    show rr ad b :: _ = _
    rw [rr_ne a0]
  exact ⟨_, va_runV (As := as.map (rv ad)) (rest := st.map (rv ad)) (fix_of S) hM ⟨cb_of S cb hr, S.2.2.2.2.1 _ w1, S.2.2.2.2.1 _ w2⟩ ⟨PreM.blind, hrecv, fun U hU hWm => by rw [← hargs]; exact hp U hU hWm⟩ rfl (by simp) hl hst (lv_room (by rw [ct_sum]; exact h8)) hd ⟨hcs, hsl⟩⟩
theorem X_callS {idx : Nat} {as st1 : List AV} (hd : decode (ib i) pc = .ok (.invokestatic idx, 3)) (hc : CSw (iy i).cls idx j as.length) (hr : RMw i j) (he : as.reverse ++ st = st1) (h8 : ct st ≤ 8)
    (hrun : ∀ q, oc = some q → Run j as M (Lc q)) (kk : ∀ q, oc = some q → X L i (pc + 3) lv ((Lc q).1.toList ++ st) (Lc q).2 (f q)) : X L i pc lv st1 M (oc.bind f) := by
  subst he
  refine call_raw (as := as) (fun h => ⟨⟨h.1, fun v hv => h.2 v (List.mem_append_right _ hv)⟩, fun v hv => h.2 v (List.mem_append_left _ (List.mem_reverse.mpr hv))⟩) (fun p l e R s m args below meth c H locs ls cells slots A G ad x S hw hl hM hcs hsl hp => ?_) hrun kk
  obtain ⟨cb, w1⟩ := hc
  exact ⟨_, va_runS (As := as.map (rv ad)) (rest := st.map (rv ad)) (fix_of S) hM ⟨cb_of S cb hr, S.2.2.2.2.1 _ w1⟩ ⟨PreM.blind, hp⟩ rfl (by simp) hl (by rw [List.map_append, List.map_reverse]) (lv_room (by rw [ct_sum]; exact h8)) hd ⟨hcs, hsl⟩⟩
theorem X_callI {idx b : Nat} {as st1 : List AV} (hd : decode (ib i) pc = .ok (.invokespecial idx, 3)) (hc : CIw (iy i).cls idx j as.length) (hr : RMw i j) (he : as.reverse ++ vr b :: st = st1) (h8 : ct st ≤ 8)
    (hrun : ∀ q, oc = some q → Run j (vr b :: as) M (Lc q)) (kk : ∀ q, oc = some q → X L i (pc + 3) lv ((Lc q).1.toList ++ st) (Lc q).2 (f q)) : X L i pc lv st1 M (gd (b ≠ 0) (oc.bind f)) := by
  subst he
  refine X_gd fun hb => call_raw (as := vr b :: as) (fun h => ⟨⟨h.1, fun v hv => h.2 v (List.mem_append_right _ (List.mem_cons_of_mem _ hv))⟩, fun v hv => h.2 v (by
    rcases List.mem_cons.mp hv with e | e
    · subst e
      exact List.mem_append_right _ List.mem_cons_self
    · exact List.mem_append_left _ (List.mem_reverse.mpr e))⟩) (fun p l e R s m args below meth c H locs ls cells slots A G ad x S hw hl hM hcs hsl hp => ?_) hrun kk
  obtain ⟨cb, w0, w1, w2⟩ := hc
  have a0 : 0 < b := Nat.pos_of_ne_zero hb
  have hst : ((as.reverse ++ vr b :: st).map (rv ad)) = (as.map (rv ad)).reverse ++ .ref (ad b) :: st.map (rv ad) := by
    rw [List.map_append, List.map_reverse, List.map_cons]
    show _ ++ rr ad b :: _ = _
    rw [rr_ne a0]
  have hargs : (vr b :: as).map (rv ad) = .ref (ad b) :: as.map (rv ad) := by
    rw [List.map_cons]
    show rr ad b :: _ = _
    rw [rr_ne a0]
  have cb2 := cb_of (mc := mz x.2 - mz M) (ms := mn x.2 - mn M) S cb hr
  rw [w2] at cb2
  exact ⟨_, va_runI (As := as.map (rv ad)) (rest := st.map (rv ad)) (fix_of S) hM ⟨cb2, w0, S.2.2.2.2.1 _ w1⟩ ⟨PreM.blind, fun U hU hWm => by rw [← hargs]; exact hp U hU hWm⟩ rfl (by simp) hl hst (lv_room (by rw [ct_sum]; exact h8)) hd ⟨hcs, hsl⟩⟩
end XK
