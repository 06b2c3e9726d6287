/-! rows that the program lays: names for values, calls by their result, loops, joins -/
def AllD (b : ByteArray) : List (Nat × Instr × Nat) → Prop
  | [] => True
  | (p, x, n) :: l => decode b p = .ok (x, n) ∧ AllD b l
theorem allD_of {b : ByteArray} : ∀ {l : List (Nat × Instr × Nat)}, (l.all fun q => decide (decode b q.1 = .ok q.2)) = true → AllD b l
  | [], _ => trivial
  | (p, x, n) :: l, h => by
    rw [List.all_cons, Bool.and_eq_true] at h
    exact ⟨of_decide_eq_true h.1, allD_of h.2⟩
def FU : Nat := 2 ^ 80
abbrev mxI (x y : Int32) : Int32 := if x < y then y else x
abbrev mnI (x y : Int32) : Int32 := if y < x then y else x
abbrev mxL (x y : Int64) : Int64 := if y < x then x else y
abbrev mnL (x y : Int64) : Int64 := if y < x then y else x
def bM {β : Type} (M : MM) (k : MM → Option β) : Option β := k M
def bW {α β : Type} (v : α) (k : α → Option β) : Option β := k v
def cI {β : Type} (oc : Option (Int32 × MM)) (k : Int32 → MM → Option β) : Option β := oc.bind fun q => k q.1 q.2
def cJ {β : Type} (oc : Option (Int64 × MM)) (k : Int64 → MM → Option β) : Option β := oc.bind fun q => k q.1 q.2
def cR {β : Type} (oc : Option (Nat × MM)) (k : Nat → MM → Option β) : Option β := oc.bind fun q => k q.1 q.2
def cV {β : Type} (oc : Option MM) (k : MM → Option β) : Option β := oc.bind k
def Li (q : Int32 × MM) : Option AV × MM := (some (vi q.1), q.2)
def Ll (q : Int64 × MM) : Option AV × MM := (some (vl q.1), q.2)
def Lr (q : Nat × MM) : Option AV × MM := (some (vr q.1), q.2)
def Lv (q : MM) : Option AV × MM := (none, q)
section XG
variable {β : Type} {L : β → Option AV × MM} {i j : MI} {pc : Nat} {lv : List (Nat × AV)} {st : List AV} {M : MM} {o : Option β}
theorem X_none : X L i pc lv st M none := fun q h => by cases h
theorem X_bM {M' : MM} {k : MM → Option β} (kk : ∀ M1, M1 = M' → X L i pc lv st M1 (k M1)) : X L i pc lv st M' (bM M' k) := kk M' rfl
theorem X_bWi {x : Int32} {k : Int32 → Option β} (kk : ∀ y, y = x → X L i pc lv (vi y :: st) M (k y)) : X L i pc lv (vi x :: st) M (bW x k) := kk x rfl
theorem X_bWl {x : Int64} {k : Int64 → Option β} (kk : ∀ y, y = x → X L i pc lv (vl y :: st) M (k y)) : X L i pc lv (vl x :: st) M (bW x k) := kk x rfl
theorem X_bWr {x : Nat} {k : Nat → Option β} (kk : ∀ y, y = x → X L i pc lv (vr y :: st) M (k y)) : X L i pc lv (vr x :: st) M (bW x k) := kk x rfl
theorem X_sub {lv' : List (Nat × AV)} (ks : List Nat) (h : ks.filterMap (fun k => lv[k]?) = lv') (kk : X L i pc lv' st M o) : X L i pc lv st M o := by
  have hm : ∀ q ∈ lv', q ∈ lv := fun q hq => by
    rw [← h] at hq
    obtain ⟨k, -, hk⟩ := List.mem_filterMap.mp hq
    exact List.mem_of_getElem? hk
  refine X_pure (fun hO => ⟨fun q hq => hO.1 q (hm q hq), hO.2⟩) (fun p l e R s m args below meth c H locs ls cells slots Q ad S hl kk => kk ls ⟨hl.1, hl.2.1, fun q hq => ?_⟩) kk
  obtain ⟨q0, h1, h2⟩ := List.mem_map.mp hq
  exact hl.2.2 q (List.mem_map.mpr ⟨q0, hm q0 h1, h2⟩)
theorem X_ite {c : Prop} [Decidable c] {o1 o2 : Option β} (k1 : c → X L i pc lv st M o1) (k2 : ¬ c → X L i pc lv st M o2) : X L i pc lv st M (if c then o1 else o2) := by
  by_cases h : c
  · rw [if_pos h]
    exact k1 h
  · rw [if_neg h]
    exact k2 h
theorem X_tin {x v : Int32} {d lo hi : Int} {offs : Array Int} {len t : Nat} {off : Int} (h : x = v) (hd : decode (ib i) pc = .ok (.tableswitch d lo hi offs, len)) (h1 : ¬ v.toInt < lo) (h2 : ¬ hi < v.toInt) (ho : offs[(v.toInt - lo).toNat]? = some off) (ht : (pc : Int) + off = (t : Int)) (kk : X L i t lv st M o) : X L i pc lv (vi x :: st) M o :=
  h ▸ X_pure OK.pop (fun p l e R s m args below meth c H locs ls cells slots Q ad S h kk => lv_tableIn S.1 S.2.1 hd h1 h2 ho ht (kk ls h)) kk
theorem X_tout {x : Int32} {d lo hi : Int} {offs : Array Int} {len t : Nat} (h : x.toInt < lo ∨ hi < x.toInt) (hd : decode (ib i) pc = .ok (.tableswitch d lo hi offs, len)) (ht : (pc : Int) + d = (t : Int)) (kk : X L i t lv st M o) : X L i pc lv (vi x :: st) M o :=
  X_pure OK.pop (fun p l e R s m args below meth c H locs ls cells slots Q ad S h9 kk => lv_tableOut S.1 S.2.1 hd h ht (kk ls h9)) kk
theorem X_objInit {idx a : Nat} (hd : decode (ib i) pc = .ok (.invokespecial idx, 3)) (hc : Cond.methodLink (iy i).cls idx objectInit ∈ gT ∧ Cond.instanceMethod objectInit ∈ gT ∧ Cond.code objectInit ⟨#[0xb1]⟩ 1 none ∈ gT) (hr : 1 ≤ ifr i ∧ 20 ≤ ilo i) (h8 : ct st ≤ 8) (kk : X L i (pc + 3) lv st M o) : X L i pc lv (vr a :: st) M (gd (a ≠ 0) o) :=
  X_gd fun ha => X_pure OK.pop (fun p l e R s m args below meth c H locs ls cells slots Q ad S hl kk => by
    show W p l e R s m args below meth c H locs cells slots Q (F0 m pc ls (rr ad a :: _))
    rw [rr_ne (Nat.pos_of_ne_zero ha)]
    have h1 := S.2.2.2.2.2.2.2.2.1
    have h2 := S.2.2.2.2.2.2.2.2.2
    have h3 := lv_room (m := m) (pc := pc) (ls := ls) (rest := .ref (ad a) :: st.map (rv ad)) (st := st.map (rv ad)) (by rw [ct_sum]; exact h8)
    exact W.objInit S.1 S.2.1 S.2.2.2.1 (S.2.2.2.2.1 _ hc.1) (S.2.2.2.2.1 _ hc.2.1) (S.2.2.2.2.1 _ hc.2.2) rfl (hl.1.trans S.2.2.1.symm) rfl hd (by omega) (by omega) (kk ls hl)) kk
theorem lg_cmp_eq0 (x y : Int64) : lg_cmp x y = 0 ↔ x = y := by
  unfold lg_cmp
  constructor
  · intro h
    split at h
    · exact absurd h (by decide)
    · split at h
      · assumption
      · exact absurd h (by decide)
  · intro h
    subst h
    rw [if_neg (by rw [gt_iff_lt, Int64.lt_iff_toInt_lt]; omega), if_pos rfl]
theorem X_iff {c d : Prop} [Decidable c] [Decidable d] (h : c ↔ d) {o1 o2 : Option β} (k : X L i pc lv st M (if c then o1 else o2)) : X L i pc lv st M (if d then o1 else o2) := by
  rw [show (if d then o1 else o2) = (if c then o1 else o2) from by by_cases hc : c <;> simp [hc, ← h]]
  exact k
theorem X_lif_lt {x y : Int64} {n : Int} {t : Nat} {o1 o2 : Option β} (hd : decode (ib i) pc = .ok (.lcmp, 1)) (hd2 : decode (ib i) (pc + 1) = .ok (.ifCond .lt n, 3)) (ht : ((pc + 1 : Nat) : Int) + n = (t : Int)) (k1 : x < y → X L i t lv st M o1) (k2 : ¬ x < y → X L i (pc + 1 + 3) lv st M o2) : X L i pc lv (vl y :: vl x :: st) M (if x < y then o1 else o2) :=
  X_lcmp hd (X_iff (lg_cmp_lt x y) (X_if_lt hd2 ht (fun h => k1 ((lg_cmp_lt x y).mp h)) (fun h => k2 (fun z => h ((lg_cmp_lt x y).mpr z)))))
theorem X_lif_ge {x y : Int64} {n : Int} {t : Nat} {o1 o2 : Option β} (hd : decode (ib i) pc = .ok (.lcmp, 1)) (hd2 : decode (ib i) (pc + 1) = .ok (.ifCond .ge n, 3)) (ht : ((pc + 1 : Nat) : Int) + n = (t : Int)) (k1 : y ≤ x → X L i t lv st M o1) (k2 : ¬ y ≤ x → X L i (pc + 1 + 3) lv st M o2) : X L i pc lv (vl y :: vl x :: st) M (if y ≤ x then o1 else o2) :=
  X_lcmp hd (X_iff (lg_cmp_ge x y) (X_if_ge hd2 ht (fun h => k1 ((lg_cmp_ge x y).mp h)) (fun h => k2 (fun z => h ((lg_cmp_ge x y).mpr z)))))
theorem X_lif_gt {x y : Int64} {n : Int} {t : Nat} {o1 o2 : Option β} (hd : decode (ib i) pc = .ok (.lcmp, 1)) (hd2 : decode (ib i) (pc + 1) = .ok (.ifCond .gt n, 3)) (ht : ((pc + 1 : Nat) : Int) + n = (t : Int)) (k1 : y < x → X L i t lv st M o1) (k2 : ¬ y < x → X L i (pc + 1 + 3) lv st M o2) : X L i pc lv (vl y :: vl x :: st) M (if y < x then o1 else o2) :=
  X_lcmp hd (X_iff (lg_cmp_gt x y) (X_if_gt hd2 ht (fun h => k1 ((lg_cmp_gt x y).mp h)) (fun h => k2 (fun z => h ((lg_cmp_gt x y).mpr z)))))
theorem X_lif_le {x y : Int64} {n : Int} {t : Nat} {o1 o2 : Option β} (hd : decode (ib i) pc = .ok (.lcmp, 1)) (hd2 : decode (ib i) (pc + 1) = .ok (.ifCond .le n, 3)) (ht : ((pc + 1 : Nat) : Int) + n = (t : Int)) (k1 : x ≤ y → X L i t lv st M o1) (k2 : ¬ x ≤ y → X L i (pc + 1 + 3) lv st M o2) : X L i pc lv (vl y :: vl x :: st) M (if x ≤ y then o1 else o2) :=
  X_lcmp hd (X_iff (lg_cmp_le x y) (X_if_le hd2 ht (fun h => k1 ((lg_cmp_le x y).mp h)) (fun h => k2 (fun z => h ((lg_cmp_le x y).mpr z)))))
theorem X_lif_eq {x y : Int64} {n : Int} {t : Nat} {o1 o2 : Option β} (hd : decode (ib i) pc = .ok (.lcmp, 1)) (hd2 : decode (ib i) (pc + 1) = .ok (.ifCond .eq n, 3)) (ht : ((pc + 1 : Nat) : Int) + n = (t : Int)) (k1 : x = y → X L i t lv st M o1) (k2 : ¬ x = y → X L i (pc + 1 + 3) lv st M o2) : X L i pc lv (vl y :: vl x :: st) M (if x = y then o1 else o2) :=
  X_lcmp hd (X_iff (lg_cmp_eq0 x y) (X_if_eq hd2 ht (fun h => k1 ((lg_cmp_eq0 x y).mp h)) (fun h => k2 (fun z => h ((lg_cmp_eq0 x y).mpr z)))))
theorem X_lif_ne {x y : Int64} {n : Int} {t : Nat} {o1 o2 : Option β} (hd : decode (ib i) pc = .ok (.lcmp, 1)) (hd2 : decode (ib i) (pc + 1) = .ok (.ifCond .ne n, 3)) (ht : ((pc + 1 : Nat) : Int) + n = (t : Int)) (k1 : x = y → X L i (pc + 1 + 3) lv st M o1) (k2 : ¬ x = y → X L i t lv st M o2) : X L i pc lv (vl y :: vl x :: st) M (if x = y then o1 else o2) :=
  X_lcmp hd (X_iff (lg_cmp_eq0 x y) (X_if_ne hd2 ht (fun h => k1 ((lg_cmp_eq0 x y).mp h)) (fun h => k2 (fun z => h ((lg_cmp_eq0 x y).mpr z)))))
theorem X_cVi {idx ci b : Nat} {as st1 : List AV} {oc : Option (Int32 × MM)} {k : (Int32 → MM → Option β)} (hd : decode (ib i) pc = .ok (.invokevirtual idx, 3)) (hc : CVw (iy i).cls idx j as.length ci) (hr : RMw i j) (he : as.reverse ++ vr b :: st = st1) (h8 : ct st ≤ 8) (hrun : ∀ q, oc = some q → Run j (vr b :: as) M (Li q)) (kk : ∀ r M1, oc = some (r, M1) → X L i (pc + 3) lv (vi r :: st) M1 (k r M1)) : X L i pc lv st1 M (aO M b ci (cI oc k)) :=
  X_callV hd hc hr he h8 hrun (fun q e => kk q.1 q.2 e)
theorem X_cSi {idx : Nat} {as st1 : List AV} {oc : Option (Int32 × MM)} {k : (Int32 → MM → Option β)} (hd : decode (ib i) pc = .ok (.invokestatic idx, 3)) (hc : CSw (iy i).cls idx j as.length) (hr : RMw i j) (he : as.reverse ++ st = st1) (h8 : ct st ≤ 8) (hrun : ∀ q, oc = some q → Run j (as) M (Li q)) (kk : ∀ r M1, oc = some (r, M1) → X L i (pc + 3) lv (vi r :: st) M1 (k r M1)) : X L i pc lv st1 M (cI oc k) :=
  X_callS hd hc hr he h8 hrun (fun q e => kk q.1 q.2 e)
theorem X_cVl {idx ci b : Nat} {as st1 : List AV} {oc : Option (Int64 × MM)} {k : (Int64 → MM → Option β)} (hd : decode (ib i) pc = .ok (.invokevirtual idx, 3)) (hc : CVw (iy i).cls idx j as.length ci) (hr : RMw i j) (he : as.reverse ++ vr b :: st = st1) (h8 : ct st ≤ 8) (hrun : ∀ q, oc = some q → Run j (vr b :: as) M (Ll q)) (kk : ∀ r M1, oc = some (r, M1) → X L i (pc + 3) lv (vl r :: st) M1 (k r M1)) : X L i pc lv st1 M (aO M b ci (cJ oc k)) :=
  X_callV hd hc hr he h8 hrun (fun q e => kk q.1 q.2 e)
theorem X_cSl {idx : Nat} {as st1 : List AV} {oc : Option (Int64 × MM)} {k : (Int64 → MM → Option β)} (hd : decode (ib i) pc = .ok (.invokestatic idx, 3)) (hc : CSw (iy i).cls idx j as.length) (hr : RMw i j) (he : as.reverse ++ st = st1) (h8 : ct st ≤ 8) (hrun : ∀ q, oc = some q → Run j (as) M (Ll q)) (kk : ∀ r M1, oc = some (r, M1) → X L i (pc + 3) lv (vl r :: st) M1 (k r M1)) : X L i pc lv st1 M (cJ oc k) :=
  X_callS hd hc hr he h8 hrun (fun q e => kk q.1 q.2 e)
theorem X_cVr {idx ci b : Nat} {as st1 : List AV} {oc : Option (Nat × MM)} {k : (Nat → MM → Option β)} (hd : decode (ib i) pc = .ok (.invokevirtual idx, 3)) (hc : CVw (iy i).cls idx j as.length ci) (hr : RMw i j) (he : as.reverse ++ vr b :: st = st1) (h8 : ct st ≤ 8) (hrun : ∀ q, oc = some q → Run j (vr b :: as) M (Lr q)) (kk : ∀ r M1, oc = some (r, M1) → X L i (pc + 3) lv (vr r :: st) M1 (k r M1)) : X L i pc lv st1 M (aO M b ci (cR oc k)) :=
  X_callV hd hc hr he h8 hrun (fun q e => kk q.1 q.2 e)
theorem X_cSr {idx : Nat} {as st1 : List AV} {oc : Option (Nat × MM)} {k : (Nat → MM → Option β)} (hd : decode (ib i) pc = .ok (.invokestatic idx, 3)) (hc : CSw (iy i).cls idx j as.length) (hr : RMw i j) (he : as.reverse ++ st = st1) (h8 : ct st ≤ 8) (hrun : ∀ q, oc = some q → Run j (as) M (Lr q)) (kk : ∀ r M1, oc = some (r, M1) → X L i (pc + 3) lv (vr r :: st) M1 (k r M1)) : X L i pc lv st1 M (cR oc k) :=
  X_callS hd hc hr he h8 hrun (fun q e => kk q.1 q.2 e)
theorem X_cVv {idx ci b : Nat} {as st1 : List AV} {oc : Option MM} {k : (MM → Option β)} (hd : decode (ib i) pc = .ok (.invokevirtual idx, 3)) (hc : CVw (iy i).cls idx j as.length ci) (hr : RMw i j) (he : as.reverse ++ vr b :: st = st1) (h8 : ct st ≤ 8) (hrun : ∀ q, oc = some q → Run j (vr b :: as) M (Lv q)) (kk : ∀ M1, oc = some M1 → X L i (pc + 3) lv (st) M1 (k M1)) : X L i pc lv st1 M (aO M b ci (cV oc k)) :=
  X_callV hd hc hr he h8 hrun (fun M1 e => kk M1 e)
theorem X_cSv {idx : Nat} {as st1 : List AV} {oc : Option MM} {k : (MM → Option β)} (hd : decode (ib i) pc = .ok (.invokestatic idx, 3)) (hc : CSw (iy i).cls idx j as.length) (hr : RMw i j) (he : as.reverse ++ st = st1) (h8 : ct st ≤ 8) (hrun : ∀ q, oc = some q → Run j (as) M (Lv q)) (kk : ∀ M1, oc = some M1 → X L i (pc + 3) lv (st) M1 (k M1)) : X L i pc lv st1 M (cV oc k) :=
  X_callS hd hc hr he h8 hrun (fun M1 e => kk M1 e)
theorem X_cIv {idx b : Nat} {as st1 : List AV} {oc : Option MM} {k : (MM → Option β)} (hd : decode (ib i) pc = .ok (.invokespecial idx, 3)) (hc : CIw (iy i).cls idx j as.length) (hr : RMw i j) (he : as.reverse ++ vr b :: st = st1) (h8 : ct st ≤ 8) (hrun : ∀ q, oc = some q → Run j (vr b :: as) M (Lv q)) (kk : ∀ M1, oc = some M1 → X L i (pc + 3) lv (st) M1 (k M1)) : X L i pc lv st1 M (gd (b ≠ 0) (cV oc k)) :=
  X_callI hd hc hr he h8 hrun (fun M1 e => kk M1 e)
theorem X_inc {k : Nat} {lv' : List (Nat × AV)} (j : Nat) {n : Int} {x c : Int32} (hd : decode (ib i) pc = .ok (.iinc k n, 3)) (hc : Int32.ofInt n = c) (hx : lv[j]? = some (k, vi x)) (hn : k < iL i) (hl : st1 k (vi (x + c)) lv = lv') (kk : X L i (pc + 3) lv' st M o) : X L i pc lv st M o := X_iinc j hd hx (by rw [hc]) hn hl kk
theorem X_putZc {idx a : Nat} {ci k : Nat} {x : Int32} (hd : decode (ib i) pc = .ok (.putfield idx, 3)) (hf : FP (iy i).cls idx ci k 0 false .boolean) (hx : x = 0 ∨ x = 1) (kk : X L i (pc + 3) lv st (sI M a k x) o) : X L i pc lv (vi x :: vr a :: st) M (aO M a ci o) := by
  have h := X_putZ (o := o) hd hf kk
  rw [show gd (x = 0 ∨ x = 1) o = o from if_pos hx] at h
  exact h
theorem X_zreturnc {x : Int32} {b : β} (hd : decode (ib i) pc = .ok (.ireturn, 1)) (hri : ir i = some .boolean) (hx : x = 0 ∨ x = 1) (hL : L b = (some (vi x), M)) : X L i pc lv [vi x] M (some b) := by
  have h := X_zreturn (lv := lv) hd hri hL
  rw [show gd (x = 0 ∨ x = 1) (some b) = some b from if_pos hx] at h
  exact h
theorem X_cNv {idx b : Nat} {host : String} {as st1 : List AV} {oc : Option MM} {k : MM → Option β} (hd : decode (ib i) pc = .ok (.invokespecial idx, 3)) (hc : CNw (iy i).cls idx host j as.length) (hr : RMw i j) (he : as.reverse ++ vr b :: st = st1) (h8 : ct st ≤ 8) (hrun : ∀ q, oc = some q → Run j (vr b :: as) M (Lv q)) (kk : ∀ M1, oc = some M1 → X L i (pc + 3) lv st M1 (k M1)) : X L i pc lv st1 M (gd (b ≠ 0) (cV oc k)) := by
  subst he
  refine X_gd fun hb => call_raw (Lc := Lv) (as := vr b :: as) (fun h => ⟨⟨h.1, fun v hv => h.2 v (List.mem_append_right _ (List.mem_cons_of_mem _ hv))⟩, fun v hv => h.2 v (by
    rcases List.mem_cons.mp hv with e | e
    · subst e
      exact List.mem_append_right _ List.mem_cons_self
    · exact List.mem_append_left _ (List.mem_reverse.mpr e))⟩) (fun p l e R s m args below meth c H locs ls cells slots A G ad x S hw hl hM hcs hsl hp => ?_) hrun (fun q e => kk q e)
  obtain ⟨w0, w1, w2, w3, w4, w5, w6⟩ := hc
  have a0 : 0 < b := Nat.pos_of_ne_zero hb
  have hst : ((as.reverse ++ vr b :: st).map (rv ad)) = (as.map (rv ad)).reverse ++ .ref (ad b) :: st.map (rv ad) := by
    rw [List.map_append, List.map_reverse, List.map_cons]
    show _ ++ rr ad b :: _ = _
    rw [rr_ne a0]
  have hargs : (vr b :: as).map (rv ad) = .ref (ad b) :: as.map (rv ad) := by
    rw [List.map_cons]
    show rr ad b :: _ = _
    rw [rr_ne a0]
  have cb2 : va_CN R s args (iy i).cls idx (iy j) host (ib j) (iL j) (ir j) (wsF j) (rmOf j (mz x.2 - mz M) (mn x.2 - mn M)) (mz x.2 - mz M) (mn x.2 - mn M) as.length :=
    va_cnB as.length S.2.2.2.2.1 (wsF_good w1) rfl rfl rfl (hw.1.2 _ w0) (S.2.2.2.2.1 _ w2) w3 ⟨Nat.le_trans hr.1 S.2.2.2.2.2.2.2.2.1, Nat.le_trans hr.2 S.2.2.2.2.2.2.2.2.2⟩
  rw [w6] at cb2
  exact ⟨_, va_runIN (As := as.map (rv ad)) (rest := st.map (rv ad)) (fix_of S) hM ⟨cb2, w4, S.2.2.2.2.1 _ w5⟩ ⟨PreM.blind, fun U hU hWm => by rw [← hargs]; exact hp U hU hWm⟩ rfl (by simp) hl hst (lv_room (by rw [ct_sum]; exact h8)) hd ⟨hcs, hsl⟩⟩
theorem X_maxI {idx : Nat} {x y : Int32} (hd : decode (ib i) pc = .ok (.invokestatic idx, 3)) (hc : Cond.methodLink (iy i).cls idx Lib.Math.max.name ∈ gT ∧ Cond.static Lib.Math.max.name ∈ gT ∧ Cond.initialized "java/lang/Math" ∈ gT ∧ Cond.code Lib.Math.max.name Lib.Math.max.code 2 (some .int) ∈ gT) (hr : 1 ≤ ifr i ∧ 24 ≤ ilo i) (h8 : ct st ≤ 8) (kk : X L i (pc + 3) lv (vi (mxI x y) :: st) M o) : X L i pc lv (vi y :: vi x :: st) M o := by
  intro q hq hW hO
  obtain ⟨h1, h2⟩ := kk q hq hW (hO.pop.pop.push (v := vi (mxI x y)) trivial)
  refine ⟨h1, ?_⟩
  intro p l e R s m args below meth c H locs ls cells slots A G ad n S hw hl hn hcs hs2
  have g1 := S.2.2.2.2.2.2.2.2.1
  have g2 := S.2.2.2.2.2.2.2.2.2
  exact va_mmax S.1 S.2.1 (S.2.2.1.trans hl.1.symm) S.2.2.2.1 (S.2.2.2.2.1 _ hc.1) (S.2.2.2.2.1 _ hc.2.1) (S.2.2.2.2.1 _ hc.2.2.1) (S.2.2.2.2.1 _ hc.2.2.2) (by omega) (by rw [ct_sum]; omega) (by omega) (by omega) hd (h2 p l e R s m args below meth c H locs ls cells slots A G ad n S hw hl hn hcs hs2)
theorem X_minI {idx : Nat} {x y : Int32} (hd : decode (ib i) pc = .ok (.invokestatic idx, 3)) (hc : Cond.methodLink (iy i).cls idx Lib.Math.min.name ∈ gT ∧ Cond.static Lib.Math.min.name ∈ gT ∧ Cond.initialized "java/lang/Math" ∈ gT ∧ Cond.code Lib.Math.min.name Lib.Math.min.code 2 (some .int) ∈ gT) (hr : 1 ≤ ifr i ∧ 24 ≤ ilo i) (h8 : ct st ≤ 8) (kk : X L i (pc + 3) lv (vi (mnI x y) :: st) M o) : X L i pc lv (vi y :: vi x :: st) M o := by
  intro q hq hW hO
  obtain ⟨h1, h2⟩ := kk q hq hW (hO.pop.pop.push (v := vi (mnI x y)) trivial)
  refine ⟨h1, ?_⟩
  intro p l e R s m args below meth c H locs ls cells slots A G ad n S hw hl hn hcs hs2
  have g1 := S.2.2.2.2.2.2.2.2.1
  have g2 := S.2.2.2.2.2.2.2.2.2
  exact va_mmin S.1 S.2.1 (S.2.2.1.trans hl.1.symm) S.2.2.2.1 (S.2.2.2.2.1 _ hc.1) (S.2.2.2.2.1 _ hc.2.1) (S.2.2.2.2.1 _ hc.2.2.1) (S.2.2.2.2.1 _ hc.2.2.2) (by omega) (by rw [ct_sum]; omega) (by omega) (by omega) hd (h2 p l e R s m args below meth c H locs ls cells slots A G ad n S hw hl hn hcs hs2)
theorem X_maxL {idx : Nat} {x y : Int64} (hd : decode (ib i) pc = .ok (.invokestatic idx, 3)) (hc : Cond.methodLink (iy i).cls idx Lib.MathLoose.max_long.x ∈ gT ∧ Cond.static Lib.MathLoose.max_long.x ∈ gT ∧ Cond.initialized "java/lang/Math" ∈ gT ∧ Cond.code Lib.MathLoose.max_long.x Lib.MathLoose.max_long.code 4 (some .long) ∈ gT) (hr : 1 ≤ ifr i ∧ 24 ≤ ilo i) (h8 : ct st ≤ 8) (kk : X L i (pc + 3) lv (vl (mxL x y) :: st) M o) : X L i pc lv (vl y :: vl x :: st) M o := by
  intro q hq hW hO
  obtain ⟨h1, h2⟩ := kk q hq hW (hO.pop.pop.push (v := vl (mxL x y)) trivial)
  refine ⟨h1, ?_⟩
  intro p l e R s m args below meth c H locs ls cells slots A G ad n S hw hl hn hcs hs2
  have g1 := S.2.2.2.2.2.2.2.2.1
  have g2 := S.2.2.2.2.2.2.2.2.2
  exact va_mmax_long S.1 S.2.1 (S.2.2.1.trans hl.1.symm) S.2.2.2.1 (S.2.2.2.2.1 _ hc.1) (S.2.2.2.2.1 _ hc.2.1) (S.2.2.2.2.1 _ hc.2.2.1) (S.2.2.2.2.1 _ hc.2.2.2) (by omega) (by rw [ct_sum]; omega) (by omega) (by omega) hd (h2 p l e R s m args below meth c H locs ls cells slots A G ad n S hw hl hn hcs hs2)
theorem X_minL {idx : Nat} {x y : Int64} (hd : decode (ib i) pc = .ok (.invokestatic idx, 3)) (hc : Cond.methodLink (iy i).cls idx Lib.MathLoose.min_long.x ∈ gT ∧ Cond.static Lib.MathLoose.min_long.x ∈ gT ∧ Cond.initialized "java/lang/Math" ∈ gT ∧ Cond.code Lib.MathLoose.min_long.x Lib.MathLoose.min_long.code 4 (some .long) ∈ gT) (hr : 1 ≤ ifr i ∧ 24 ≤ ilo i) (h8 : ct st ≤ 8) (kk : X L i (pc + 3) lv (vl (mnL x y) :: st) M o) : X L i pc lv (vl y :: vl x :: st) M o := by
  intro q hq hW hO
  obtain ⟨h1, h2⟩ := kk q hq hW (hO.pop.pop.push (v := vl (mnL x y)) trivial)
  refine ⟨h1, ?_⟩
  intro p l e R s m args below meth c H locs ls cells slots A G ad n S hw hl hn hcs hs2
  have g1 := S.2.2.2.2.2.2.2.2.1
  have g2 := S.2.2.2.2.2.2.2.2.2
  exact va_mmin_long S.1 S.2.1 (S.2.2.1.trans hl.1.symm) S.2.2.2.1 (S.2.2.2.2.1 _ hc.1) (S.2.2.2.2.1 _ hc.2.1) (S.2.2.2.2.1 _ hc.2.2.1) (S.2.2.2.2.1 _ hc.2.2.2) (by omega) (by rw [ct_sum]; omega) (by omega) (by omega) hd (h2 p l e R s m args below meth c H locs ls cells slots A G ad n S hw hl hn hcs hs2)
end XG
def LP1 {A0 R : Type} (body : (A0 → Option R) → A0 → Option R) : Nat → A0 → Option R
  | 0 => fun _ => none
  | n + 1 => body (LP1 body n)
theorem LP1_i {A0 R : Type} {P : A0 → Option R → Prop} {body : (A0 → Option R) → A0 → Option R} (h0 : ∀ (a0 : A0), P a0 none) (h : ∀ rc, (∀ (a0 : A0), P a0 (rc a0)) → ∀ (a0 : A0), P a0 (body rc a0)) : ∀ n (a0 : A0), P a0 (LP1 body n a0)
  | 0, a0 => h0 a0
  | n + 1, a0 => h _ (fun a0 => LP1_i h0 h n a0) a0
def LP2 {A0 A1 R : Type} (body : (A0 → A1 → Option R) → A0 → A1 → Option R) : Nat → A0 → A1 → Option R
  | 0 => fun _ _ => none
  | n + 1 => body (LP2 body n)
theorem LP2_i {A0 A1 R : Type} {P : A0 → A1 → Option R → Prop} {body : (A0 → A1 → Option R) → A0 → A1 → Option R} (h0 : ∀ (a0 : A0) (a1 : A1), P a0 a1 none) (h : ∀ rc, (∀ (a0 : A0) (a1 : A1), P a0 a1 (rc a0 a1)) → ∀ (a0 : A0) (a1 : A1), P a0 a1 (body rc a0 a1)) : ∀ n (a0 : A0) (a1 : A1), P a0 a1 (LP2 body n a0 a1)
  | 0, a0, a1 => h0 a0 a1
  | n + 1, a0, a1 => h _ (fun a0 a1 => LP2_i h0 h n a0 a1) a0 a1
def LP3 {A0 A1 A2 R : Type} (body : (A0 → A1 → A2 → Option R) → A0 → A1 → A2 → Option R) : Nat → A0 → A1 → A2 → Option R
  | 0 => fun _ _ _ => none
  | n + 1 => body (LP3 body n)
theorem LP3_i {A0 A1 A2 R : Type} {P : A0 → A1 → A2 → Option R → Prop} {body : (A0 → A1 → A2 → Option R) → A0 → A1 → A2 → Option R} (h0 : ∀ (a0 : A0) (a1 : A1) (a2 : A2), P a0 a1 a2 none) (h : ∀ rc, (∀ (a0 : A0) (a1 : A1) (a2 : A2), P a0 a1 a2 (rc a0 a1 a2)) → ∀ (a0 : A0) (a1 : A1) (a2 : A2), P a0 a1 a2 (body rc a0 a1 a2)) : ∀ n (a0 : A0) (a1 : A1) (a2 : A2), P a0 a1 a2 (LP3 body n a0 a1 a2)
  | 0, a0, a1, a2 => h0 a0 a1 a2
  | n + 1, a0, a1, a2 => h _ (fun a0 a1 a2 => LP3_i h0 h n a0 a1 a2) a0 a1 a2
def LP4 {A0 A1 A2 A3 R : Type} (body : (A0 → A1 → A2 → A3 → Option R) → A0 → A1 → A2 → A3 → Option R) : Nat → A0 → A1 → A2 → A3 → Option R
  | 0 => fun _ _ _ _ => none
  | n + 1 => body (LP4 body n)
theorem LP4_i {A0 A1 A2 A3 R : Type} {P : A0 → A1 → A2 → A3 → Option R → Prop} {body : (A0 → A1 → A2 → A3 → Option R) → A0 → A1 → A2 → A3 → Option R} (h0 : ∀ (a0 : A0) (a1 : A1) (a2 : A2) (a3 : A3), P a0 a1 a2 a3 none) (h : ∀ rc, (∀ (a0 : A0) (a1 : A1) (a2 : A2) (a3 : A3), P a0 a1 a2 a3 (rc a0 a1 a2 a3)) → ∀ (a0 : A0) (a1 : A1) (a2 : A2) (a3 : A3), P a0 a1 a2 a3 (body rc a0 a1 a2 a3)) : ∀ n (a0 : A0) (a1 : A1) (a2 : A2) (a3 : A3), P a0 a1 a2 a3 (LP4 body n a0 a1 a2 a3)
  | 0, a0, a1, a2, a3 => h0 a0 a1 a2 a3
  | n + 1, a0, a1, a2, a3 => h _ (fun a0 a1 a2 a3 => LP4_i h0 h n a0 a1 a2 a3) a0 a1 a2 a3
def LP5 {A0 A1 A2 A3 A4 R : Type} (body : (A0 → A1 → A2 → A3 → A4 → Option R) → A0 → A1 → A2 → A3 → A4 → Option R) : Nat → A0 → A1 → A2 → A3 → A4 → Option R
  | 0 => fun _ _ _ _ _ => none
  | n + 1 => body (LP5 body n)
theorem LP5_i {A0 A1 A2 A3 A4 R : Type} {P : A0 → A1 → A2 → A3 → A4 → Option R → Prop} {body : (A0 → A1 → A2 → A3 → A4 → Option R) → A0 → A1 → A2 → A3 → A4 → Option R} (h0 : ∀ (a0 : A0) (a1 : A1) (a2 : A2) (a3 : A3) (a4 : A4), P a0 a1 a2 a3 a4 none) (h : ∀ rc, (∀ (a0 : A0) (a1 : A1) (a2 : A2) (a3 : A3) (a4 : A4), P a0 a1 a2 a3 a4 (rc a0 a1 a2 a3 a4)) → ∀ (a0 : A0) (a1 : A1) (a2 : A2) (a3 : A3) (a4 : A4), P a0 a1 a2 a3 a4 (body rc a0 a1 a2 a3 a4)) : ∀ n (a0 : A0) (a1 : A1) (a2 : A2) (a3 : A3) (a4 : A4), P a0 a1 a2 a3 a4 (LP5 body n a0 a1 a2 a3 a4)
  | 0, a0, a1, a2, a3, a4 => h0 a0 a1 a2 a3 a4
  | n + 1, a0, a1, a2, a3, a4 => h _ (fun a0 a1 a2 a3 a4 => LP5_i h0 h n a0 a1 a2 a3 a4) a0 a1 a2 a3 a4
def LP6 {A0 A1 A2 A3 A4 A5 R : Type} (body : (A0 → A1 → A2 → A3 → A4 → A5 → Option R) → A0 → A1 → A2 → A3 → A4 → A5 → Option R) : Nat → A0 → A1 → A2 → A3 → A4 → A5 → Option R
  | 0 => fun _ _ _ _ _ _ => none
  | n + 1 => body (LP6 body n)
theorem LP6_i {A0 A1 A2 A3 A4 A5 R : Type} {P : A0 → A1 → A2 → A3 → A4 → A5 → Option R → Prop} {body : (A0 → A1 → A2 → A3 → A4 → A5 → Option R) → A0 → A1 → A2 → A3 → A4 → A5 → Option R} (h0 : ∀ (a0 : A0) (a1 : A1) (a2 : A2) (a3 : A3) (a4 : A4) (a5 : A5), P a0 a1 a2 a3 a4 a5 none) (h : ∀ rc, (∀ (a0 : A0) (a1 : A1) (a2 : A2) (a3 : A3) (a4 : A4) (a5 : A5), P a0 a1 a2 a3 a4 a5 (rc a0 a1 a2 a3 a4 a5)) → ∀ (a0 : A0) (a1 : A1) (a2 : A2) (a3 : A3) (a4 : A4) (a5 : A5), P a0 a1 a2 a3 a4 a5 (body rc a0 a1 a2 a3 a4 a5)) : ∀ n (a0 : A0) (a1 : A1) (a2 : A2) (a3 : A3) (a4 : A4) (a5 : A5), P a0 a1 a2 a3 a4 a5 (LP6 body n a0 a1 a2 a3 a4 a5)
  | 0, a0, a1, a2, a3, a4, a5 => h0 a0 a1 a2 a3 a4 a5
  | n + 1, a0, a1, a2, a3, a4, a5 => h _ (fun a0 a1 a2 a3 a4 a5 => LP6_i h0 h n a0 a1 a2 a3 a4 a5) a0 a1 a2 a3 a4 a5
def LP7 {A0 A1 A2 A3 A4 A5 A6 R : Type} (body : (A0 → A1 → A2 → A3 → A4 → A5 → A6 → Option R) → A0 → A1 → A2 → A3 → A4 → A5 → A6 → Option R) : Nat → A0 → A1 → A2 → A3 → A4 → A5 → A6 → Option R
  | 0 => fun _ _ _ _ _ _ _ => none
  | n + 1 => body (LP7 body n)
theorem LP7_i {A0 A1 A2 A3 A4 A5 A6 R : Type} {P : A0 → A1 → A2 → A3 → A4 → A5 → A6 → Option R → Prop} {body : (A0 → A1 → A2 → A3 → A4 → A5 → A6 → Option R) → A0 → A1 → A2 → A3 → A4 → A5 → A6 → Option R} (h0 : ∀ (a0 : A0) (a1 : A1) (a2 : A2) (a3 : A3) (a4 : A4) (a5 : A5) (a6 : A6), P a0 a1 a2 a3 a4 a5 a6 none) (h : ∀ rc, (∀ (a0 : A0) (a1 : A1) (a2 : A2) (a3 : A3) (a4 : A4) (a5 : A5) (a6 : A6), P a0 a1 a2 a3 a4 a5 a6 (rc a0 a1 a2 a3 a4 a5 a6)) → ∀ (a0 : A0) (a1 : A1) (a2 : A2) (a3 : A3) (a4 : A4) (a5 : A5) (a6 : A6), P a0 a1 a2 a3 a4 a5 a6 (body rc a0 a1 a2 a3 a4 a5 a6)) : ∀ n (a0 : A0) (a1 : A1) (a2 : A2) (a3 : A3) (a4 : A4) (a5 : A5) (a6 : A6), P a0 a1 a2 a3 a4 a5 a6 (LP7 body n a0 a1 a2 a3 a4 a5 a6)
  | 0, a0, a1, a2, a3, a4, a5, a6 => h0 a0 a1 a2 a3 a4 a5 a6
  | n + 1, a0, a1, a2, a3, a4, a5, a6 => h _ (fun a0 a1 a2 a3 a4 a5 a6 => LP7_i h0 h n a0 a1 a2 a3 a4 a5 a6) a0 a1 a2 a3 a4 a5 a6
def LP8 {A0 A1 A2 A3 A4 A5 A6 A7 R : Type} (body : (A0 → A1 → A2 → A3 → A4 → A5 → A6 → A7 → Option R) → A0 → A1 → A2 → A3 → A4 → A5 → A6 → A7 → Option R) : Nat → A0 → A1 → A2 → A3 → A4 → A5 → A6 → A7 → Option R
  | 0 => fun _ _ _ _ _ _ _ _ => none
  | n + 1 => body (LP8 body n)
theorem LP8_i {A0 A1 A2 A3 A4 A5 A6 A7 R : Type} {P : A0 → A1 → A2 → A3 → A4 → A5 → A6 → A7 → Option R → Prop} {body : (A0 → A1 → A2 → A3 → A4 → A5 → A6 → A7 → Option R) → A0 → A1 → A2 → A3 → A4 → A5 → A6 → A7 → Option R} (h0 : ∀ (a0 : A0) (a1 : A1) (a2 : A2) (a3 : A3) (a4 : A4) (a5 : A5) (a6 : A6) (a7 : A7), P a0 a1 a2 a3 a4 a5 a6 a7 none) (h : ∀ rc, (∀ (a0 : A0) (a1 : A1) (a2 : A2) (a3 : A3) (a4 : A4) (a5 : A5) (a6 : A6) (a7 : A7), P a0 a1 a2 a3 a4 a5 a6 a7 (rc a0 a1 a2 a3 a4 a5 a6 a7)) → ∀ (a0 : A0) (a1 : A1) (a2 : A2) (a3 : A3) (a4 : A4) (a5 : A5) (a6 : A6) (a7 : A7), P a0 a1 a2 a3 a4 a5 a6 a7 (body rc a0 a1 a2 a3 a4 a5 a6 a7)) : ∀ n (a0 : A0) (a1 : A1) (a2 : A2) (a3 : A3) (a4 : A4) (a5 : A5) (a6 : A6) (a7 : A7), P a0 a1 a2 a3 a4 a5 a6 a7 (LP8 body n a0 a1 a2 a3 a4 a5 a6 a7)
  | 0, a0, a1, a2, a3, a4, a5, a6, a7 => h0 a0 a1 a2 a3 a4 a5 a6 a7
  | n + 1, a0, a1, a2, a3, a4, a5, a6, a7 => h _ (fun a0 a1 a2 a3 a4 a5 a6 a7 => LP8_i h0 h n a0 a1 a2 a3 a4 a5 a6 a7) a0 a1 a2 a3 a4 a5 a6 a7
def LP9 {A0 A1 A2 A3 A4 A5 A6 A7 A8 R : Type} (body : (A0 → A1 → A2 → A3 → A4 → A5 → A6 → A7 → A8 → Option R) → A0 → A1 → A2 → A3 → A4 → A5 → A6 → A7 → A8 → Option R) : Nat → A0 → A1 → A2 → A3 → A4 → A5 → A6 → A7 → A8 → Option R
  | 0 => fun _ _ _ _ _ _ _ _ _ => none
  | n + 1 => body (LP9 body n)
theorem LP9_i {A0 A1 A2 A3 A4 A5 A6 A7 A8 R : Type} {P : A0 → A1 → A2 → A3 → A4 → A5 → A6 → A7 → A8 → Option R → Prop} {body : (A0 → A1 → A2 → A3 → A4 → A5 → A6 → A7 → A8 → Option R) → A0 → A1 → A2 → A3 → A4 → A5 → A6 → A7 → A8 → Option R} (h0 : ∀ (a0 : A0) (a1 : A1) (a2 : A2) (a3 : A3) (a4 : A4) (a5 : A5) (a6 : A6) (a7 : A7) (a8 : A8), P a0 a1 a2 a3 a4 a5 a6 a7 a8 none) (h : ∀ rc, (∀ (a0 : A0) (a1 : A1) (a2 : A2) (a3 : A3) (a4 : A4) (a5 : A5) (a6 : A6) (a7 : A7) (a8 : A8), P a0 a1 a2 a3 a4 a5 a6 a7 a8 (rc a0 a1 a2 a3 a4 a5 a6 a7 a8)) → ∀ (a0 : A0) (a1 : A1) (a2 : A2) (a3 : A3) (a4 : A4) (a5 : A5) (a6 : A6) (a7 : A7) (a8 : A8), P a0 a1 a2 a3 a4 a5 a6 a7 a8 (body rc a0 a1 a2 a3 a4 a5 a6 a7 a8)) : ∀ n (a0 : A0) (a1 : A1) (a2 : A2) (a3 : A3) (a4 : A4) (a5 : A5) (a6 : A6) (a7 : A7) (a8 : A8), P a0 a1 a2 a3 a4 a5 a6 a7 a8 (LP9 body n a0 a1 a2 a3 a4 a5 a6 a7 a8)
  | 0, a0, a1, a2, a3, a4, a5, a6, a7, a8 => h0 a0 a1 a2 a3 a4 a5 a6 a7 a8
  | n + 1, a0, a1, a2, a3, a4, a5, a6, a7, a8 => h _ (fun a0 a1 a2 a3 a4 a5 a6 a7 a8 => LP9_i h0 h n a0 a1 a2 a3 a4 a5 a6 a7 a8) a0 a1 a2 a3 a4 a5 a6 a7 a8
def LP10 {A0 A1 A2 A3 A4 A5 A6 A7 A8 A9 R : Type} (body : (A0 → A1 → A2 → A3 → A4 → A5 → A6 → A7 → A8 → A9 → Option R) → A0 → A1 → A2 → A3 → A4 → A5 → A6 → A7 → A8 → A9 → Option R) : Nat → A0 → A1 → A2 → A3 → A4 → A5 → A6 → A7 → A8 → A9 → Option R
  | 0 => fun _ _ _ _ _ _ _ _ _ _ => none
  | n + 1 => body (LP10 body n)
theorem LP10_i {A0 A1 A2 A3 A4 A5 A6 A7 A8 A9 R : Type} {P : A0 → A1 → A2 → A3 → A4 → A5 → A6 → A7 → A8 → A9 → Option R → Prop} {body : (A0 → A1 → A2 → A3 → A4 → A5 → A6 → A7 → A8 → A9 → Option R) → A0 → A1 → A2 → A3 → A4 → A5 → A6 → A7 → A8 → A9 → Option R} (h0 : ∀ (a0 : A0) (a1 : A1) (a2 : A2) (a3 : A3) (a4 : A4) (a5 : A5) (a6 : A6) (a7 : A7) (a8 : A8) (a9 : A9), P a0 a1 a2 a3 a4 a5 a6 a7 a8 a9 none) (h : ∀ rc, (∀ (a0 : A0) (a1 : A1) (a2 : A2) (a3 : A3) (a4 : A4) (a5 : A5) (a6 : A6) (a7 : A7) (a8 : A8) (a9 : A9), P a0 a1 a2 a3 a4 a5 a6 a7 a8 a9 (rc a0 a1 a2 a3 a4 a5 a6 a7 a8 a9)) → ∀ (a0 : A0) (a1 : A1) (a2 : A2) (a3 : A3) (a4 : A4) (a5 : A5) (a6 : A6) (a7 : A7) (a8 : A8) (a9 : A9), P a0 a1 a2 a3 a4 a5 a6 a7 a8 a9 (body rc a0 a1 a2 a3 a4 a5 a6 a7 a8 a9)) : ∀ n (a0 : A0) (a1 : A1) (a2 : A2) (a3 : A3) (a4 : A4) (a5 : A5) (a6 : A6) (a7 : A7) (a8 : A8) (a9 : A9), P a0 a1 a2 a3 a4 a5 a6 a7 a8 a9 (LP10 body n a0 a1 a2 a3 a4 a5 a6 a7 a8 a9)
  | 0, a0, a1, a2, a3, a4, a5, a6, a7, a8, a9 => h0 a0 a1 a2 a3 a4 a5 a6 a7 a8 a9
  | n + 1, a0, a1, a2, a3, a4, a5, a6, a7, a8, a9 => h _ (fun a0 a1 a2 a3 a4 a5 a6 a7 a8 a9 => LP10_i h0 h n a0 a1 a2 a3 a4 a5 a6 a7 a8 a9) a0 a1 a2 a3 a4 a5 a6 a7 a8 a9
def LP11 {A0 A1 A2 A3 A4 A5 A6 A7 A8 A9 A10 R : Type} (body : (A0 → A1 → A2 → A3 → A4 → A5 → A6 → A7 → A8 → A9 → A10 → Option R) → A0 → A1 → A2 → A3 → A4 → A5 → A6 → A7 → A8 → A9 → A10 → Option R) : Nat → A0 → A1 → A2 → A3 → A4 → A5 → A6 → A7 → A8 → A9 → A10 → Option R
  | 0 => fun _ _ _ _ _ _ _ _ _ _ _ => none
  | n + 1 => body (LP11 body n)
theorem LP11_i {A0 A1 A2 A3 A4 A5 A6 A7 A8 A9 A10 R : Type} {P : A0 → A1 → A2 → A3 → A4 → A5 → A6 → A7 → A8 → A9 → A10 → Option R → Prop} {body : (A0 → A1 → A2 → A3 → A4 → A5 → A6 → A7 → A8 → A9 → A10 → Option R) → A0 → A1 → A2 → A3 → A4 → A5 → A6 → A7 → A8 → A9 → A10 → Option R} (h0 : ∀ (a0 : A0) (a1 : A1) (a2 : A2) (a3 : A3) (a4 : A4) (a5 : A5) (a6 : A6) (a7 : A7) (a8 : A8) (a9 : A9) (a10 : A10), P a0 a1 a2 a3 a4 a5 a6 a7 a8 a9 a10 none) (h : ∀ rc, (∀ (a0 : A0) (a1 : A1) (a2 : A2) (a3 : A3) (a4 : A4) (a5 : A5) (a6 : A6) (a7 : A7) (a8 : A8) (a9 : A9) (a10 : A10), P a0 a1 a2 a3 a4 a5 a6 a7 a8 a9 a10 (rc a0 a1 a2 a3 a4 a5 a6 a7 a8 a9 a10)) → ∀ (a0 : A0) (a1 : A1) (a2 : A2) (a3 : A3) (a4 : A4) (a5 : A5) (a6 : A6) (a7 : A7) (a8 : A8) (a9 : A9) (a10 : A10), P a0 a1 a2 a3 a4 a5 a6 a7 a8 a9 a10 (body rc a0 a1 a2 a3 a4 a5 a6 a7 a8 a9 a10)) : ∀ n (a0 : A0) (a1 : A1) (a2 : A2) (a3 : A3) (a4 : A4) (a5 : A5) (a6 : A6) (a7 : A7) (a8 : A8) (a9 : A9) (a10 : A10), P a0 a1 a2 a3 a4 a5 a6 a7 a8 a9 a10 (LP11 body n a0 a1 a2 a3 a4 a5 a6 a7 a8 a9 a10)
  | 0, a0, a1, a2, a3, a4, a5, a6, a7, a8, a9, a10 => h0 a0 a1 a2 a3 a4 a5 a6 a7 a8 a9 a10
  | n + 1, a0, a1, a2, a3, a4, a5, a6, a7, a8, a9, a10 => h _ (fun a0 a1 a2 a3 a4 a5 a6 a7 a8 a9 a10 => LP11_i h0 h n a0 a1 a2 a3 a4 a5 a6 a7 a8 a9 a10) a0 a1 a2 a3 a4 a5 a6 a7 a8 a9 a10
def LP12 {A0 A1 A2 A3 A4 A5 A6 A7 A8 A9 A10 A11 R : Type} (body : (A0 → A1 → A2 → A3 → A4 → A5 → A6 → A7 → A8 → A9 → A10 → A11 → Option R) → A0 → A1 → A2 → A3 → A4 → A5 → A6 → A7 → A8 → A9 → A10 → A11 → Option R) : Nat → A0 → A1 → A2 → A3 → A4 → A5 → A6 → A7 → A8 → A9 → A10 → A11 → Option R
  | 0 => fun _ _ _ _ _ _ _ _ _ _ _ _ => none
  | n + 1 => body (LP12 body n)
theorem LP12_i {A0 A1 A2 A3 A4 A5 A6 A7 A8 A9 A10 A11 R : Type} {P : A0 → A1 → A2 → A3 → A4 → A5 → A6 → A7 → A8 → A9 → A10 → A11 → Option R → Prop} {body : (A0 → A1 → A2 → A3 → A4 → A5 → A6 → A7 → A8 → A9 → A10 → A11 → Option R) → A0 → A1 → A2 → A3 → A4 → A5 → A6 → A7 → A8 → A9 → A10 → A11 → Option R} (h0 : ∀ (a0 : A0) (a1 : A1) (a2 : A2) (a3 : A3) (a4 : A4) (a5 : A5) (a6 : A6) (a7 : A7) (a8 : A8) (a9 : A9) (a10 : A10) (a11 : A11), P a0 a1 a2 a3 a4 a5 a6 a7 a8 a9 a10 a11 none) (h : ∀ rc, (∀ (a0 : A0) (a1 : A1) (a2 : A2) (a3 : A3) (a4 : A4) (a5 : A5) (a6 : A6) (a7 : A7) (a8 : A8) (a9 : A9) (a10 : A10) (a11 : A11), P a0 a1 a2 a3 a4 a5 a6 a7 a8 a9 a10 a11 (rc a0 a1 a2 a3 a4 a5 a6 a7 a8 a9 a10 a11)) → ∀ (a0 : A0) (a1 : A1) (a2 : A2) (a3 : A3) (a4 : A4) (a5 : A5) (a6 : A6) (a7 : A7) (a8 : A8) (a9 : A9) (a10 : A10) (a11 : A11), P a0 a1 a2 a3 a4 a5 a6 a7 a8 a9 a10 a11 (body rc a0 a1 a2 a3 a4 a5 a6 a7 a8 a9 a10 a11)) : ∀ n (a0 : A0) (a1 : A1) (a2 : A2) (a3 : A3) (a4 : A4) (a5 : A5) (a6 : A6) (a7 : A7) (a8 : A8) (a9 : A9) (a10 : A10) (a11 : A11), P a0 a1 a2 a3 a4 a5 a6 a7 a8 a9 a10 a11 (LP12 body n a0 a1 a2 a3 a4 a5 a6 a7 a8 a9 a10 a11)
  | 0, a0, a1, a2, a3, a4, a5, a6, a7, a8, a9, a10, a11 => h0 a0 a1 a2 a3 a4 a5 a6 a7 a8 a9 a10 a11
  | n + 1, a0, a1, a2, a3, a4, a5, a6, a7, a8, a9, a10, a11 => h _ (fun a0 a1 a2 a3 a4 a5 a6 a7 a8 a9 a10 a11 => LP12_i h0 h n a0 a1 a2 a3 a4 a5 a6 a7 a8 a9 a10 a11) a0 a1 a2 a3 a4 a5 a6 a7 a8 a9 a10 a11
theorem ti_ne {x c : Int32} (h : ¬ x = c) : x.toInt ≠ c.toInt := fun q => h (Int32.toInt_inj.mp q)
theorem tsw_out3 {x : Int32} (h0 : ¬ x = (0 : Int32)) (h1 : ¬ x = (1 : Int32)) (h2 : ¬ x = (2 : Int32)) : x.toInt < (0 : Int) ∨ (2 : Int) < x.toInt := by
  have e0 : x.toInt ≠ 0 := ti_ne h0
  have e1 : x.toInt ≠ 1 := ti_ne h1
  have e2 : x.toInt ≠ 2 := ti_ne h2
  omega
theorem tsw_out7 {x : Int32} (h0 : ¬ x = (0 : Int32)) (h1 : ¬ x = (1 : Int32)) (h2 : ¬ x = (2 : Int32)) (h3 : ¬ x = (3 : Int32)) (h4 : ¬ x = (4 : Int32)) (h5 : ¬ x = (5 : Int32)) (h6 : ¬ x = (6 : Int32)) : x.toInt < (0 : Int) ∨ (6 : Int) < x.toInt := by
  have e0 : x.toInt ≠ 0 := ti_ne h0
  have e1 : x.toInt ≠ 1 := ti_ne h1
  have e2 : x.toInt ≠ 2 := ti_ne h2
  have e3 : x.toInt ≠ 3 := ti_ne h3
  have e4 : x.toInt ≠ 4 := ti_ne h4
  have e5 : x.toInt ≠ 5 := ti_ne h5
  have e6 : x.toInt ≠ 6 := ti_ne h6
  omega
