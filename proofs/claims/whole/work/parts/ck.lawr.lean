/-! THE LAW: its rows -/
abbrev LC : Type := Program × Launch × Env × State × MethodId × List Frame × Method × Code × Nat
def LA (κ : LC) (L : Nat) (xs : Nat → Int32) : Prop := match κ with
  | (p, _, _, s, m, _, meth, c, b) => lw_At p s m meth c b L xs
def LX (κ : LC) (pc : Nat) (lv : List (Nat × AV)) (st : List AV) (M : MM) (k n : Nat) : Prop := match κ with
  | (p, l, e, s, m, below, meth, c, b) => ∀ (H : Heap) (locs : List Loc) (ls : Array Slot) (cells slots : Nat) (G : CG) (ad : Nat → Nat), World G ad (fun q => s.heap.size ≤ q) M s H locs → lv_has ls 8 (lv.map (lm ad) ++ [(0, .ref b)]) → cells = mz M - 1 + k → slots = mn M + n →
    W p l e room_1 s m #[Value.ref b] below meth c H locs cells slots (lw_Z below #[Value.ref b] s) (F0 m pc ls (st.map (rv ad)))
def iLw (nm : String) : MI := (⟨"CallStepsLaw", nm, "([I)Z"⟩, code, 8, ret, 11, 450)
section LAWR
theorem sit_of {p : Program} {s : State} {m : MethodId} {meth : Method} {c : Code} {b L : Nat} {xs : Nat → Int32} (C0 : lw_At p s m meth c b L xs) : Sit (iLw meth.name) p room_1 s m #[.ref b] meth c := by
  obtain ⟨hx, hb, hr, hml, hown, hts, hX, hbl, hlocks, hgv⟩ := C0
  exact ⟨hx, hb, hml, hown, fun w hw => hts w (List.mem_filter.mp hw).1, hlocks, hr, rfl, Nat.le_refl _, Nat.le_refl _⟩
theorem lmb_at {ad : Nat → Nat} {ls : Array Slot} {b k j : Nat} {lv : List (Nat × AV)} {v : AV} (h : lv_has ls 8 (lv.map (lm ad) ++ [(0, .ref b)])) (hk : lv[j]? = some (k, v)) : ls[k]? = some (.val (rv ad v)) := by
  have hj : j < lv.length := by
    rcases Nat.lt_or_ge j lv.length with q | q
    · exact q
    · rw [List.getElem?_eq_none q] at hk
      cases hk
  refine lv_at h j ?_
  rw [List.getElem?_append_left (by rw [List.length_map]; exact hj), List.getElem?_map, hk]
  rfl
theorem lmb_0 {ad : Nat → Nat} {ls : Array Slot} {b : Nat} {lv : List (Nat × AV)} (h : lv_has ls 8 (lv.map (lm ad) ++ [(0, .ref b)])) : ls[0]? = some (.val (.ref b)) := by
  refine lv_at h lv.length ?_
  rw [List.getElem?_append_right (by rw [List.length_map]; exact Nat.le_refl _), List.length_map, Nat.sub_self]
  rfl
variable {κ : LC} {L : Nat} {xs : Nat → Int32} {pc k n : Nat} {lv : List (Nat × AV)} {st : List AV} {M : MM}
theorem LX_aload (C0 : LA κ L xs) {q : Fin 4} (j : Nat) {a : Nat} (hd : decode code pc = .ok (.aload_n q, 1)) (hl : lv[j]? = some ((q : Nat), vr a)) (kk : LX κ (pc + 1) lv (vr a :: st) M k n) : LX κ pc lv st M k n := by
  obtain ⟨p, l, e, s, m, below, meth, c, b⟩ := κ
  intro H locs ls cells slots G ad hw h hc hs
  obtain ⟨hx, hb, -⟩ := C0
  exact ax_aload_n hx hb (rr_isRef ad a) hd (lmb_at h hl) (kk H locs ls cells slots G ad hw h hc hs)
theorem LX_iload (C0 : LA κ L xs) {q : Nat} (j : Nat) {x : Int32} (hd : decode code pc = .ok (.iload q, 2)) (hl : lv[j]? = some (q, vi x)) (kk : LX κ (pc + 2) lv (vi x :: st) M k n) : LX κ pc lv st M k n := by
  obtain ⟨p, l, e, s, m, below, meth, c, b⟩ := κ
  intro H locs ls cells slots G ad hw h hc hs
  obtain ⟨hx, hb, -⟩ := C0
  exact lv_iload hx hb hd (lmb_at h hl) (kk H locs ls cells slots G ad hw h hc hs)
theorem LX_lload (C0 : LA κ L xs) {q : Nat} (j : Nat) {x : Int64} (hd : decode code pc = .ok (.lload q, 2)) (hl : lv[j]? = some (q, vl x)) (kk : LX κ (pc + 2) lv (vl x :: st) M k n) : LX κ pc lv st M k n := by
  obtain ⟨p, l, e, s, m, below, meth, c, b⟩ := κ
  intro H locs ls cells slots G ad hw h hc hs
  obtain ⟨hx, hb, -⟩ := C0
  exact lv_lload hx hb hd (lmb_at h hl) (kk H locs ls cells slots G ad hw h hc hs)
theorem LX_iconst (C0 : LA κ L xs) {j : Int} {x : Int32} (hd : decode code pc = .ok (.iconst j, 1)) (hx' : Int32.ofInt j = x) (kk : LX κ (pc + 1) lv (vi x :: st) M k n) : LX κ pc lv st M k n := by
  obtain ⟨p, l, e, s, m, below, meth, c, b⟩ := κ
  intro H locs ls cells slots G ad hw h hc hs
  obtain ⟨hx, hb, -⟩ := C0
  exact lv_iconst hx hb hd hx' (kk H locs ls cells slots G ad hw h hc hs)
theorem LX_goto (C0 : LA κ L xs) {off : Int} {t : Nat} (hd : decode code pc = .ok (.goto off, 3)) (ht : (pc : Int) + off = (t : Int)) (kk : LX κ t lv st M k n) : LX κ pc lv st M k n := by
  obtain ⟨p, l, e, s, m, below, meth, c, b⟩ := κ
  intro H locs ls cells slots G ad hw h hc hs
  obtain ⟨hx, hb, -⟩ := C0
  exact lv_goto hx hb hd ht (kk H locs ls cells slots G ad hw h hc hs)
theorem LX_i2l (C0 : LA κ L xs) {x : Int32} (hd : decode code pc = .ok (.i2l, 1)) (kk : LX κ (pc + 1) lv (vl x.toInt64 :: st) M k n) : LX κ pc lv (vi x :: st) M k n := by
  obtain ⟨p, l, e, s, m, below, meth, c, b⟩ := κ
  intro H locs ls cells slots G ad hw h hc hs
  obtain ⟨hx, hb, -⟩ := C0
  exact lv_i2l hx hb hd rfl (kk H locs ls cells slots G ad hw h hc hs)
/-- equal ints: on to the target -/
theorem LX_same (C0 : LA κ L xs) {off : Int} {t : Nat} {x : Int32} (hd : decode code pc = .ok (.if_icmp .eq off, 3)) (ht : (pc : Int) + off = (t : Int)) (kk : LX κ t lv st M k n) : LX κ pc lv (vi x :: vi x :: st) M k n := by
  obtain ⟨p, l, e, s, m, below, meth, c, b⟩ := κ
  intro H locs ls cells slots G ad hw h hc hs
  obtain ⟨hx, hb, -⟩ := C0
  exact lv_icmp_eq hx hb hd ht (fun _ => kk H locs ls cells slots G ad hw h hc hs) (fun q => absurd rfl q)
theorem LX_lsame (C0 : LA κ L xs) {off : Int} {t : Nat} {x : Int64} (hd : decode code pc = .ok (.lcmp, 1)) (hd2 : decode code (pc + 1) = .ok (.ifCond .eq off, 3)) (ht : ((pc + 1 : Nat) : Int) + off = (t : Int)) (kk : LX κ t lv st M k n) : LX κ pc lv (vl x :: vl x :: st) M k n := by
  obtain ⟨p, l, e, s, m, below, meth, c, b⟩ := κ
  intro H locs ls cells slots G ad hw h hc hs
  obtain ⟨hx, hb, -⟩ := C0
  exact W.lcmp hx hb hd (lv_if_eq hx hb hd2 ht (fun _ => kk H locs ls cells slots G ad hw h hc hs) (fun q => absurd ((lg_cmp_eq0 x x).mpr rfl) q))
theorem LX_ifeq (C0 : LA κ L xs) {off : Int} {t : Nat} {x : Int32} (hd : decode code pc = .ok (.ifCond .eq off, 3)) (ht : (pc : Int) + off = (t : Int)) (k1 : x = 0 → LX κ t lv st M k n) (k2 : ¬ x = 0 → LX κ (pc + 3) lv st M k n) : LX κ pc lv (vi x :: st) M k n := by
  obtain ⟨p, l, e, s, m, below, meth, c, b⟩ := κ
  intro H locs ls cells slots G ad hw h hc hs
  obtain ⟨hx, hb, -⟩ := C0
  exact lv_if_eq hx hb hd ht (fun q => k1 q H locs ls cells slots G ad hw h hc hs) (fun q => k2 q H locs ls cells slots G ad hw h hc hs)
theorem LX_ifne (C0 : LA κ L xs) {off : Int} {t : Nat} {x : Int32} (hd : decode code pc = .ok (.ifCond .ne off, 3)) (ht : (pc : Int) + off = (t : Int)) (k1 : ¬ x = 0 → LX κ t lv st M k n) (k2 : x = 0 → LX κ (pc + 3) lv st M k n) : LX κ pc lv (vi x :: st) M k n := by
  obtain ⟨p, l, e, s, m, below, meth, c, b⟩ := κ
  intro H locs ls cells slots G ad hw h hc hs
  obtain ⟨hx, hb, -⟩ := C0
  first
  | exact lv_if_ne hx hb hd ht (fun q => k1 q H locs ls cells slots G ad hw h hc hs) (fun q => k2 q H locs ls cells slots G ad hw h hc hs)
  | exact lv_if_ne hx hb hd ht (fun q => k2 q H locs ls cells slots G ad hw h hc hs) (fun q => k1 q H locs ls cells slots G ad hw h hc hs)
theorem LX_istore (C0 : LA κ L xs) {q : Nat} {x : Int32} {lv' : List (Nat × AV)} (hd : decode code pc = .ok (.istore q, 2)) (hq : q < 8) (h0 : q ≠ 0) (hl : ∀ ad b, (q, Value.int x) :: (lv.map (lm ad) ++ [(0, Value.ref b)]).filter (fun z => !(z.1 == q) && !(z.1 + 1 == q && z.2.category == 2)) = lv'.map (lm ad) ++ [(0, Value.ref b)]) (kk : LX κ (pc + 2) lv' st M k n) : LX κ pc lv (vi x :: st) M k n := by
  obtain ⟨p, l, e, s, m, below, meth, c, b⟩ := κ
  intro H locs ls cells slots G ad hw h hc hs
  obtain ⟨hx, hb, -⟩ := C0
  exact lv_istore hx hb hd h hq (hl ad b) (fun ls' h' => kk H locs ls' cells slots G ad hw h' hc hs)
theorem LX_lstore (C0 : LA κ L xs) {q : Nat} {x : Int64} {lv' : List (Nat × AV)} (hd : decode code pc = .ok (.lstore q, 2)) (hq : q + 1 < 8) (hl : ∀ ad b, (q, Value.long x) :: (lv.map (lm ad) ++ [(0, Value.ref b)]).filter (fun z => !(z.1 == q) && (!(z.1 == q + 1) && !(z.1 + 1 == q && z.2.category == 2))) = lv'.map (lm ad) ++ [(0, Value.ref b)]) (kk : LX κ (pc + 2) lv' st M k n) : LX κ pc lv (vl x :: st) M k n := by
  obtain ⟨p, l, e, s, m, below, meth, c, b⟩ := κ
  intro H locs ls cells slots G ad hw h hc hs
  obtain ⟨hx, hb, -⟩ := C0
  exact lv_lstore hx hb hd h hq (hl ad b) (fun ls' h' => kk H locs ls' cells slots G ad hw h' hc hs)
/-- an int of the script -/
theorem LX_arg (C0 : LA κ L xs) (hL : L ≤ 3072) {i j t : Nat} {z : Int} (hz : Int32.ofInt z = nI j) (hi : i + j < L) (hl : lv[t]? = some (4, vi (nI i))) (d0 : decode code pc = .ok (.aload_n 0, 1)) (d1 : decode code (pc + 1) = .ok (.iload 4, 2)) (d3 : decode code (pc + 3) = .ok (.iconst z, 1)) (d4 : decode code (pc + 4) = .ok (.iadd, 1)) (d5 : decode code (pc + 5) = .ok (.iaload, 1)) (kk : LX κ (pc + 6) lv (vi (xs (i + j)) :: st) M k n) : LX κ pc lv st M k n := by
  obtain ⟨p, l, e, s, m, below, meth, c, b⟩ := κ
  intro H locs ls cells slots G ad hw h hc hs
  obtain ⟨hx, hb, hr, hml, hown, hts, hX, hbl, hlocks, hgv⟩ := C0
  have hbA : ¬ (fun q : Nat => s.heap.size ≤ q) b := Nat.not_le.mpr hbl
  refine lv_aload_n hx hb d0 rfl (lmb_0 h) ?_
  refine lv_iload hx hb d1 (lmb_at h hl) ?_
  refine lv_iconst hx hb d3 hz ?_
  refine lv_iadd hx hb d4 ?_
  rw [nI_add]
  refine va_sld hx hb hX hbl hbA hw.2.2.2.1 (vp_in_nI hi (by omega)) d5 ?_
  rw [nI_clamp (by omega)]
  exact kk H locs ls cells slots G ad hw h hc hs
end LAWR
