/-! THE LAW: its loop, its start, its end -/
section LAWZ
theorem as_nI (x : Int32) : x = nI x.toBitVec.toNat := by
  apply Int32.toBitVec_inj.mp
  show x.toBitVec = BitVec.ofNat 32 x.toBitVec.toNat
  simp
theorem and31 (x : Int32) : ∃ c : Nat, c < 32 ∧ x &&& 31 = nI c := by
  refine ⟨x.toBitVec.toNat &&& 31, Nat.lt_succ_of_le Nat.and_le_right, ?_⟩
  rw [← nI_and, ← as_nI]
  rfl
theorem head_lt {i L : Nat} (hL : L ≤ 3072) (hi : i ≤ L) : nI L - 6 < nI i ↔ ¬ i + 6 ≤ L := by
  rcases Nat.lt_or_ge L 6 with h | h
  · have a : nI L - 6 < nI i := by
      have hk : ∀ a, a < 6 → ∀ b, b < 6 → nI a - 6 < nI b := by decide +kernel
      exact hk L h i (by omega)
    exact ⟨fun _ => by omega, fun _ => a⟩
  · rw [show nI L - 6 = nI (L - 6) from nI_subN (b := 6) h, nI_ltI (by omega) (by omega)]
    omega
variable {κ : LC} {L : Nat} {xs : Nat → Int32} {pc k n : Nat} {lv : List (Nat × AV)} {st : List AV} {M : MM}
theorem LX_dup (C0 : LA κ L xs) {a : Nat} (hd : decode code pc = .ok (.dup, 1)) (kk : LX κ (pc + 1) lv (vr a :: vr a :: st) M k n) : LX κ pc lv (vr a :: st) M k n := by
  obtain ⟨p, l, e, s, m, below, meth, c, b⟩ := κ
  intro H locs ls cells slots G ad hw h hc hs
  obtain ⟨hx, hb, -⟩ := C0
  exact lv_dup hx hb hd (rr_cat ad a) (kk H locs ls cells slots G ad hw h hc hs)
theorem LX_astore (C0 : LA κ L xs) {q : Fin 4} {a : Nat} {lv' : List (Nat × AV)} (hd : decode code pc = .ok (.astore_n q, 1)) (hl : ∀ ad b, ((q : Nat), rr ad a) :: (lv.map (lm ad) ++ [(0, Value.ref b)]).filter (fun z => !(z.1 == (q : Nat)) && !(z.1 + 1 == (q : Nat) && z.2.category == 2)) = lv'.map (lm ad) ++ [(0, Value.ref b)]) (kk : LX κ (pc + 1) lv' st M k n) : LX κ pc lv (vr a :: st) M k n := by
  obtain ⟨p, l, e, s, m, below, meth, c, b⟩ := κ
  intro H locs ls cells slots G ad hw h hc hs
  obtain ⟨hx, hb, -⟩ := C0
  refine ax_astore_n hx hb (rr_isRef ad a) hd h (Nat.lt_of_lt_of_le q.2 (by decide)) (fun ls' h' => kk H locs ls' cells slots G ad hw ?_ hc hs)
  rw [← hl ad b]
  exact h'
theorem LX_tin (C0 : LA κ L xs) {v : Int32} {d lo hi : Int} {offs : Array Int} {len t : Nat} {off : Int} (hd : decode code pc = .ok (.tableswitch d lo hi offs, len)) (h1 : ¬ v.toInt < lo) (h2 : ¬ hi < v.toInt) (ho : offs[(v.toInt - lo).toNat]? = some off) (ht : (pc : Int) + off = (t : Int)) (kk : LX κ t lv st M k n) : LX κ pc lv (vi v :: st) M k n := by
  obtain ⟨p, l, e, s, m, below, meth, c, b⟩ := κ
  intro H locs ls cells slots G ad hw h hc hs
  obtain ⟨hx, hb, -⟩ := C0
  exact lv_tableIn hx hb hd h1 h2 ho ht (kk H locs ls cells slots G ad hw h hc hs)
theorem LX_tout (C0 : LA κ L xs) {v : Int32} {d lo hi : Int} {offs : Array Int} {len t : Nat} (hd : decode code pc = .ok (.tableswitch d lo hi offs, len)) (h1 : v.toInt < lo ∨ hi < v.toInt) (ht : (pc : Int) + d = (t : Int)) (kk : LX κ t lv st M k n) : LX κ pc lv (vi v :: st) M k n := by
  obtain ⟨p, l, e, s, m, below, meth, c, b⟩ := κ
  intro H locs ls cells slots G ad hw h hc hs
  obtain ⟨hx, hb, -⟩ := C0
  exact lv_tableOut hx hb hd h1 ht (kk H locs ls cells slots G ad hw h hc hs)
theorem ddL_h : AllD code [(23, .iload 4, 2), (25, .aload_n 0, 1), (26, .arraylength, 1), (27, .bipush 6, 2), (29, .isub, 1), (30, .if_icmp .gt 1165, 3), (33, .aload_n 0, 1), (34, .iload 4, 2), (36, .iaload, 1), (37, .bipush 31, 2), (39, .iand, 1), (1189, .iinc 4 6, 3), (1192, .goto (-1169), 3), (1195, .iconst 1, 1), (1196, .ireturn, 1)] := allD_of (by decide +kernel)
theorem ddL_t : decode code 40 = .ok (.tableswitch 1149 0 30 #[140, 213, 238, 251, 276, 301, 338, 375, 388, 413, 426, 451, 488, 501, 515, 540, 619, 645, 683, 696, 764, 832, 845, 859, 873, 898, 947, 984, 1022, 1059, 1096], 140) := by decide +kernel
/-- the loop's test -/
theorem LX_head (C0 : LA κ L xs) (hL : L ≤ 3072) {i : Nat} (hi : i ≤ L) (k1 : LX κ 1195 (lv0 i) [] M k n) (k2 : i + 6 ≤ L → LX κ 33 (lv0 i) [] M k n) : LX κ 23 (lv0 i) [] M k n := by
  obtain ⟨d23, d25, d26, d27, d29, d30, -⟩ := ddL_h
  obtain ⟨p, l, e, s, m, below, meth, c, b⟩ := κ
  intro H locs ls cells slots G ad hw h hc hs
  obtain ⟨hx, hb, hr, hml, hown, hts, hX, hbl, hlocks, hgv⟩ := C0
  have hbA : ¬ (fun q : Nat => s.heap.size ≤ q) b := Nat.not_le.mpr hbl
  refine lv_iload hx hb d23 (lmb_at (j := 0) h rfl) ?_
  refine lv_aload_n hx hb d25 rfl (lmb_0 h) ?_
  refine va_slen hx hb hX hbl hbA hw.2.2.2.1 d26 ?_
  refine lv_bipush hx hb d27 (v := 6) (by decide) ?_
  refine lv_isub hx hb d29 ?_
  refine lv_icmp_gt hx hb (tgt := 1195) d30 rfl (fun _ => k1 H locs ls cells slots G ad hw h hc hs) (fun q => ?_)
  have q2 : ¬ ¬ i + 6 ≤ L := fun z => q ((head_lt hL hi).mpr z)
  exact k2 (by omega) H locs ls cells slots G ad hw h hc hs
/-- which call -/
theorem LX_first (C0 : LA κ L xs) (hL : L ≤ 3072) {i : Nat} (hi : i + 6 ≤ L) (kk : LX κ 40 (lv0 i) [vi (xs i &&& 31)] M k n) : LX κ 33 (lv0 i) [] M k n := by
  obtain ⟨-, -, -, -, -, -, d33, d34, d36, d37, d39, -⟩ := ddL_h
  obtain ⟨p, l, e, s, m, below, meth, c, b⟩ := κ
  intro H locs ls cells slots G ad hw h hc hs
  obtain ⟨hx, hb, hr, hml, hown, hts, hX, hbl, hlocks, hgv⟩ := C0
  have hbA : ¬ (fun q : Nat => s.heap.size ≤ q) b := Nat.not_le.mpr hbl
  refine lv_aload_n hx hb d33 rfl (lmb_0 h) ?_
  refine lv_iload hx hb d34 (lmb_at (j := 0) h rfl) ?_
  refine va_sld hx hb hX hbl hbA hw.2.2.2.1 (vp_in_nI (show i < L by omega) (by omega)) d36 ?_
  rw [nI_clamp (by omega)]
  refine lv_bipush hx hb d37 (v := 31) (by decide) ?_
  exact lv_iand hx hb d39 (kk H locs ls cells slots G ad hw h hc hs)
theorem LX_next (C0 : LA κ L xs) {i : Nat} (kk : LX κ 23 (lv0 (i + 6)) [] M k n) : LX κ 1189 (lv0 i) [] M k n := by
  obtain ⟨-, -, -, -, -, -, -, -, -, -, -, d1189, d1192, -⟩ := ddL_h
  refine (fun kz => ?_ : LX κ 1192 (lv0 (i + 6)) [] M k n → _) (LX_goto C0 (t := 23) d1192 rfl kk)
  obtain ⟨p, l, e, s, m, below, meth, c, b⟩ := κ
  intro H locs ls cells slots G ad hw h hc hs
  obtain ⟨hx, hb, -⟩ := C0
  exact lv_iinc (k := 0) (x := nI i) (v := nI (i + 6)) (lv' := (lv0 (i + 6)).map (lm ad) ++ [(0, .ref b)]) hx hb d1189 h rfl (nI_add i 6) (by decide) rfl (fun ls' h' => kz H locs ls' cells slots G ad hw h' hc hs)
theorem LX_end (C0 : LA κ L xs) {i : Nat} (h1 : mz M ≤ 1000) (h2 : mn M ≤ 300000) (h3 : k ≤ 600) (h4 : n ≤ 4000) : LX κ 1195 (lv0 i) [] M k n := by
  obtain ⟨-, -, -, -, -, -, -, -, -, -, -, -, -, d1195, d1196, -⟩ := ddL_h
  obtain ⟨p, l, e, s, m, below, meth, c, b⟩ := κ
  intro H locs ls cells slots G ad hw h hc hs
  obtain ⟨hx, hb, hr, hml, hown, hts, hX, hbl, hlocks, hgv⟩ := C0
  refine lv_iconst hx hb d1195 (v := 1) rfl ?_
  refine va_forget (fun q hq => hw.2.2.2.1.2.2 q hq) ?_
  refine W.widen (k := 601024) (n := 7293034) (by omega) (by omega) ?_
  exact lw_ret hx hb hr hlocks d1196
theorem law_loop (C0 : LA κ L xs) (hE : LE κ) (hL : L ≤ 3072) : ∀ (d i k n : Nat) (M : MM), L - i ≤ d → i ≤ L → 6 * k ≤ i → n ≤ i → WF M → Inv M → LX κ 23 (lv0 i) [] M k n := by
  intro d
  induction d with
  | zero =>
    intro i k n M hd hi hk hn hW hv
    obtain ⟨o1, o2, o3, o4, o5, o6⟩ := hv.ok
    exact LX_head C0 hL hi (LX_end C0 (by omega) o6 (by omega) (by omega)) (fun h => absurd h (by omega))
  | succ d ih =>
    intro i k n M hd hi hk hn hW hv
    obtain ⟨o1, o2, o3, o4, o5, o6⟩ := hv.ok
    refine LX_head C0 hL hi (LX_end C0 (by omega) o6 (by omega) (by omega)) (fun h6 => ?_)
    have nx : ∀ (M2 : MM) (k' n' : Nat), WF M2 → Inv M2 → k' ≤ k + 1 → n' ≤ n + 6 → LX κ 1189 (lv0 i) [] M2 k' n' := fun M2 k' n' hW2 hv2 hk' hn' => LX_next C0 (ih (i + 6) k' n' M2 (by omega) h6 (by omega) (by omega) hW2 hv2)
    have n0 : ∀ M2, WF M2 → Inv M2 → LX κ 1189 (lv0 i) [] M2 k n := fun M2 hW2 hv2 => nx M2 k n hW2 hv2 (by omega) (by omega)
    have k4 : k ≤ 4000 := by omega
    have n4 : n ≤ 24000 := by omega
    refine LX_first C0 hL h6 ?_
    obtain ⟨c, hc, ec⟩ := and31 (xs i)
    rw [ec]
    rcases (show c = 0 ∨ c = 1 ∨ c = 2 ∨ c = 3 ∨ c = 4 ∨ c = 5 ∨ c = 6 ∨ c = 7 ∨ c = 8 ∨ c = 9 ∨ c = 10 ∨ c = 11 ∨ c = 12 ∨ c = 13 ∨ c = 14 ∨ c = 15 ∨ c = 16 ∨ c = 17 ∨ c = 18 ∨ c = 19 ∨ c = 20 ∨ c = 21 ∨ c = 22 ∨ c = 23 ∨ c = 24 ∨ c = 25 ∨ c = 26 ∨ c = 27 ∨ c = 28 ∨ c = 29 ∨ c = 30 ∨ c = 31 by omega) with e | e | e | e | e | e | e | e | e | e | e | e | e | e | e | e | e | e | e | e | e | e | e | e | e | e | e | e | e | e | e | e <;> subst e
    · exact LX_tin C0 (t := 180) (off := 140) ddL_t (by decide) (by decide) rfl rfl (law_c0 C0 hL h6 hW hv k4 n4 n0)
    · exact LX_tin C0 (t := 253) (off := 213) ddL_t (by decide) (by decide) rfl rfl (law_c1 C0 hL h6 hW hv k4 n4 n0)
    · exact LX_tin C0 (t := 278) (off := 238) ddL_t (by decide) (by decide) rfl rfl (law_c2 C0 hL h6 hW hv k4 n4 n0)
    · exact LX_tin C0 (t := 291) (off := 251) ddL_t (by decide) (by decide) rfl rfl (law_c3 C0 hL h6 hW hv k4 n4 n0)
    · exact LX_tin C0 (t := 316) (off := 276) ddL_t (by decide) (by decide) rfl rfl (law_c4 C0 hL h6 hW hv k4 n4 n0)
    · exact LX_tin C0 (t := 341) (off := 301) ddL_t (by decide) (by decide) rfl rfl (law_c5 C0 hL h6 hW hv k4 n4 n0)
    · exact LX_tin C0 (t := 378) (off := 338) ddL_t (by decide) (by decide) rfl rfl (law_c6 C0 hL h6 hW hv k4 n4 n0)
    · exact LX_tin C0 (t := 415) (off := 375) ddL_t (by decide) (by decide) rfl rfl (law_c7 C0 hL h6 hW hv k4 n4 n0)
    · exact LX_tin C0 (t := 428) (off := 388) ddL_t (by decide) (by decide) rfl rfl (law_c8 C0 hL h6 hW hv k4 n4 n0)
    · exact LX_tin C0 (t := 453) (off := 413) ddL_t (by decide) (by decide) rfl rfl (law_c9 C0 hL h6 hW hv k4 n4 n0)
    · exact LX_tin C0 (t := 466) (off := 426) ddL_t (by decide) (by decide) rfl rfl (law_c10 C0 hL h6 hW hv k4 n4 n0)
    · exact LX_tin C0 (t := 491) (off := 451) ddL_t (by decide) (by decide) rfl rfl (law_c11 C0 hL h6 hW hv k4 n4 n0)
    · exact LX_tin C0 (t := 528) (off := 488) ddL_t (by decide) (by decide) rfl rfl (law_c12 C0 hL h6 hW hv k4 n4 n0)
    · exact LX_tin C0 (t := 541) (off := 501) ddL_t (by decide) (by decide) rfl rfl (law_c13 C0 hL h6 hW hv k4 n4 n0)
    · exact LX_tin C0 (t := 555) (off := 515) ddL_t (by decide) (by decide) rfl rfl (law_c14 C0 hL h6 hW hv k4 n4 n0)
    · exact LX_tin C0 (t := 580) (off := 540) ddL_t (by decide) (by decide) rfl rfl (law_c15 C0 hE hL h6 hW hv k4 n4 nx)
    · exact LX_tin C0 (t := 659) (off := 619) ddL_t (by decide) (by decide) rfl rfl (law_c16 C0 hL h6 hW hv k4 n4 n0)
    · exact LX_tin C0 (t := 685) (off := 645) ddL_t (by decide) (by decide) rfl rfl (law_c17 C0 hL h6 hW hv k4 n4 n0)
    · exact LX_tin C0 (t := 723) (off := 683) ddL_t (by decide) (by decide) rfl rfl (law_c18 C0 hL h6 hW hv k4 n4 n0)
    · exact LX_tin C0 (t := 736) (off := 696) ddL_t (by decide) (by decide) rfl rfl (law_c19 C0 hE hL h6 hW hv k4 n4 nx)
    · exact LX_tin C0 (t := 804) (off := 764) ddL_t (by decide) (by decide) rfl rfl (law_c20 C0 hE hL h6 hW hv k4 n4 nx)
    · exact LX_tin C0 (t := 872) (off := 832) ddL_t (by decide) (by decide) rfl rfl (law_c21 C0 hL h6 hW hv k4 n4 n0)
    · exact LX_tin C0 (t := 885) (off := 845) ddL_t (by decide) (by decide) rfl rfl (law_c22 C0 hL h6 hW hv k4 n4 n0)
    · exact LX_tin C0 (t := 899) (off := 859) ddL_t (by decide) (by decide) rfl rfl (law_c23 C0 hL h6 hW hv k4 n4 n0)
    · exact LX_tin C0 (t := 913) (off := 873) ddL_t (by decide) (by decide) rfl rfl (law_c24 C0 hL h6 hW hv k4 n4 n0)
    · exact LX_tin C0 (t := 938) (off := 898) ddL_t (by decide) (by decide) rfl rfl (law_c25 C0 hL h6 hW hv k4 n4 n0)
    · exact LX_tin C0 (t := 987) (off := 947) ddL_t (by decide) (by decide) rfl rfl (law_c26 C0 hL h6 hW hv k4 n4 n0)
    · exact LX_tin C0 (t := 1024) (off := 984) ddL_t (by decide) (by decide) rfl rfl (law_c27 C0 hL h6 hW hv k4 n4 n0)
    · exact LX_tin C0 (t := 1062) (off := 1022) ddL_t (by decide) (by decide) rfl rfl (law_c28 C0 hL h6 hW hv k4 n4 n0)
    · exact LX_tin C0 (t := 1099) (off := 1059) ddL_t (by decide) (by decide) rfl rfl (law_c29 C0 hL h6 hW hv k4 n4 n0)
    · exact LX_tin C0 (t := 1136) (off := 1096) ddL_t (by decide) (by decide) rfl rfl (law_c30 C0 hL h6 hW hv k4 n4 n0)
    · exact LX_tout C0 (t := 1189) ddL_t (by decide) rfl (n0 M hW hv)
end LAWZ
