/-! THE LAW: its cases that catch -/
section LAWY
variable {κ : LC} {L : Nat} {xs : Nat → Int32}
theorem law_c15 (C0 : LA κ L xs) (hE : LE κ) (hL : L ≤ 3072) {i : Nat} (hi : i + 6 ≤ L) {M : MM} {k n : Nat} (hW : WF M) (hv : Inv M) (hk : k ≤ 4000) (hn : n ≤ 24000) (kk : ∀ M2 k' n', WF M2 → Inv M2 → k' ≤ k + 1 → n' ≤ n + 6 → LX κ 1189 (lv0 i) [] M2 k' n') : LX κ 580 (lv0 i) [] M k n := by
  obtain ⟨d580, d581, d582, d584, d585, d586, d587, d588, d590, d591, d592, d593, d594, d596, d597, d598, d599, d600, d603, d605, d606, d607, d609, d610, d611, d612, d613, d615, d616, d617, d618, d619, d621, d622, d623, d624, d627, d629, d630, d633, d635, d638, d639, d640, d642, d645, d646, d647, d648, d650, d651, d654, d655, d656, -⟩ := ddL_15
  obtain ⟨o1, o2, o3, o4, o5, o6⟩ := hv.ok
  obtain ⟨su1, su2⟩ := su_pops (xs (i + 1)) (xs (i + 2)) (xs (i + 3)) M hv
  have pre : ∀ {x : Option AV × MM} {mc ms : Nat} (k' n' : Nat), HMet hl_pops 11 14 [vr 1, vi (xs (i + 1)), vi (xs (i + 2)), vi (xs (i + 3)), vr 119] M x mc ms → mz M - 1 + k + mc = mz x.2 - 1 + k' → mn M + n + ms = mn x.2 + n' → mz x.2 - 1 + k' ≤ 601024 → mn x.2 + n' ≤ 7293034 → LX κ 603 (lv0 i) (x.1.toList ++ []) x.2 k' n' → LX κ 580 (lv0 i) [] M k n := fun {x mc ms} k' n' hH e1 e2 c1 s1 kx => by
    refine LX_aload C0 3 d580 rfl ?_
    refine LX_arg C0 hL (j := 1) (t := 0) rfl (by omega) rfl d581 d582 d584 d585 d586 ?_
    refine LX_arg C0 hL (j := 2) (t := 0) rfl (by omega) rfl d587 d588 d590 d591 d592 ?_
    refine LX_arg C0 hL (j := 3) (t := 0) rfl (by omega) rfl d593 d594 d596 d597 d598 ?_
    refine LX_aload C0 1 d599 rfl ?_
    refine LX_callH C0 hE (as := [vr 1, vi (xs (i + 1)), vi (xs (i + 2)), vi (xs (i + 3)), vr 119]) (st := []) k' n' d600 ch_91 ⟨by decide, by decide⟩ rfl (Nat.zero_le _) (ok_lv o4 (fun v hv => ?_)) hH e1 e2 c1 s1 (fun _ _ => kx)
    simp only [List.mem_cons, List.not_mem_nil, or_false] at hv
    rcases hv with e | e | e | e | e
    · rw [e]; exact (show 119 < mz M by omega)
    · rw [e]; trivial
    · rw [e]; trivial
    · rw [e]; trivial
    · rw [e]; exact (show 1 < mz M by omega)
  have post : ∀ {Mx M2 : MM} {q : Int32} {r : Int64} {k' n' : Nat}, WF Mx → 120 ≤ mz Mx → (mK Mx 86).1 = 15 → f12_pops Mx 86 (xs (i + 1)) (xs (i + 2)) (xs (i + 3)) = some (r, M2) → mI M2 86 0 = q → Inv M2 → (q = 0 → mJ M2 119 0 = r) → k' ≤ k + 1 → n' ≤ n + 6 → LX κ 603 (lv0 i) [vi q] Mx k' n' := fun {Mx M2 q r k' n'} hWx hzx hKx b1 hq hv2 hj hk' hn' => by
    obtain ⟨q1, q2, q3, q4, q5, q6⟩ := hv2.ok
    have R2 := T12_pops Mx 86 (xs (i + 1)) (xs (i + 2)) (xs (i + 3)) _ b1
    have g2 := (R2 hWx (ok_in (l := [xs (i + 1), xs (i + 2), xs (i + 3)]) (by omega))).1
    have hW2 : WF M2 := g2.2.1
    refine LX_istore C0 (q := 5) (lv' := (5, vi q) :: lv0 i) d603 (by decide) (by decide) (fun ad b => rfl) ?_
    refine LX_aload C0 3 d605 rfl ?_
    refine LX_arg C0 hL (j := 1) (t := 1) rfl (by omega) rfl d606 d607 d609 d610 d611 ?_
    refine LX_arg C0 hL (j := 2) (t := 1) rfl (by omega) rfl d612 d613 d615 d616 d617 ?_
    refine LX_arg C0 hL (j := 3) (t := 1) rfl (by omega) rfl d618 d619 d621 d622 d623 ?_
    refine LX_callV C0 (as := [vi (xs (i + 1)), vi (xs (i + 2)), vi (xs (i + 3))]) (st := []) d624 cv_jCallStepsLaw_96 ⟨by decide, by decide⟩ rfl (Nat.le_of_ble_eq_true rfl) hKx hWx (OK_cons (ok_lv hzx (ok_st (l := [xs (i + 3), xs (i + 2), xs (i + 1)]) (z := []) (by omega) (fun v hv => by cases hv))) trivial) R2 (show mz M2 - 1 + k' ≤ 601024 by omega) (show mn M2 + n' ≤ 7293034 by omega) (fun _ _ => ?_)
    show LX κ _ ((5, vi q) :: lv0 i) [vl r] M2 k' n'
    refine LX_lstore C0 (q := 6) (lv' := (6, vl r) :: (5, vi q) :: lv0 i) d627 (by decide) (fun ad b => rfl) ?_
    refine LX_aload C0 4 d629 rfl ?_
    have R3 := T12_thrown M2 86 _ (st_thrown hv2)
    rw [hq] at R3
    refine LX_callV C0 (as := []) (st := []) d630 cv_jCallStepsLaw_97 ⟨by decide, by decide⟩ rfl (Nat.le_of_ble_eq_true rfl) q2 hW2 (OK_cons (OK_cons (ok_lv q4 (ok_st (l := []) (z := []) (by omega) (fun v hv => by cases hv))) trivial) trivial) R3 (show mz M2 - 1 + k' ≤ 601024 by omega) (show mn M2 + n' ≤ 7293034 by omega) (fun _ _ => ?_)
    show LX κ _ ((6, vl r) :: (5, vi q) :: lv0 i) [vi q] M2 k' n'
    refine LX_iload C0 1 d633 rfl ?_
    refine LX_same C0 (t := 640) d635 rfl ?_
    have fin : LX κ 656 ((6, vl r) :: (5, vi q) :: lv0 i) [] M2 k' n' := LX_goto C0 (t := 1189) d656 rfl (LX_sub [2, 3, 4, 5] rfl (kk M2 k' n' hW2 hv2 hk' hn'))
    refine LX_iload C0 1 d640 rfl ?_
    refine LX_ifne C0 (t := 656) d642 rfl (fun _ => fin) (fun h0 => ?_)
    refine LX_out C0 3 q3 hW2 rfl d645 d646 d647 ?_
    rw [hj h0]
    refine LX_lload C0 0 d648 rfl ?_
    exact LX_lsame C0 (t := 656) d650 d651 rfl fin
  cases hok : okP M (xs (i + 1)) (xs (i + 2)) (xs (i + 3)) with
  | true =>
    obtain ⟨r, M1, a1, a2, a3⟩ := su1 hok
    have a1' : f11_pops M 1 (xs (i + 1)) (xs (i + 2)) (xs (i + 3)) = some (r, M1) := a1
    have g1 := (T11_pops M 1 (xs (i + 1)) (xs (i + 2)) (xs (i + 3)) _ a1' hW (ok_in (l := [xs (i + 1), xs (i + 2), xs (i + 3)]) (by omega))).1
    have z1 : mz M ≤ mz M1 := g1.1.1
    have y1 : mn M ≤ mn M1 := g1.1.2
    obtain ⟨M2, b1, b2, b3, b4⟩ := a3 r
    have b1' : f12_pops (sJ M1 119 0 r) 86 (xs (i + 1)) (xs (i + 2)) (xs (i + 3)) = some (r, M2) := b1
    have hH := HM_pops hW o1 (by omega) a1' a2
    have hWo : WF (sJ M1 119 0 r) := hH.1.2.1
    have hzo : 120 ≤ mz (sJ M1 119 0 r) := Nat.le_trans o4 z1
    have g2 := (T12_pops _ 86 (xs (i + 1)) (xs (i + 2)) (xs (i + 3)) _ b1' hWo (ok_in (l := [xs (i + 1), xs (i + 2), xs (i + 3)]) (Nat.lt_of_lt_of_le (by decide) hzo))).1
    have z2 : mz M1 ≤ mz M2 := g2.1.1
    have y2 : mn M1 ≤ mn M2 := g2.1.2
    obtain ⟨-, -, -, -, q5, q6⟩ := b3.ok
    have kM : (mK (sJ M1 119 0 r) 86).1 = 15 := by
      have c1 := b1'
      unfold f12_pops at c1
      exact aO_k c1
    exact pre k n hH (show mz M - 1 + k + (mz M1 - mz M) = mz M1 - 1 + k by omega) (show mn M + n + (mn M1 - mn M) = mn M1 + n by omega) (show mz M1 - 1 + k ≤ 601024 by omega) (show mn M1 + n ≤ 7293034 by omega) (post hWo hzo kM b1' b2 b3 (fun _ => b4) (by omega) (by omega))
  | false =>
    obtain ⟨r, M2, b1, b2, b3⟩ := su2 hok
    have b1' : f12_pops M 86 (xs (i + 1)) (xs (i + 2)) (xs (i + 3)) = some (r, M2) := b1
    have kM : (mK M 86).1 = 15 := o2
    exact pre (k + 1) (n + 6) (HT_pops hW o1 hv.kP hok) (show mz M - 1 + k + 1 = mz M - 1 + (k + 1) by omega) (show mn M + n + 6 = mn M + (n + 6) by omega) (show mz M - 1 + (k + 1) ≤ 601024 by omega) (show mn M + (n + 6) ≤ 7293034 by omega) (post hW o4 kM b1' b2 b3 (fun h => absurd h (by decide)) (by omega) (by omega))
theorem law_c19 (C0 : LA κ L xs) (hE : LE κ) (hL : L ≤ 3072) {i : Nat} (hi : i + 6 ≤ L) {M : MM} {k n : Nat} (hW : WF M) (hv : Inv M) (hk : k ≤ 4000) (hn : n ≤ 24000) (kk : ∀ M2 k' n', WF M2 → Inv M2 → k' ≤ k + 1 → n' ≤ n + 6 → LX κ 1189 (lv0 i) [] M2 k' n') : LX κ 736 (lv0 i) [] M k n := by
  obtain ⟨d736, d737, d738, d740, d741, d742, d743, d744, d746, d747, d748, d749, d750, d753, d755, d756, d757, d759, d760, d761, d762, d763, d765, d766, d767, d768, d771, d773, d774, d777, d779, d782, d783, d784, d786, d789, d790, d791, d792, d794, d795, d796, d799, d800, d801, -⟩ := ddL_19
  obtain ⟨o1, o2, o3, o4, o5, o6⟩ := hv.ok
  obtain ⟨su1, su2⟩ := su_rises (xs (i + 1)) (xs (i + 2)) M hv
  have pre : ∀ {x : Option AV × MM} {mc ms : Nat} (k' n' : Nat), HMet hl_rises 10 13 [vr 1, vi (xs (i + 1)), vi (xs (i + 2)), vr 119] M x mc ms → mz M - 1 + k + mc = mz x.2 - 1 + k' → mn M + n + ms = mn x.2 + n' → mz x.2 - 1 + k' ≤ 601024 → mn x.2 + n' ≤ 7293034 → LX κ 753 (lv0 i) (x.1.toList ++ []) x.2 k' n' → LX κ 736 (lv0 i) [] M k n := fun {x mc ms} k' n' hH e1 e2 c1 s1 kx => by
    refine LX_aload C0 3 d736 rfl ?_
    refine LX_arg C0 hL (j := 1) (t := 0) rfl (by omega) rfl d737 d738 d740 d741 d742 ?_
    refine LX_arg C0 hL (j := 2) (t := 0) rfl (by omega) rfl d743 d744 d746 d747 d748 ?_
    refine LX_aload C0 1 d749 rfl ?_
    refine LX_callH C0 hE (as := [vr 1, vi (xs (i + 1)), vi (xs (i + 2)), vr 119]) (st := []) k' n' d750 ch_114 ⟨by decide, by decide⟩ rfl (Nat.zero_le _) (ok_lv o4 (fun v hv => ?_)) hH e1 e2 c1 s1 (fun _ _ => kx)
    simp only [List.mem_cons, List.not_mem_nil, or_false] at hv
    rcases hv with e | e | e | e
    · rw [e]; exact (show 119 < mz M by omega)
    · rw [e]; trivial
    · rw [e]; trivial
    · rw [e]; exact (show 1 < mz M by omega)
  have post : ∀ {Mx M2 : MM} {q : Int32} {r : Int32} {k' n' : Nat}, WF Mx → 120 ≤ mz Mx → (mK Mx 86).1 = 15 → f12_rises Mx 86 (xs (i + 1)) (xs (i + 2)) = some (r, M2) → mI M2 86 0 = q → Inv M2 → (q = 0 → mJ M2 119 0 = r.toInt64) → k' ≤ k + 1 → n' ≤ n + 6 → LX κ 753 (lv0 i) [vi q] Mx k' n' := fun {Mx M2 q r k' n'} hWx hzx hKx b1 hq hv2 hj hk' hn' => by
    obtain ⟨q1, q2, q3, q4, q5, q6⟩ := hv2.ok
    have R2 := T12_rises Mx 86 (xs (i + 1)) (xs (i + 2)) _ b1
    have g2 := (R2 hWx (ok_in (l := [xs (i + 1), xs (i + 2)]) (by omega))).1
    have hW2 : WF M2 := g2.2.1
    refine LX_istore C0 (q := 5) (lv' := (5, vi q) :: lv0 i) d753 (by decide) (by decide) (fun ad b => rfl) ?_
    refine LX_aload C0 3 d755 rfl ?_
    refine LX_arg C0 hL (j := 1) (t := 1) rfl (by omega) rfl d756 d757 d759 d760 d761 ?_
    refine LX_arg C0 hL (j := 2) (t := 1) rfl (by omega) rfl d762 d763 d765 d766 d767 ?_
    refine LX_callV C0 (as := [vi (xs (i + 1)), vi (xs (i + 2))]) (st := []) d768 cv_jCallStepsLaw_117 ⟨by decide, by decide⟩ rfl (Nat.le_of_ble_eq_true rfl) hKx hWx (OK_cons (ok_lv hzx (ok_st (l := [xs (i + 2), xs (i + 1)]) (z := []) (by omega) (fun v hv => by cases hv))) trivial) R2 (show mz M2 - 1 + k' ≤ 601024 by omega) (show mn M2 + n' ≤ 7293034 by omega) (fun _ _ => ?_)
    show LX κ _ ((5, vi q) :: lv0 i) [vi r] M2 k' n'
    refine LX_istore C0 (q := 6) (lv' := (6, vi r) :: (5, vi q) :: lv0 i) d771 (by decide) (by decide) (fun ad b => rfl) ?_
    refine LX_aload C0 4 d773 rfl ?_
    have R3 := T12_thrown M2 86 _ (st_thrown hv2)
    rw [hq] at R3
    refine LX_callV C0 (as := []) (st := []) d774 cv_jCallStepsLaw_97 ⟨by decide, by decide⟩ rfl (Nat.le_of_ble_eq_true rfl) q2 hW2 (OK_cons (OK_cons (ok_lv q4 (ok_st (l := []) (z := []) (by omega) (fun v hv => by cases hv))) trivial) trivial) R3 (show mz M2 - 1 + k' ≤ 601024 by omega) (show mn M2 + n' ≤ 7293034 by omega) (fun _ _ => ?_)
    show LX κ _ ((6, vi r) :: (5, vi q) :: lv0 i) [vi q] M2 k' n'
    refine LX_iload C0 1 d777 rfl ?_
    refine LX_same C0 (t := 784) d779 rfl ?_
    have fin : LX κ 801 ((6, vi r) :: (5, vi q) :: lv0 i) [] M2 k' n' := LX_goto C0 (t := 1189) d801 rfl (LX_sub [2, 3, 4, 5] rfl (kk M2 k' n' hW2 hv2 hk' hn'))
    refine LX_iload C0 1 d784 rfl ?_
    refine LX_ifne C0 (t := 801) d786 rfl (fun _ => fin) (fun h0 => ?_)
    refine LX_out C0 3 q3 hW2 rfl d789 d790 d791 ?_
    rw [hj h0]
    refine LX_iload C0 0 d792 rfl ?_
    refine LX_i2l C0 d794 ?_
    exact LX_lsame C0 (t := 801) d795 d796 rfl fin
  cases hok : okH M (xs (i + 1)) (xs (i + 2)) with
  | true =>
    obtain ⟨r, M1, a1, a2, a3⟩ := su1 hok
    have a1' : f11_rises M 1 (xs (i + 1)) (xs (i + 2)) = some (r, M1) := a1
    have g1 := (T11_rises M 1 (xs (i + 1)) (xs (i + 2)) _ a1' hW (ok_in (l := [xs (i + 1), xs (i + 2)]) (by omega))).1
    have z1 : mz M ≤ mz M1 := g1.1.1
    have y1 : mn M ≤ mn M1 := g1.1.2
    obtain ⟨M2, b1, b2, b3, b4⟩ := a3 r.toInt64
    have b1' : f12_rises (sJ M1 119 0 r.toInt64) 86 (xs (i + 1)) (xs (i + 2)) = some (r, M2) := b1
    have hH := HM_rises hW o1 (by omega) a1' a2
    have hWo : WF (sJ M1 119 0 r.toInt64) := hH.1.2.1
    have hzo : 120 ≤ mz (sJ M1 119 0 r.toInt64) := Nat.le_trans o4 z1
    have g2 := (T12_rises _ 86 (xs (i + 1)) (xs (i + 2)) _ b1' hWo (ok_in (l := [xs (i + 1), xs (i + 2)]) (Nat.lt_of_lt_of_le (by decide) hzo))).1
    have z2 : mz M1 ≤ mz M2 := g2.1.1
    have y2 : mn M1 ≤ mn M2 := g2.1.2
    obtain ⟨-, -, -, -, q5, q6⟩ := b3.ok
    have kM : (mK (sJ M1 119 0 r.toInt64) 86).1 = 15 := by
      have c1 := b1'
      unfold f12_rises at c1
      exact aO_k c1
    exact pre k n hH (show mz M - 1 + k + (mz M1 - mz M) = mz M1 - 1 + k by omega) (show mn M + n + (mn M1 - mn M) = mn M1 + n by omega) (show mz M1 - 1 + k ≤ 601024 by omega) (show mn M1 + n ≤ 7293034 by omega) (post hWo hzo kM b1' b2 b3 (fun _ => b4) (by omega) (by omega))
  | false =>
    obtain ⟨r, M2, b1, b2, b3⟩ := su2 hok
    have b1' : f12_rises M 86 (xs (i + 1)) (xs (i + 2)) = some (r, M2) := b1
    have kM : (mK M 86).1 = 15 := o2
    exact pre (k + 1) (n + 6) (HT_rises hW o1 hv.kP hok) (show mz M - 1 + k + 1 = mz M - 1 + (k + 1) by omega) (show mn M + n + 6 = mn M + (n + 6) by omega) (show mz M - 1 + (k + 1) ≤ 601024 by omega) (show mn M + (n + 6) ≤ 7293034 by omega) (post hW o4 kM b1' b2 b3 (fun h => absurd h (by decide)) (by omega) (by omega))
theorem law_c20 (C0 : LA κ L xs) (hE : LE κ) (hL : L ≤ 3072) {i : Nat} (hi : i + 6 ≤ L) {M : MM} {k n : Nat} (hW : WF M) (hv : Inv M) (hk : k ≤ 4000) (hn : n ≤ 24000) (kk : ∀ M2 k' n', WF M2 → Inv M2 → k' ≤ k + 1 → n' ≤ n + 6 → LX κ 1189 (lv0 i) [] M2 k' n') : LX κ 804 (lv0 i) [] M k n := by
  obtain ⟨d804, d805, d806, d808, d809, d810, d811, d812, d814, d815, d816, d817, d818, d821, d823, d824, d825, d827, d828, d829, d830, d831, d833, d834, d835, d836, d839, d841, d842, d845, d847, d850, d851, d852, d854, d857, d858, d859, d860, d862, d863, d864, d867, d868, d869, -⟩ := ddL_20
  obtain ⟨o1, o2, o3, o4, o5, o6⟩ := hv.ok
  obtain ⟨su1, su2⟩ := su_lasts (xs (i + 1)) (xs (i + 2)) M hv
  have pre : ∀ {x : Option AV × MM} {mc ms : Nat} (k' n' : Nat), HMet hl_lasts 10 13 [vr 1, vi (xs (i + 1)), vi (xs (i + 2)), vr 119] M x mc ms → mz M - 1 + k + mc = mz x.2 - 1 + k' → mn M + n + ms = mn x.2 + n' → mz x.2 - 1 + k' ≤ 601024 → mn x.2 + n' ≤ 7293034 → LX κ 821 (lv0 i) (x.1.toList ++ []) x.2 k' n' → LX κ 804 (lv0 i) [] M k n := fun {x mc ms} k' n' hH e1 e2 c1 s1 kx => by
    refine LX_aload C0 3 d804 rfl ?_
    refine LX_arg C0 hL (j := 1) (t := 0) rfl (by omega) rfl d805 d806 d808 d809 d810 ?_
    refine LX_arg C0 hL (j := 2) (t := 0) rfl (by omega) rfl d811 d812 d814 d815 d816 ?_
    refine LX_aload C0 1 d817 rfl ?_
    refine LX_callH C0 hE (as := [vr 1, vi (xs (i + 1)), vi (xs (i + 2)), vr 119]) (st := []) k' n' d818 ch_118 ⟨by decide, by decide⟩ rfl (Nat.zero_le _) (ok_lv o4 (fun v hv => ?_)) hH e1 e2 c1 s1 (fun _ _ => kx)
    simp only [List.mem_cons, List.not_mem_nil, or_false] at hv
    rcases hv with e | e | e | e
    · rw [e]; exact (show 119 < mz M by omega)
    · rw [e]; trivial
    · rw [e]; trivial
    · rw [e]; exact (show 1 < mz M by omega)
  have post : ∀ {Mx M2 : MM} {q : Int32} {r : Int32} {k' n' : Nat}, WF Mx → 120 ≤ mz Mx → (mK Mx 86).1 = 15 → f12_lasts Mx 86 (xs (i + 1)) (xs (i + 2)) = some (r, M2) → mI M2 86 0 = q → Inv M2 → (q = 0 → mJ M2 119 0 = r.toInt64) → k' ≤ k + 1 → n' ≤ n + 6 → LX κ 821 (lv0 i) [vi q] Mx k' n' := fun {Mx M2 q r k' n'} hWx hzx hKx b1 hq hv2 hj hk' hn' => by
    obtain ⟨q1, q2, q3, q4, q5, q6⟩ := hv2.ok
    have R2 := T12_lasts Mx 86 (xs (i + 1)) (xs (i + 2)) _ b1
    have g2 := (R2 hWx (ok_in (l := [xs (i + 1), xs (i + 2)]) (by omega))).1
    have hW2 : WF M2 := g2.2.1
    refine LX_istore C0 (q := 5) (lv' := (5, vi q) :: lv0 i) d821 (by decide) (by decide) (fun ad b => rfl) ?_
    refine LX_aload C0 3 d823 rfl ?_
    refine LX_arg C0 hL (j := 1) (t := 1) rfl (by omega) rfl d824 d825 d827 d828 d829 ?_
    refine LX_arg C0 hL (j := 2) (t := 1) rfl (by omega) rfl d830 d831 d833 d834 d835 ?_
    refine LX_callV C0 (as := [vi (xs (i + 1)), vi (xs (i + 2))]) (st := []) d836 cv_jCallStepsLaw_120 ⟨by decide, by decide⟩ rfl (Nat.le_of_ble_eq_true rfl) hKx hWx (OK_cons (ok_lv hzx (ok_st (l := [xs (i + 2), xs (i + 1)]) (z := []) (by omega) (fun v hv => by cases hv))) trivial) R2 (show mz M2 - 1 + k' ≤ 601024 by omega) (show mn M2 + n' ≤ 7293034 by omega) (fun _ _ => ?_)
    show LX κ _ ((5, vi q) :: lv0 i) [vi r] M2 k' n'
    refine LX_istore C0 (q := 6) (lv' := (6, vi r) :: (5, vi q) :: lv0 i) d839 (by decide) (by decide) (fun ad b => rfl) ?_
    refine LX_aload C0 4 d841 rfl ?_
    have R3 := T12_thrown M2 86 _ (st_thrown hv2)
    rw [hq] at R3
    refine LX_callV C0 (as := []) (st := []) d842 cv_jCallStepsLaw_97 ⟨by decide, by decide⟩ rfl (Nat.le_of_ble_eq_true rfl) q2 hW2 (OK_cons (OK_cons (ok_lv q4 (ok_st (l := []) (z := []) (by omega) (fun v hv => by cases hv))) trivial) trivial) R3 (show mz M2 - 1 + k' ≤ 601024 by omega) (show mn M2 + n' ≤ 7293034 by omega) (fun _ _ => ?_)
    show LX κ _ ((6, vi r) :: (5, vi q) :: lv0 i) [vi q] M2 k' n'
    refine LX_iload C0 1 d845 rfl ?_
    refine LX_same C0 (t := 852) d847 rfl ?_
    have fin : LX κ 869 ((6, vi r) :: (5, vi q) :: lv0 i) [] M2 k' n' := LX_goto C0 (t := 1189) d869 rfl (LX_sub [2, 3, 4, 5] rfl (kk M2 k' n' hW2 hv2 hk' hn'))
    refine LX_iload C0 1 d852 rfl ?_
    refine LX_ifne C0 (t := 869) d854 rfl (fun _ => fin) (fun h0 => ?_)
    refine LX_out C0 3 q3 hW2 rfl d857 d858 d859 ?_
    rw [hj h0]
    refine LX_iload C0 0 d860 rfl ?_
    refine LX_i2l C0 d862 ?_
    exact LX_lsame C0 (t := 869) d863 d864 rfl fin
  cases hok : okH M (xs (i + 1)) (xs (i + 2)) with
  | true =>
    obtain ⟨r, M1, a1, a2, a3⟩ := su1 hok
    have a1' : f11_lasts M 1 (xs (i + 1)) (xs (i + 2)) = some (r, M1) := a1
    have g1 := (T11_lasts M 1 (xs (i + 1)) (xs (i + 2)) _ a1' hW (ok_in (l := [xs (i + 1), xs (i + 2)]) (by omega))).1
    have z1 : mz M ≤ mz M1 := g1.1.1
    have y1 : mn M ≤ mn M1 := g1.1.2
    obtain ⟨M2, b1, b2, b3, b4⟩ := a3 r.toInt64
    have b1' : f12_lasts (sJ M1 119 0 r.toInt64) 86 (xs (i + 1)) (xs (i + 2)) = some (r, M2) := b1
    have hH := HM_lasts hW o1 (by omega) a1' a2
    have hWo : WF (sJ M1 119 0 r.toInt64) := hH.1.2.1
    have hzo : 120 ≤ mz (sJ M1 119 0 r.toInt64) := Nat.le_trans o4 z1
    have g2 := (T12_lasts _ 86 (xs (i + 1)) (xs (i + 2)) _ b1' hWo (ok_in (l := [xs (i + 1), xs (i + 2)]) (Nat.lt_of_lt_of_le (by decide) hzo))).1
    have z2 : mz M1 ≤ mz M2 := g2.1.1
    have y2 : mn M1 ≤ mn M2 := g2.1.2
    obtain ⟨-, -, -, -, q5, q6⟩ := b3.ok
    have kM : (mK (sJ M1 119 0 r.toInt64) 86).1 = 15 := by
      have c1 := b1'
      unfold f12_lasts at c1
      exact aO_k c1
    exact pre k n hH (show mz M - 1 + k + (mz M1 - mz M) = mz M1 - 1 + k by omega) (show mn M + n + (mn M1 - mn M) = mn M1 + n by omega) (show mz M1 - 1 + k ≤ 601024 by omega) (show mn M1 + n ≤ 7293034 by omega) (post hWo hzo kM b1' b2 b3 (fun _ => b4) (by omega) (by omega))
  | false =>
    obtain ⟨r, M2, b1, b2, b3⟩ := su2 hok
    have b1' : f12_lasts M 86 (xs (i + 1)) (xs (i + 2)) = some (r, M2) := b1
    have kM : (mK M 86).1 = 15 := o2
    exact pre (k + 1) (n + 6) (HT_lasts hW o1 hv.kP hok) (show mz M - 1 + k + 1 = mz M - 1 + (k + 1) by omega) (show mn M + n + 6 = mn M + (n + 6) by omega) (show mz M - 1 + (k + 1) ≤ 601024 by omega) (show mn M + (n + 6) ≤ 7293034 by omega) (post hW o4 kM b1' b2 b3 (fun h => absurd h (by decide)) (by omega) (by omega))
end LAWY
