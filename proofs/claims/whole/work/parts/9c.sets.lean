/-! MACHINES: sets of nodes and the words that they tell -/
def bsN (f : Nat → Bool) : Nat → Nat
  | 0 => 0
  | k + 1 => bsN f k ||| (if f k = true then 2 ^ k else 0)
theorem bsN_lt (f : Nat → Bool) : ∀ k, bsN f k < 2 ^ k
  | 0 => show 0 < 1 by omega
  | k + 1 => by
    show bsN f k ||| _ < 2 ^ (k + 1)
    refine Nat.or_lt_two_pow (Nat.lt_trans (bsN_lt f k) (Nat.pow_lt_pow_right (by omega) (by omega))) ?_
    split
    · exact Nat.pow_lt_pow_right (by omega) (by omega)
    · exact Nat.two_pow_pos _
theorem bsN_bit (f : Nat → Bool) : ∀ k y, (bsN f k).testBit y = (decide (y < k) && f y)
  | 0, y => by
    show Nat.testBit 0 y = _
    rw [Nat.zero_testBit, decide_eq_false (Nat.not_lt_zero y), Bool.false_and]
  | k + 1, y => by
    show (bsN f k ||| _).testBit y = _
    rw [Nat.testBit_or, bsN_bit f k y]
    by_cases e : y = k
    · rw [e, decide_eq_false (Nat.lt_irrefl k), Bool.false_and, Bool.false_or, decide_eq_true (Nat.lt_succ_self k), Bool.true_and]
      cases q : f k
      · rw [if_neg (by decide), Nat.zero_testBit]
      · rw [if_pos rfl, Nat.testBit_two_pow, decide_eq_true rfl]
    · have : (if f k = true then 2 ^ k else 0).testBit y = false := by
        split
        · rw [Nat.testBit_two_pow, decide_eq_false (fun z => e z.symm)]
        · exact Nat.zero_testBit _
      rw [this, Bool.or_false]
      by_cases c : y < k
      · rw [decide_eq_true c, decide_eq_true (show y < k + 1 by omega)]
      · rw [decide_eq_false c, decide_eq_false (show ¬ y < k + 1 by omega)]
theorem set_eq {n S S' : Nat} (h : S < 2 ^ n) (h' : S' < 2 ^ n) (e : ∀ y, y < n → S.testBit y = S'.testBit y) : S = S' := Nat.eq_of_testBit_eq (fun y => by
  by_cases c : y < n
  · exact e y c
  · have le : 2 ^ n ≤ 2 ^ y := Nat.pow_le_pow_right (by omega) (by omega)
    rw [Nat.testBit_lt_two_pow (Nat.lt_of_lt_of_le h le), Nat.testBit_lt_two_pow (Nat.lt_of_lt_of_le h' le)])
/-- the words that a node tells -/
def avN (n : Nat) (m : Nat → Nat → Nat → Bool) (z : Nat → Bool) : List Nat → Nat → Bool
  | [], x => z x
  | g :: w, x => (List.range n).any fun y => m x g y && avN n m z w y
def sW : List Nat → Nat → Nat
  | [], _ => 0
  | g :: w, i => if i = w.length then g else sW w i
theorem sW_lt {G : Nat} (hG : 0 < G) : ∀ w, GW G w → ∀ i, sW w i < G
  | [], _, _ => hG
  | g :: w, h, i => by
    unfold sW
    split
    · exact h.tl.1
    · exact sW_lt hG w h.tl.2 i
theorem cp_ltF {a b : Nat} : cp a b < FARN ↔ a < FARN ∧ b < FARN := by
  unfold cp CAPN FARN
  split
  · omega
  · split <;> omega
theorem mnf_ltF {f : Nat → Nat} {k : Nat} : mnf f k < FARN ↔ ∃ i, i < k ∧ f i < FARN := by
  constructor
  · intro h
    rcases mnf_ex f k with e | ⟨i, hi, e⟩
    · omega
    · exact ⟨i, hi, by omega⟩
  · rintro ⟨i, hi, h⟩
    exact Nat.lt_of_le_of_lt (mnf_le f k i hi) h
theorem avN_val {n : Nat} {e : Nat → Nat → Nat → Nat} {z : Nat → Nat} : ∀ w x, x < n → avN n (fun x g y => decide (e x g y < FARN)) (fun x => decide (z x < FARN)) w x = decide (val n e z (sW w) w.length x < FARN)
  | [], x, _ => rfl
  | g :: w, x, hx => by
    show ((List.range n).any fun y => decide (e x g y < FARN) && avN n (fun x g y => decide (e x g y < FARN)) (fun x => decide (z x < FARN)) w y) = decide (mnf (fun y => cp (e x (sW (g :: w) w.length) y) (val n e z (sW (g :: w)) w.length y)) n < FARN)
    have e1 : sW (g :: w) w.length = g := if_pos rfl
    have e2 : ∀ y, y < n → val n e z (sW (g :: w)) w.length y = val n e z (sW w) w.length y := fun y hy => val_congr w.length (fun h hh => if_neg (by omega)) (fun h hh x y _ _ => rfl) (fun _ _ => rfl) y hy
    refine Bool.eq_iff_iff.mpr ?_
    rw [any_iff, decide_eq_true_iff, mnf_ltF, e1]
    refine exists_congr fun y => and_congr_right fun hy => ?_
    rw [Bool.and_eq_true, decide_eq_true_iff, avN_val w y hy, decide_eq_true_iff, cp_ltF, e2 y hy]
theorem avN_cg {n G : Nat} {m m' : Nat → Nat → Nat → Bool} {z z' : Nat → Bool} (hm : ∀ x g y, x < n → g < G → y < n → m x g y = m' x g y) (hz : ∀ x, x < n → z x = z' x) : ∀ w x, GW G w → x < n → avN n m z w x = avN n m' z' w x
  | [], x, _, hx => hz x hx
  | g :: w, x, hw, hx => by
    refine Bool.eq_iff_iff.mpr ?_
    show ((List.range n).any _) = true ↔ ((List.range n).any _) = true
    rw [any_iff, any_iff]
    refine exists_congr fun y => and_congr_right fun hy => ?_
    rw [hm x g y hx hw.tl.1 hy, avN_cg hm hz w y hw.tl.2 hy]
/-- the words that a set tells -/
def avS (n : Nat) (m : Nat → Nat → Nat → Bool) (z : Nat → Bool) (S : Nat) (w : List Nat) : Bool := (List.range n).any fun x => S.testBit x && avN n m z w x
def stp (n : Nat) (m : Nat → Nat → Nat → Bool) (S g : Nat) : Nat := bsN (fun y => (List.range n).any fun x => S.testBit x && m x g y) n
theorem stp_bit {n : Nat} {m : Nat → Nat → Nat → Bool} {S g y : Nat} (hy : y < n) : (stp n m S g).testBit y = (List.range n).any fun x => S.testBit x && m x g y := by
  unfold stp
  rw [bsN_bit, decide_eq_true hy, Bool.true_and]
theorem avS_stp {n : Nat} {m : Nat → Nat → Nat → Bool} {z : Nat → Bool} {S g : Nat} {w : List Nat} : avS n m z (stp n m S g) w = avS n m z S (g :: w) := by
  refine Bool.eq_iff_iff.mpr ?_
  unfold avS
  rw [any_iff, any_iff]
  constructor
  · rintro ⟨y, hy, q⟩
    rw [Bool.and_eq_true, stp_bit hy, any_iff] at q
    obtain ⟨⟨x, hx, q1⟩, q2⟩ := q
    rw [Bool.and_eq_true] at q1
    refine ⟨x, hx, ?_⟩
    rw [q1.1, Bool.true_and]
    exact any_in hy (by rw [q1.2, q2]; rfl)
  · rintro ⟨x, hx, q⟩
    rw [Bool.and_eq_true] at q
    obtain ⟨y, hy, q2⟩ := any_iff.mp q.2
    rw [Bool.and_eq_true] at q2
    refine ⟨y, hy, ?_⟩
    rw [stp_bit hy, any_in hx (by rw [q.1, q2.1]; rfl), q2.2]
    rfl
theorem avS_one {n : Nat} {m : Nat → Nat → Nat → Bool} {z : Nat → Bool} {p : Nat} (hp : p < n) (w : List Nat) : avS n m z (2 ^ p) w = avN n m z w p := by
  refine Bool.eq_iff_iff.mpr ?_
  unfold avS
  rw [any_iff]
  constructor
  · rintro ⟨x, hx, q⟩
    rw [Bool.and_eq_true, Nat.testBit_two_pow, decide_eq_true_iff] at q
    rw [q.1]
    exact q.2
  · intro q
    exact ⟨p, hp, by rw [q, Nat.testBit_two_pow, decide_eq_true rfl]; rfl⟩
/-- with ALL in it, nothing else is kept -/
def stC (m : Nat → Nat → Nat → Bool) (S g : Nat) : Nat := if (stp 15 m S g).testBit 5 = true then 32 else stp 15 m S g
theorem avN_all {G : Nat} {m : Nat → Nat → Nat → Bool} {z : Nat → Bool} (h5 : ∀ g, g < G → m 5 g 5 = true) (z5 : z 5 = true) : ∀ w, GW G w → avN 15 m z w 5 = true
  | [], _ => z5
  | g :: w, hw => any_in (show 5 < 15 by omega) (by rw [h5 g hw.tl.1, avN_all h5 z5 w hw.tl.2]; rfl)
theorem avS_all {G : Nat} {m : Nat → Nat → Nat → Bool} {z : Nat → Bool} (h5 : ∀ g, g < G → m 5 g 5 = true) (z5 : z 5 = true) {S : Nat} (hS : S.testBit 5 = true) {w : List Nat} (hw : GW G w) : avS 15 m z S w = true := any_in (show 5 < 15 by omega) (by rw [hS, avN_all h5 z5 w hw]; rfl)
theorem avS_stC {G : Nat} {m : Nat → Nat → Nat → Bool} {z : Nat → Bool} (h5 : ∀ g, g < G → m 5 g 5 = true) (z5 : z 5 = true) {S g : Nat} {w : List Nat} (hw : GW G w) : avS 15 m z (stC m S g) w = avS 15 m z S (g :: w) := by
  rw [← avS_stp]
  unfold stC
  by_cases c : (stp 15 m S g).testBit 5 = true
  · rw [if_pos c, avS_all h5 z5 c hw, avS_all h5 z5 (by decide) hw]
  · rw [if_neg c]
theorem stC_lt {m : Nat → Nat → Nat → Bool} {S g : Nat} : stC m S g < 2 ^ 15 := by
  unfold stC
  split
  · decide
  · exact bsN_lt _ _
theorem acW_S {n n' G : Nat} {m : Nat → Nat → Nat → Bool} {z : Nat → Bool} {t : Nat → Nat → Nat} {gd : Nat → Bool} {S : Nat → Nat} (ht : ∀ i g, i < n' → g < G → t i g < n' ∧ ∀ w, GW G w → avS n m z (S (t i g)) w = avS n m z (S i) (g :: w)) (hg : ∀ i, i < n' → gd i = avS n m z (S i) []) : ∀ w i, GW G w → i < n' → acW t gd w i = avS n m z (S i) w
  | [], i, _, hi => hg i hi
  | g :: w, i, hw, hi => by
    obtain ⟨a, b⟩ := ht i g hi hw.tl.1
    rw [← b w hw.tl.2]
    exact acW_S ht hg w (t i g) hw.tl.2 a
/-! the two nets -/
section NETS
variable {P : PG} {o : Nat} {T : TG}
def mC (E : Nat → Nat) (x g y : Nat) : Bool := decide (E (ix 15 x g y) < FARN)
def mM (T : TG) (F : Nat → Nat) (x g y : Nat) : Bool := decide (e21 T (DT T) F x g y < FARN)
theorem word_same (hp : WP P) (hT : okT (pG P) T) {E R F : Nat → Nat} (hE : Std P o T E R) (hF : Net P o T F) (hG : 0 < pG P) {w : List Nat} (hw : GW (pG P) w) {p : Nat} (hp5 : p < 5) : avN 15 (mC E) (endS T) w p = avN 21 (mM T F) (isE T) w p := by
  have z1 : ∀ x, x < 15 → endS T x = decide (z15 T x < FARN) := fun x _ => by
    unfold z15
    cases endS T x
    · rfl
    · rfl
  have z2 : ∀ x, x < 21 → isE T x = decide (z21 T x < FARN) := fun x _ => by
    unfold z21
    cases isE T x
    · rfl
    · rfl
  have a := avN_val (n := 15) (e := eC E) (z := z15 T) w p (by omega)
  have b := avN_val (n := 21) (e := e21 T (DT T) F) (z := z21 T) w p (by omega)
  rw [cost_same hp hT (okD_T T) hE.2.1 hE.2.2.1 hF (fun i _ => sW_lt hG w hw i) hp5, ← b] at a
  rw [avN_cg (m := mC E) (m' := fun x g y => decide (eC E x g y < FARN)) (G := pG P) (fun _ _ _ _ _ _ => rfl) z1 w p hw (by omega), a]
  exact (avN_cg (m := mM T F) (m' := fun x g y => decide (e21 T (DT T) F x g y < FARN)) (G := pG P) (fun _ _ _ _ _ _ => rfl) z2 w p hw (by omega)).symm
theorem mC_all (hT : okT (pG P) T) {E R : Nat → Nat} (hE : Std P o T E R) : ∀ g, g < pG P → mC E 5 g 5 = true := fun g hg => by
  have d : D15 (pG P) T 5 g 5 = true := by
    unfold D15 allS
    rw [any_in hg (by simp)]
    rfl
  unfold mC
  rw [hE.2.2.1 5 g 5 (by omega) (by omega) (Nat.lt_of_lt_of_le hg hT.1) (by omega), d, if_pos rfl]
  rfl
theorem endS_5 : endS T 5 = true := by
  unfold endS
  simp
end NETS
