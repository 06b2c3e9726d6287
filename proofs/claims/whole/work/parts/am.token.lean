/-! THE TAPE: tokens -/
section TOKEN
def isLt (b : Nat) : Bool := decide (97 ≤ b) && decide (b ≤ 122)
def isDg (b : Nat) : Bool := decide (48 ≤ b) && decide (b ≤ 57)
def isBl (b : Nat) : Bool := decide (b = 32) || decide (b = 10)
def atP (f : Nat → Bool) (L : Nat) (B : Nat → Nat) (i : Nat) : Bool := decide (i < L) && f (B i)
def rnE (p : Nat → Bool) : Nat → Nat → Nat
  | 0, b => b
  | n + 1, b => if p b = true then rnE p n (b + 1) else b
def enD (f : Nat → Bool) (L : Nat) (B : Nat → Nat) (b : Nat) : Nat := rnE (atP f L B) (L - b) b
variable {f : Nat → Bool} {L : Nat} {B : Nat → Nat}
theorem atP_lt {i : Nat} (h : atP f L B i = true) : i < L ∧ f (B i) = true := by
  unfold atP at h
  rw [Bool.and_eq_true, decide_eq_true_eq] at h
  exact h
theorem enD_s (b : Nat) : enD f L B b = if atP f L B b = true then enD f L B (b + 1) else b := by
  unfold enD
  by_cases c : atP f L B b = true
  · have := (atP_lt c).1
    rw [if_pos c, show L - b = L - (b + 1) + 1 by omega]
    show (if atP f L B b = true then _ else _) = _
    rw [if_pos c]
  · rw [if_neg c]
    cases h : L - b with
    | zero => rfl
    | succ n =>
      show (if atP f L B b = true then _ else _) = _
      rw [if_neg c]
theorem enD_all : ∀ (d b : Nat), L - b = d → b ≤ enD f L B b ∧ (b ≤ L → enD f L B b ≤ L) ∧ (∀ i, b ≤ i → i < enD f L B b → atP f L B i = true) ∧ atP f L B (enD f L B b) = false
  | d, b, h => by
    rw [enD_s]
    by_cases c : atP f L B b = true
    · have lt := (atP_lt c).1
      rw [if_pos c]
      cases d with
      | zero => omega
      | succ d =>
        obtain ⟨i1, i2, i3, i4⟩ := enD_all d (b + 1) (by omega)
        refine ⟨by omega, fun _ => i2 (by omega), fun i h1 h2 => ?_, i4⟩
        by_cases e : i = b
        · rw [e]
          exact c
        · exact i3 i (by omega) h2
    · rw [if_neg c]
      rw [Bool.not_eq_true] at c
      exact ⟨Nat.le_refl _, id, fun i h1 h2 => by omega, c⟩
theorem enD_ge (b : Nat) : b ≤ enD f L B b := (enD_all _ b rfl).1
theorem enD_le {b : Nat} (h : b ≤ L) : enD f L B b ≤ L := (enD_all _ b rfl).2.1 h
theorem enD_in {b i : Nat} (h1 : b ≤ i) (h2 : i < enD f L B b) : atP f L B i = true := (enD_all _ b rfl).2.2.1 i h1 h2
theorem enD_out (b : Nat) : atP f L B (enD f L B b) = false := (enD_all _ b rfl).2.2.2
/-- letters, the last first -/
def wdL (B : Nat → Nat) (pl : Nat) : Nat → List Nat
  | 0 => []
  | n + 1 => B (pl + n) :: wdL B pl n
def c8 : List Nat → Nat
  | [] => 0
  | x :: l => c8 l * 256 + x
def c5 : List Nat → Nat
  | [] => 0
  | x :: l => c5 l * 32 + (x - 96)
def dcN (B : Nat → Nat) (pl : Nat) : Nat → Nat
  | 0 => 0
  | n + 1 => dcN B pl n * 10 + (B (pl + n) - 48)
def LtL (l : List Nat) : Prop := ∀ x, x ∈ l → 97 ≤ x ∧ x ≤ 122
theorem LtL.tl {x : Nat} {l : List Nat} (h : LtL (x :: l)) : (97 ≤ x ∧ x ≤ 122) ∧ LtL l := ⟨h x (List.mem_cons_self ..), fun y hy => h y (List.mem_cons_of_mem _ hy)⟩
theorem c8_inj : ∀ {l m : List Nat}, LtL l → LtL m → c8 l = c8 m → l = m
  | [], [], _, _, _ => rfl
  | [], y :: m, _, h, e => by
    have := h.tl.1
    have e' : 0 = c8 m * 256 + y := e
    omega
  | x :: l, [], h, _, e => by
    have := h.tl.1
    have e' : c8 l * 256 + x = 0 := e
    omega
  | x :: l, y :: m, h, h', e => by
    have h1 := h.tl
    have h2 := h'.tl
    have e' : c8 l * 256 + x = c8 m * 256 + y := e
    rw [c8_inj h1.2 h2.2 (show c8 l = c8 m by omega), show x = y by omega]
theorem c5_inj : ∀ {l m : List Nat}, LtL l → LtL m → c5 l = c5 m → l = m
  | [], [], _, _, _ => rfl
  | [], y :: m, _, h, e => by
    have := h.tl.1
    have e' : 0 = c5 m * 32 + (y - 96) := e
    omega
  | x :: l, [], h, _, e => by
    have := h.tl.1
    have e' : c5 l * 32 + (x - 96) = 0 := e
    omega
  | x :: l, y :: m, h, h', e => by
    have h1 := h.tl
    have h2 := h'.tl
    have e' : c5 l * 32 + (x - 96) = c5 m * 32 + (y - 96) := e
    rw [c5_inj h1.2 h2.2 (show c5 l = c5 m by omega), show x = y by omega]
theorem c8_lt : ∀ {l : List Nat}, LtL l → c8 l < 256 ^ l.length
  | [], _ => by decide
  | x :: l, h => by
    have h1 := h.tl
    have ih := c8_lt h1.2
    show c8 l * 256 + x < 256 ^ (l.length + 1)
    rw [Nat.pow_succ]
    omega
theorem c5_lt : ∀ {l : List Nat}, LtL l → c5 l < 32 ^ l.length
  | [], _ => by decide
  | x :: l, h => by
    have h1 := h.tl
    have ih := c5_lt h1.2
    show c5 l * 32 + (x - 96) < 32 ^ (l.length + 1)
    rw [Nat.pow_succ]
    omega
theorem wdL_len (B : Nat → Nat) (pl : Nat) : ∀ n, (wdL B pl n).length = n
  | 0 => rfl
  | n + 1 => by
    show (wdL B pl n).length + 1 = n + 1
    rw [wdL_len B pl n]
theorem wdL_lt {pl : Nat} : ∀ {n : Nat}, (∀ i, pl ≤ i → i < pl + n → atP isLt L B i = true) → LtL (wdL B pl n)
  | 0, _, _, hx => by cases hx
  | n + 1, h, x, hx => by
    rcases List.mem_cons.mp hx with e | e
    · have := (atP_lt (h (pl + n) (by omega) (by omega))).2
      unfold isLt at this
      rw [Bool.and_eq_true, decide_eq_true_eq, decide_eq_true_eq] at this
      rw [e]
      exact this
    · exact wdL_lt (fun i h1 h2 => h i h1 (by omega)) x e
theorem dcN_lt {pl : Nat} : ∀ {n : Nat}, (∀ i, pl ≤ i → i < pl + n → atP isDg L B i = true) → dcN B pl n < 10 ^ n
  | 0, _ => Nat.one_pos
  | n + 1, h => by
    have := (atP_lt (h (pl + n) (by omega) (by omega))).2
    unfold isDg at this
    rw [Bool.and_eq_true, decide_eq_true_eq, decide_eq_true_eq] at this
    have ih := dcN_lt (n := n) (fun i h1 h2 => h i h1 (by omega))
    show dcN B pl n * 10 + (B (pl + n) - 48) < 10 ^ (n + 1)
    rw [Nat.pow_succ]
    omega
/-- a token: its kind, its place, the place behind it, its letters, its number -/
abbrev TK : Type := Nat × Nat × Nat × List Nat × Nat
def tkK (t : TK) : Nat := t.1
def tkP (t : TK) : Nat := t.2.1
def tkE (t : TK) : Nat := t.2.2.1
def tkW (t : TK) : List Nat := t.2.2.2.1
def tkV (t : TK) : Nat := t.2.2.2.2
def tokA (L : Nat) (B : Nat → Nat) (pl : Nat) : TK :=
  if L ≤ pl then (0, pl, pl, [], 0)
  else if isLt (B pl) = true then (if enD isLt L B pl - pl ≤ 6 then 2 else 1, pl, enD isLt L B pl, wdL B pl (enD isLt L B pl - pl), 0)
  else if isDg (B pl) = true then (if enD isDg L B pl - pl ≤ 3 ∧ atP isLt L B (enD isDg L B pl) = false then 3 else 1, pl, enD isDg L B pl, [], dcN B pl (enD isDg L B pl - pl))
  else (if B pl = 59 then 4 else 1, pl, pl + 1, [], 0)
def tok (L : Nat) (B : Nat → Nat) (b : Nat) : TK := tokA L B (enD isBl L B b)
/-- what holds of each token -/
def TkOK (L b : Nat) (t : TK) : Prop := tkE t ≤ L ∧ tkP t ≤ L ∧ b ≤ tkP t ∧ tkP t ≤ tkE t ∧ (tkK t ≠ 0 → tkP t < tkE t) ∧ tkK t ≤ 4 ∧ (tkK t = 2 → LtL (tkW t) ∧ (tkW t).length ≤ 6 ∧ 0 < (tkW t).length) ∧ (tkK t = 3 → tkV t ≤ 999)
theorem tok_ok {b : Nat} (hb : b ≤ L) : TkOK L b (tok L B b) := by
  have hpl := enD_le (f := isBl) (B := B) hb
  have gpl := enD_ge (f := isBl) (L := L) (B := B) b
  unfold tok
  generalize enD isBl L B b = pl at *
  unfold tokA
  by_cases c : L ≤ pl
  · rw [if_pos c]
    exact ⟨hpl, hpl, gpl, Nat.le_refl _, (fun z => absurd rfl z), Nat.zero_le _, (fun z => by cases z), (fun z => by cases z)⟩
  · rw [if_neg c]
    by_cases c1 : isLt (B pl) = true
    · rw [if_pos c1]
      have a : atP isLt L B pl = true := by
        unfold atP
        rw [decide_eq_true (by omega), c1]
        rfl
      have e1 : enD isLt L B pl = enD isLt L B (pl + 1) := by rw [enD_s, if_pos a]
      have g1 := enD_ge (f := isLt) (L := L) (B := B) (pl + 1)
      have l1 := enD_le (f := isLt) (B := B) hpl
      have lt := wdL_lt (L := L) (B := B) (pl := pl) (n := enD isLt L B pl - pl) (fun i h1 h2 => enD_in h1 (by omega))
      refine ⟨l1, hpl, gpl, by show pl ≤ enD isLt L B pl; omega, fun _ => by show pl < enD isLt L B pl; omega, ?_, fun z => ⟨lt, ?_, ?_⟩, fun z => ?_⟩
      · show (if _ then 2 else 1) ≤ 4
        split <;> omega
      · show (wdL B pl _).length ≤ 6
        rw [wdL_len]
        have z' : (if enD isLt L B pl - pl ≤ 6 then 2 else 1) = 2 := z
        by_cases q : enD isLt L B pl - pl ≤ 6
        · exact q
        · rw [if_neg q] at z'
          cases z'
      · show 0 < (wdL B pl _).length
        rw [wdL_len]
        omega
      · have z' : (if enD isLt L B pl - pl ≤ 6 then 2 else 1) = 3 := z
        split at z' <;> cases z'
    · rw [if_neg c1]
      by_cases c2 : isDg (B pl) = true
      · rw [if_pos c2]
        have a : atP isDg L B pl = true := by
          unfold atP
          rw [decide_eq_true (by omega), c2]
          rfl
        have e1 : enD isDg L B pl = enD isDg L B (pl + 1) := by rw [enD_s, if_pos a]
        have g1 := enD_ge (f := isDg) (L := L) (B := B) (pl + 1)
        have l1 := enD_le (f := isDg) (B := B) hpl
        have lt := dcN_lt (L := L) (B := B) (pl := pl) (n := enD isDg L B pl - pl) (fun i h1 h2 => enD_in h1 (by omega))
        refine ⟨l1, hpl, gpl, by show pl ≤ enD isDg L B pl; omega, fun _ => by show pl < enD isDg L B pl; omega, ?_, fun z => ?_, fun z => ?_⟩
        · show (if _ then 3 else 1) ≤ 4
          split <;> omega
        · have z' : (if enD isDg L B pl - pl ≤ 3 ∧ atP isLt L B (enD isDg L B pl) = false then 3 else 1) = 2 := z
          split at z' <;> cases z'
        · have z' : (if enD isDg L B pl - pl ≤ 3 ∧ atP isLt L B (enD isDg L B pl) = false then 3 else 1) = 3 := z
          by_cases q : enD isDg L B pl - pl ≤ 3 ∧ atP isLt L B (enD isDg L B pl) = false
          · have : 10 ^ (enD isDg L B pl - pl) ≤ 10 ^ 3 := Nat.pow_le_pow_right (by decide) q.1
            show dcN B pl _ ≤ 999
            omega
          · rw [if_neg q] at z'
            cases z'
      · rw [if_neg c2]
        refine ⟨by show pl + 1 ≤ L; omega, hpl, gpl, by show pl ≤ pl + 1; omega, fun _ => by show pl < pl + 1; omega, ?_, fun z => ?_, fun z => ?_⟩
        · show (if _ then 4 else 1) ≤ 4
          split <;> omega
        · have z' : (if B pl = 59 then 4 else 1) = 2 := z
          split at z' <;> cases z'
        · have z' : (if B pl = 59 then 4 else 1) = 3 := z
          split at z' <;> cases z'
end TOKEN
