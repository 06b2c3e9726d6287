/-! THE GRAMMAR -/
section GRAM
def kwS : List Nat := [101, 116, 97, 116, 115]
def kwG : List Nat := [110, 103, 105, 115]
def kwR : List Nat := [101, 108, 117, 114]
def kwL : List Nat := [108, 97, 111, 103]
def kwT : List Nat := [111, 116]
def kwC : List Nat := [116, 115, 111, 99]
def kwM : List Nat := [101, 114, 111, 109]
def kws : List (List Nat) := [kwS, kwG, kwR, kwL, kwT, kwC, kwM]
def isW (t : TK) (k : List Nat) : Bool := decide (tkK t = 2) && decide (tkW t = k)
def isN (t : TK) : Bool := decide (tkK t = 2) && !(kws.any fun k => decide (tkW t = k))
def fnd (nm : Nat → List Nat) (w : List Nat) : Nat → Nat → Option Nat
  | 0, _ => none
  | d + 1, i => if nm i = w then some i else fnd nm w d (i + 1)
theorem fnd_lt {nm : Nat → List Nat} {w : List Nat} : ∀ {d i k : Nat}, fnd nm w d i = some k → i ≤ k ∧ k < i + d
  | 0, i, k, h => by cases h
  | d + 1, i, k, h => by
    have h' : (if nm i = w then some i else fnd nm w d (i + 1)) = some k := h
    by_cases c : nm i = w
    · rw [if_pos c] at h'
      cases h'
      omega
    · rw [if_neg c] at h'
      have := fnd_lt h'
      omega
/-- a program as far as it is read, and its names -/
abbrev QG : Type := PG × (Nat → List Nat) × (Nat → List Nat)
abbrev PR (α : Type) : Type := Sum (Nat × Nat) α
def refA (t : TK) : Nat × Nat := (if tkK t = 1 then 1 else 2, tkP t)
def nxt (L : Nat) (B : Nat → Nat) (t : TK) : TK := tok L B (tkE t)
variable (L : Nat) (B : Nat → Nat)
def takeN (nm : Nat → List Nat) (n : Nat) (t : TK) : PR (Nat × TK) :=
  if isN t = true then (match fnd nm (tkW t) n 0 with | none => .inl (3, tkP t) | some k => .inr (k, nxt L B t)) else .inl (refA t)
def semiA (t : TK) : PR TK := if tkK t = 4 then .inr (nxt L B t) else .inl (refA t)
def newA (Q : QG) (t : TK) : PR Unit := if isN t = true then (if (fnd Q.2.1 (tkW t) (pS Q.1) 0).isSome = true ∨ (fnd Q.2.2 (tkW t) (pG Q.1) 0).isSome = true then .inl (3, tkP t) else .inr ()) else .inl (refA t)
def addS (Q : QG) (w : List Nat) : QG := (((pS Q.1 + 1, pG Q.1, pR Q.1, pK Q.1), Q.1.2), upx Q.2.1 (pS Q.1) w, Q.2.2)
def addG (Q : QG) (w : List Nat) : QG := (((pS Q.1, pG Q.1 + 1, pR Q.1, pK Q.1), Q.1.2), Q.2.1, upx Q.2.2 (pG Q.1) w)
def rwF (a b c : Nat) (l : List Nat) (v : Nat) (i : Nat) : Nat := if i = 0 then a else if i = 1 then b else if i = 2 then c else if i = 3 then l.length else if i = 4 then l.getD 0 0 else if i = 5 then l.getD 1 0 else v
def addR (Q : QG) (a b c : Nat) (l : List Nat) (v : Nat) : QG := (((pS Q.1, pG Q.1, pR Q.1 + 1, pK Q.1), (fun r => if r = pR Q.1 then rwF a b c l v else Q.1.2.1 r), Q.1.2.2), Q.2)
def gwF (a : Nat) (l : List Nat) (v : Nat) (i : Nat) : Nat := if i = 0 then a else if i = 1 then l.length else if i = 2 then v else l.getD (i - 3) 0
def addK (Q : QG) (a : Nat) (l : List Nat) (v : Nat) : QG := (((pS Q.1, pG Q.1, pR Q.1, pK Q.1 + 1), Q.1.2.1, (fun k => if k = pK Q.1 then gwF a l v else Q.1.2.2 k)), Q.2)
def stateA (Q : QG) (t : TK) : PR (QG × TK) :=
  if 5 ≤ pS Q.1 then .inl (5, tkP t) else
  match newA Q (nxt L B t) with
  | .inl e => .inl e
  | .inr _ => match semiA L B (nxt L B (nxt L B t)) with
    | .inl e => .inl e
    | .inr t2 => .inr (addS Q (tkW (nxt L B t)), t2)
def signA (Q : QG) (t : TK) : PR (QG × TK) :=
  if 6 ≤ pG Q.1 then .inl (5, tkP t) else
  match newA Q (nxt L B t) with
  | .inl e => .inl e
  | .inr _ => match semiA L B (nxt L B (nxt L B t)) with
    | .inl e => .inl e
    | .inr t2 => .inr (addG Q (tkW (nxt L B t)), t2)
def sgA (nm : Nat → List Nat) (n : Nat) : Nat → TK → PR (List Nat × TK)
  | 0, t => .inr ([], t)
  | m + 1, t => if isN t = true then
      match takeN L B nm n t with
      | .inl e => .inl e
      | .inr (k, t1) => match sgA nm n m t1 with
        | .inl e => .inl e
        | .inr (l, t2) => .inr (k :: l, t2)
    else .inr ([], t)
def toA (t : TK) : PR TK := if isW t kwT = true then .inr (nxt L B t) else .inl (refA t)
def costA (t : TK) : PR (Nat × TK) := if isW t kwC = true then (if tkK (nxt L B t) = 3 then (if 1 ≤ tkV (nxt L B t) ∧ tkV (nxt L B t) ≤ 99 then .inr (tkV (nxt L B t), nxt L B (nxt L B t)) else .inl (4, tkP (nxt L B t))) else .inl (refA (nxt L B t))) else .inr (1, t)
def ruleA (Q : QG) (t : TK) : PR (QG × TK) :=
  if 14 ≤ pR Q.1 then .inl (5, tkP t) else
  match takeN L B Q.2.1 (pS Q.1) (nxt L B t) with
  | .inl e => .inl e
  | .inr (a, t2) => match takeN L B Q.2.2 (pG Q.1) t2 with
    | .inl e => .inl e
    | .inr (b, t3) => match toA L B t3 with
      | .inl e => .inl e
      | .inr t4 => match takeN L B Q.2.1 (pS Q.1) t4 with
        | .inl e => .inl e
        | .inr (c, t5) => match sgA L B Q.2.2 (pG Q.1) 2 t5 with
          | .inl e => .inl e
          | .inr (l, t6) => match costA L B t6 with
            | .inl e => .inl e
            | .inr (v, t7) => match semiA L B t7 with
              | .inl e => .inl e
              | .inr t8 => .inr (addR Q a b c l v, t8)
def moreA (t : TK) : Nat × TK := if isW t kwM = true then (1, nxt L B t) else (0, t)
def goalA (Q : QG) (t : TK) : PR (QG × TK) :=
  if 4 ≤ pK Q.1 then .inl (5, tkP t) else
  match takeN L B Q.2.1 (pS Q.1) (nxt L B t) with
  | .inl e => .inl e
  | .inr (a, t2) => match sgA L B Q.2.2 (pG Q.1) 3 t2 with
    | .inl e => .inl e
    | .inr (l, t3) => match semiA L B (moreA L B t3).2 with
      | .inl e => .inl e
      | .inr t4 => .inr (addK Q a l (moreA L B t3).1, t4)
def lineA (Q : QG) (t : TK) : PR (QG × TK) :=
  if isW t kwS = true then stateA L B Q t else if isW t kwG = true then signA L B Q t else if isW t kwR = true then ruleA L B Q t else if isW t kwL = true then goalA L B Q t else .inl (refA t)
def progA : Nat → QG → TK → PR QG
  | 0, Q, _ => .inr Q
  | n + 1, Q, t => if tkK t = 0 then .inr Q else
    match lineA L B Q t with
    | .inl e => .inl e
    | .inr (Q', t') => progA n Q' t'
def Q0 (Q : QG) : QG := (((0, 0, 0, 0), Q.1.2), Q.2)
def plA (nm : Nat → List Nat) (n : Nat) : Nat → TK → PR (List Nat)
  | 0, t => if tkK t = 0 then .inr [] else .inl (refA t)
  | m + 1, t => if tkK t = 0 then .inr [] else
    match takeN L B nm n t with
    | .inl e => .inl e
    | .inr (k, t1) => match plA nm n m t1 with
      | .inl e => .inl e
      | .inr l => .inr (k :: l)
def placeA (Q : QG) (t : TK) : PR (Nat × List Nat) :=
  match takeN L B Q.2.1 (pS Q.1) t with
  | .inl e => .inl e
  | .inr (p, t1) => match plA L B Q.2.2 (pG Q.1) 40 t1 with
    | .inl e => .inl e
    | .inr l => .inr (p, l)
variable {L : Nat} {B : Nat → Nat}
def NmV (w : List Nat) : Prop := LtL w ∧ w.length ≤ 6
theorem NmV.c8 {w : List Nat} (h : NmV w) : c8 w < 2 ^ 48 := by
  have := c8_lt h.1
  have p : 256 ^ w.length ≤ 256 ^ 6 := Nat.pow_le_pow_right (by decide) h.2
  have e : (256 : Nat) ^ 6 = 2 ^ 48 := by decide
  omega
theorem NmV.c5 {w : List Nat} (h : NmV w) : c5 w < 2 ^ 30 := by
  have := c5_lt h.1
  have p : 32 ^ w.length ≤ 32 ^ 6 := Nat.pow_le_pow_right (by decide) h.2
  have e : (32 : Nat) ^ 6 = 2 ^ 30 := by decide
  omega
theorem kw_v {k : List Nat} (h : k ∈ kws) : NmV k := by
  have : kws.all (fun k => k.all (fun x => decide (97 ≤ x) && decide (x ≤ 122)) && decide (k.length ≤ 6)) = true := by decide
  have := List.all_eq_true.mp this k h
  rw [Bool.and_eq_true, decide_eq_true_eq] at this
  refine ⟨fun x hx => ?_, this.2⟩
  have := List.all_eq_true.mp this.1 x hx
  rw [Bool.and_eq_true, decide_eq_true_eq, decide_eq_true_eq] at this
  exact this
/-- tokens that come up -/
def TkG (L : Nat) (t : TK) : Prop := tkE t ≤ L ∧ tkP t ≤ tkE t ∧ (tkK t ≠ 0 → tkP t < tkE t) ∧ tkK t ≤ 4 ∧ (tkK t = 2 → NmV (tkW t)) ∧ (tkK t = 3 → tkV t ≤ 999)
theorem tok_g {b : Nat} (hb : b ≤ L) : TkG L (tok L B b) ∧ b ≤ tkP (tok L B b) := by
  obtain ⟨h1, h2, h3, h4, h5, h6, h7, h8⟩ := tok_ok (B := B) hb
  exact ⟨⟨h1, h4, h5, h6, fun z => ⟨(h7 z).1, (h7 z).2.1⟩, h8⟩, h3⟩
theorem TkG.n {t : TK} (h : TkG L t) : TkG L (nxt L B t) ∧ tkE t ≤ tkP (nxt L B t) := tok_g h.1
theorem TkG.nx {t : TK} (h : TkG L t) : TkG L (nxt L B t) := h.n.1
theorem takeN_g {nm : Nat → List Nat} {n k : Nat} {t t1 : TK} (h : TkG L t) (e : takeN L B nm n t = .inr (k, t1)) : k < n ∧ TkG L t1 ∧ tkE t ≤ tkP t1 ∧ isN t = true := by
  unfold takeN at e
  by_cases c : isN t = true
  · rw [if_pos c] at e
    cases q : fnd nm (tkW t) n 0 with
    | none =>
      rw [q] at e
      cases e
    | some j =>
      rw [q] at e
      cases e
      have := fnd_lt q
      exact ⟨by omega, h.nx, h.n.2, c⟩
  · rw [if_neg c] at e
    cases e
theorem sgA_g {nm : Nat → List Nat} {n : Nat} : ∀ {m : Nat} {t t1 : TK} {l : List Nat}, TkG L t → sgA L B nm n m t = .inr (l, t1) → l.length ≤ m ∧ (∀ x, x ∈ l → x < n) ∧ TkG L t1 ∧ tkP t ≤ tkP t1
  | 0, t, t1, l, h, e => by
    cases e
    exact ⟨Nat.le_refl _, (fun x hx => by cases hx), h, Nat.le_refl _⟩
  | m + 1, t, t1, l, h, e => by
    have e' : (if isN t = true then (match takeN L B nm n t with | .inl e => .inl e | .inr (k, t1) => match sgA L B nm n m t1 with | .inl e => .inl e | .inr (l, t2) => .inr (k :: l, t2)) else .inr ([], t)) = (.inr (l, t1) : PR (List Nat × TK)) := e
    by_cases c : isN t = true
    · rw [if_pos c] at e'
      cases q : takeN L B nm n t with
      | inl z => rw [q] at e'; cases e'
      | inr z =>
        obtain ⟨k, t2⟩ := z
        obtain ⟨g1, g2, g3, -⟩ := takeN_g h q
        rw [q] at e'
        cases q2 : sgA L B nm n m t2 with
        | inl z => simp only [q2] at e'; cases e'
        | inr z =>
          obtain ⟨l2, t3⟩ := z
          obtain ⟨i1, i2, i3, i4⟩ := sgA_g g2 q2
          simp only [q2] at e'
          cases e'
          refine ⟨by show l2.length + 1 ≤ m + 1; omega, fun x hx => ?_, i3, ?_⟩
          · rcases List.mem_cons.mp hx with z | z
            · rw [z]; exact g1
            · exact i2 x z
          · have := h.2.1
            omega
    · rw [if_neg c] at e'
      cases e'
      exact ⟨Nat.zero_le _, (fun x hx => by cases hx), h, Nat.le_refl _⟩
theorem semiA_g {t t1 : TK} (h : TkG L t) (e : semiA L B t = .inr t1) : TkG L t1 ∧ tkE t ≤ tkP t1 := by
  unfold semiA at e
  by_cases c : tkK t = 4
  · rw [if_pos c] at e
    cases e
    exact h.n
  · rw [if_neg c] at e
    cases e
theorem toA_g {t t1 : TK} (h : TkG L t) (e : toA L B t = .inr t1) : TkG L t1 ∧ tkE t ≤ tkP t1 := by
  unfold toA at e
  by_cases c : isW t kwT = true
  · rw [if_pos c] at e
    cases e
    exact h.n
  · rw [if_neg c] at e
    cases e
theorem costA_g {t t1 : TK} {v : Nat} (h : TkG L t) (e : costA L B t = .inr (v, t1)) : TkG L t1 ∧ tkP t ≤ tkP t1 ∧ 1 ≤ v ∧ v ≤ 99 := by
  unfold costA at e
  by_cases c : isW t kwC = true
  · rw [if_pos c] at e
    by_cases c1 : tkK (nxt L B t) = 3
    · rw [if_pos c1] at e
      by_cases c2 : 1 ≤ tkV (nxt L B t) ∧ tkV (nxt L B t) ≤ 99
      · rw [if_pos c2] at e
        cases e
        have a := h.n (B := B)
        have b := a.1.n (B := B)
        have := h.2.1
        have := a.1.2.1
        exact ⟨b.1, by omega, c2⟩
      · rw [if_neg c2] at e
        cases e
    · rw [if_neg c1] at e
      cases e
  · rw [if_neg c] at e
    cases e
    exact ⟨h, Nat.le_refl _, by omega, by omega⟩
theorem moreA_g {t : TK} (h : TkG L t) : TkG L (moreA L B t).2 ∧ tkP t ≤ tkP (moreA L B t).2 ∧ (moreA L B t).1 ≤ 1 := by
  unfold moreA
  by_cases c : isW t kwM = true
  · rw [if_pos c]
    have a := h.n (B := B)
    have := h.2.1
    exact ⟨a.1, by show tkP t ≤ tkP (nxt L B t); omega, Nat.le_refl 1⟩
  · rw [if_neg c]
    exact ⟨h, Nat.le_refl _, Nat.zero_le 1⟩
/-- a program and its names as they must be -/
def WQ (Q : QG) : Prop := WP Q.1 ∧ (∀ p, p < pS Q.1 → NmV (Q.2.1 p)) ∧ ∀ g, g < pG Q.1 → NmV (Q.2.2 g)
theorem isN_2 {t : TK} (h : isN t = true) : tkK t = 2 := by
  unfold isN at h
  rw [Bool.and_eq_true, decide_eq_true_eq] at h
  exact h.1
theorem stateA_g {Q Q' : QG} {t t1 : TK} (w : WQ Q) (h : TkG L t) (e : stateA L B Q t = .inr (Q', t1)) : WQ Q' ∧ TkG L t1 ∧ tkE t ≤ tkP t1 := by
  unfold stateA at e
  by_cases c : 5 ≤ pS Q.1
  · rw [if_pos c] at e; cases e
  · rw [if_neg c] at e
    have n1 := h.n (B := B)
    have n2 := n1.1.n (B := B)
    cases q : newA Q (nxt L B t) with
    | inl z => simp only [q] at e; cases e
    | inr z =>
      simp only [q] at e
      cases q2 : semiA L B (nxt L B (nxt L B t)) with
      | inl z => simp only [q2] at e; cases e
      | inr t2 =>
        simp only [q2] at e
        cases e
        obtain ⟨s1, s2⟩ := semiA_g n2.1 q2
        have nn : isN (nxt L B t) = true := by
          unfold newA at q
          by_cases c2 : isN (nxt L B t) = true
          · exact c2
          · rw [if_neg c2] at q; cases q
        obtain ⟨⟨p1, p2, p3, p4, p5, p6⟩, v1, v2⟩ := w
        refine ⟨⟨⟨by show pS Q.1 + 1 ≤ 5; omega, p2, p3, p4, fun r hr => ?_, fun k hk => ?_⟩, fun p hp => ?_, v2⟩, s1, ?_⟩
        · obtain ⟨a1, a2, a3, a4⟩ := p5 r hr
          exact ⟨Nat.lt_succ_of_lt a1, a2, Nat.lt_succ_of_lt a3, a4⟩
        · obtain ⟨a1, a2⟩ := p6 k hk
          exact ⟨Nat.lt_succ_of_lt a1, a2⟩
        · show NmV (upx Q.2.1 (pS Q.1) (tkW (nxt L B t)) p)
          have hp' : p < pS Q.1 + 1 := hp
          rw [upx_e]
          split
          · exact n1.1.2.2.2.2.1 (isN_2 nn)
          · exact v1 p (by omega)
        · have := n1.1.2.1
          have := n2.1.2.1
          omega
theorem signA_g {Q Q' : QG} {t t1 : TK} (w : WQ Q) (h : TkG L t) (e : signA L B Q t = .inr (Q', t1)) : WQ Q' ∧ TkG L t1 ∧ tkE t ≤ tkP t1 := by
  unfold signA at e
  by_cases c : 6 ≤ pG Q.1
  · rw [if_pos c] at e; cases e
  · rw [if_neg c] at e
    have n1 := h.n (B := B)
    have n2 := n1.1.n (B := B)
    cases q : newA Q (nxt L B t) with
    | inl z => simp only [q] at e; cases e
    | inr z =>
      simp only [q] at e
      cases q2 : semiA L B (nxt L B (nxt L B t)) with
      | inl z => simp only [q2] at e; cases e
      | inr t2 =>
        simp only [q2] at e
        cases e
        obtain ⟨s1, s2⟩ := semiA_g n2.1 q2
        have nn : isN (nxt L B t) = true := by
          unfold newA at q
          by_cases c2 : isN (nxt L B t) = true
          · exact c2
          · rw [if_neg c2] at q; cases q
        obtain ⟨⟨p1, p2, p3, p4, p5, p6⟩, v1, v2⟩ := w
        refine ⟨⟨⟨p1, by show pG Q.1 + 1 ≤ 6; omega, p3, p4, fun r hr => ?_, fun k hk => ?_⟩, v1, fun p hp => ?_⟩, s1, ?_⟩
        · obtain ⟨a1, a2, a3, a4, a5, a6, a7⟩ := p5 r hr
          exact ⟨a1, Nat.lt_succ_of_lt a2, a3, a4, fun z => Nat.lt_succ_of_lt (a5 z), fun z => Nat.lt_succ_of_lt (a6 z), a7⟩
        · obtain ⟨a1, a2, a3, a4⟩ := p6 k hk
          exact ⟨a1, a2, a3, fun i hi => Nat.lt_succ_of_lt (a4 i hi)⟩
        · show NmV (upx Q.2.2 (pG Q.1) (tkW (nxt L B t)) p)
          have hp' : p < pG Q.1 + 1 := hp
          rw [upx_e]
          split
          · exact n1.1.2.2.2.2.1 (isN_2 nn)
          · exact v2 p (by omega)
        · have := n1.1.2.1
          have := n2.1.2.1
          omega
theorem getD_lt {l : List Nat} {n : Nat} (h : ∀ x, x ∈ l → x < n) {i : Nat} (hi : i < l.length) : l.getD i 0 < n := by
  rw [List.getD_eq_getElem?_getD, List.getElem?_eq_getElem hi]
  exact h _ (List.getElem_mem hi)
theorem addR_w {Q : QG} {a b c v : Nat} {l : List Nat} (w : WQ Q) (hr : pR Q.1 < 14) (ha : a < pS Q.1) (hb : b < pG Q.1) (hc : c < pS Q.1) (hl : l.length ≤ 2) (hx : ∀ x, x ∈ l → x < pG Q.1) (h1 : 1 ≤ v) (h2 : v ≤ 99) : WQ (addR Q a b c l v) := by
  obtain ⟨⟨p1, p2, p3, p4, p5, p6⟩, v1, v2⟩ := w
  refine ⟨⟨p1, p2, by show pR Q.1 + 1 ≤ 14; omega, p4, fun r hr' => ?_, p6⟩, v1, v2⟩
  have hr'' : r < pR Q.1 + 1 := hr'
  have e : (addR Q a b c l v).1.2.1 r = if r = pR Q.1 then rwF a b c l v else Q.1.2.1 r := rfl
  unfold rp rg rt rn ra rb rc
  rw [e]
  by_cases q : r = pR Q.1
  · rw [if_pos q]
    refine ⟨ha, hb, hc, hl, fun z => ?_, fun z => ?_, h1, h2⟩
    · exact getD_lt hx z
    · exact getD_lt hx z
  · rw [if_neg q]
    exact p5 r (by omega)
theorem addK_w {Q : QG} {a v : Nat} {l : List Nat} (w : WQ Q) (hr : pK Q.1 < 4) (ha : a < pS Q.1) (hl : l.length ≤ 3) (hx : ∀ x, x ∈ l → x < pG Q.1) (h2 : v ≤ 1) : WQ (addK Q a l v) := by
  obtain ⟨⟨p1, p2, p3, p4, p5, p6⟩, v1, v2⟩ := w
  refine ⟨⟨p1, p2, p3, by show pK Q.1 + 1 ≤ 4; omega, p5, fun k hk' => ?_⟩, v1, v2⟩
  have hk'' : k < pK Q.1 + 1 := hk'
  have e : (addK Q a l v).1.2.2 k = if k = pK Q.1 then gwF a l v else Q.1.2.2 k := rfl
  unfold kp kn km ks
  rw [e]
  by_cases q : k = pK Q.1
  · rw [if_pos q]
    refine ⟨ha, hl, h2, fun i hi => ?_⟩
    have hi' : i < l.length := hi
    unfold gwF
    rw [if_neg (by omega), if_neg (by omega), if_neg (by omega), show 3 + i - 3 = i by omega]
    exact getD_lt hx hi'
  · rw [if_neg q]
    exact p6 k (by omega)
end GRAM
