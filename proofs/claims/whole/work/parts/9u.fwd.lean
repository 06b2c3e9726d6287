/-! MACHINES: words counted forwards -/
theorem sumN_add (f g : Nat → Nat) : ∀ k, sumN (fun i => f i + g i) k = sumN f k + sumN g k
  | 0 => rfl
  | k + 1 => by
    show sumN (fun i => f i + g i) k + (f k + g k) = sumN f k + f k + (sumN g k + g k)
    rw [sumN_add f g k]
    omega
theorem sumN_0 : ∀ k, sumN (fun _ => 0) k = 0
  | 0 => rfl
  | k + 1 => by
    show sumN (fun _ => 0) k + 0 = 0
    rw [sumN_0 k]
theorem sumN_mul (c : Nat) (f : Nat → Nat) : ∀ k, sumN (fun i => c * f i) k = c * sumN f k
  | 0 => rfl
  | k + 1 => by
    show sumN (fun i => c * f i) k + c * f k = c * (sumN f k + f k)
    rw [sumN_mul c f k, Nat.mul_add]
theorem sumN_swap (f : Nat → Nat → Nat) (m : Nat) : ∀ k, sumN (fun i => sumN (f i) m) k = sumN (fun j => sumN (fun i => f i j) k) m
  | 0 => (sumN_0 m).symm
  | k + 1 => by
    show sumN (fun i => sumN (f i) m) k + sumN (f k) m = sumN (fun j => sumN (fun i => f i j) k + f k j) m
    rw [sumN_swap f m k, sumN_add]
theorem sumN_one {k : Nat} (x : Nat) (f : Nat → Nat) : ∀ n, sumN (fun i => if i = x then f i else 0) n = if x < n then f x else 0
  | 0 => by rw [if_neg (Nat.not_lt_zero x)]; rfl
  | n + 1 => by
    show sumN (fun i => if i = x then f i else 0) n + (if n = x then f n else 0) = _
    rw [sumN_one (k := k) x f n]
    by_cases c : n = x
    · rw [if_pos c, if_neg (by omega), if_pos (by omega), c, Nat.zero_add]
    · rw [if_neg c]
      by_cases d : x < n
      · rw [if_pos d, if_pos (by omega), Nat.add_zero]
      · rw [if_neg d, if_neg (by omega)]
/-- how many words of a length lead to a node -/
def fwN (G q : Nat) (nb : Nat → Nat → Nat) : Nat → Nat → Nat
  | 0, k => if k = 0 then 1 else 0
  | i + 1, k => sumN (fun k' => sumN (fun g => if nb k' g = k then fwN G q nb i k' else 0) G) q
theorem fw_cw {G q : Nat} {nb : Nat → Nat → Nat} {gd : Nat → Bool} (hnb : ∀ k g, k < q → g < G → nb k g < q) : ∀ i j, sumN (fun k => fwN G q nb (i + 1) k * cwN G nb gd j k) q = sumN (fun k => fwN G q nb i k * cwN G nb gd (j + 1) k) q := fun i j => by
  have e1 : ∀ k, k < q → fwN G q nb (i + 1) k * cwN G nb gd j k = sumN (fun k' => sumN (fun g => if nb k' g = k then fwN G q nb i k' * cwN G nb gd j k else 0) G) q := fun k _ => by
    show sumN (fun k' => sumN (fun g => if nb k' g = k then fwN G q nb i k' else 0) G) q * _ = _
    rw [Nat.mul_comm, ← sumN_mul]
    refine sumN_cg _ (fun k' _ => ?_)
    rw [← sumN_mul]
    refine sumN_cg _ (fun g _ => ?_)
    split
    · rw [Nat.mul_comm]
    · rfl
  rw [sumN_cg _ e1, sumN_swap]
  refine sumN_cg _ (fun k' hk' => ?_)
  rw [sumN_swap]
  show _ = fwN G q nb i k' * sumN (fun g => cwN G nb gd j (nb k' g)) G
  rw [← sumN_mul]
  refine sumN_cg _ (fun g hg => ?_)
  have e2 : ∀ k, k < q → (if nb k' g = k then fwN G q nb i k' * cwN G nb gd j k else 0) = if k = nb k' g then (fun k => fwN G q nb i k' * cwN G nb gd j k) k else 0 := fun k _ => by
    by_cases c : nb k' g = k
    · rw [if_pos c, if_pos c.symm]
    · rw [if_neg c, if_neg (fun z => c z.symm)]
  rw [sumN_cg _ e2, sumN_one (k := 0), if_pos (hnb k' g hk' hg)]
theorem fw_all {G q : Nat} {nb : Nat → Nat → Nat} {gd : Nat → Bool} (hnb : ∀ k g, k < q → g < G → nb k g < q) (hq : 0 < q) : ∀ i j, sumN (fun k => fwN G q nb i k * cwN G nb gd j k) q = cwN G nb gd (i + j) 0
  | 0, j => by
    have e : ∀ k, k < q → fwN G q nb 0 k * cwN G nb gd j k = if k = 0 then cwN G nb gd j k else 0 := fun k _ => by
      show (if k = 0 then 1 else 0) * _ = _
      split
      · rw [Nat.one_mul]
      · rw [Nat.zero_mul]
    rw [sumN_cg _ e, sumN_one (k := 0), if_pos hq, Nat.zero_add]
  | i + 1, j => by
    rw [fw_cw hnb i j, fw_all hnb hq i (j + 1), show i + (j + 1) = i + 1 + j by omega]
/-- forwards as backwards -/
theorem fw_good {G q : Nat} {nb : Nat → Nat → Nat} {gd : Nat → Bool} (hnb : ∀ k g, k < q → g < G → nb k g < q) (hq : 0 < q) (i : Nat) : sumN (fun k => if gd k = true then fwN G q nb i k else 0) q = cwN G nb gd i 0 := by
  have := fw_all (gd := gd) hnb hq i 0
  rw [Nat.add_zero] at this
  rw [← this]
  refine sumN_cg _ (fun k _ => ?_)
  show _ = fwN G q nb i k * (if gd k = true then 1 else 0)
  split
  · rw [Nat.mul_one]
  · rw [Nat.mul_zero]
theorem cwN_cg {G q : Nat} {nb nb' : Nat → Nat → Nat} {gd gd' : Nat → Bool} (hnb : ∀ k g, k < q → g < G → nb k g < q) (e1 : ∀ k g, k < q → g < G → nb k g = nb' k g) (e2 : ∀ k, k < q → gd k = gd' k) : ∀ i k, k < q → cwN G nb gd i k = cwN G nb' gd' i k
  | 0, k, hk => by
    show (if gd k = true then 1 else 0) = (if gd' k = true then 1 else 0)
    rw [e2 k hk]
  | i + 1, k, hk => by
    show sumN (fun g => cwN G nb gd i (nb k g)) G = sumN (fun g => cwN G nb' gd' i (nb' k g)) G
    refine sumN_cg _ (fun g hg => ?_)
    rw [← e1 k g hk hg]
    exact cwN_cg hnb e1 e2 i _ (hnb k g hk hg)
theorem rdB_cg {G q : Nat} {nb nb' : Nat → Nat → Nat} {gd gd' : Nat → Bool} (hnb : ∀ k g, k < q → g < G → nb k g < q) (e1 : ∀ k g, k < q → g < G → nb k g = nb' k g) (e2 : ∀ k, k < q → gd k = gd' k) : ∀ i k, k < q → rdB G nb gd i k = rdB G nb' gd' i k
  | 0, k, hk => e2 k hk
  | i + 1, k, hk => by
    show ((List.range G).any fun g => rdB G nb gd i (nb k g)) = ((List.range G).any fun g => rdB G nb' gd' i (nb' k g))
    refine Bool.eq_iff_iff.mpr ?_
    rw [any_iff, any_iff]
    refine exists_congr fun g => and_congr_right fun hg => ?_
    rw [rdB_cg hnb e1 e2 i _ (hnb k g hk hg), e1 k g hk hg]
