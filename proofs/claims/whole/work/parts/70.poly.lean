/-! M0: sums and products of rows of whole numbers. -/
def psum (h : Nat → Int) : Nat → Int
  | 0 => 0
  | n + 1 => psum h n + h n
theorem psum_congr {f g : Nat → Int} : ∀ {n : Nat}, (∀ i, i < n → f i = g i) → psum f n = psum g n
  | 0, _ => rfl
  | n + 1, h => by
    show psum f n + f n = psum g n + g n
    rw [psum_congr (fun i hi => h i (by omega)), h n (by omega)]
theorem psum_add {f g : Nat → Int} : ∀ n, psum (fun i => f i + g i) n = psum f n + psum g n
  | 0 => rfl
  | n + 1 => by
    show psum (fun i => f i + g i) n + (f n + g n) = (psum f n + f n) + (psum g n + g n)
    rw [psum_add n]
    omega
theorem psum_sub {f g : Nat → Int} : ∀ n, psum (fun i => f i - g i) n = psum f n - psum g n
  | 0 => rfl
  | n + 1 => by
    show psum (fun i => f i - g i) n + (f n - g n) = (psum f n + f n) - (psum g n + g n)
    rw [psum_sub n]
    omega
theorem psum_mul {f : Nat → Int} {c : Int} : ∀ n, psum (fun i => c * f i) n = c * psum f n
  | 0 => (Int.mul_zero c).symm
  | n + 1 => by
    show psum (fun i => c * f i) n + c * f n = c * (psum f n + f n)
    rw [psum_mul n, Int.mul_add]
theorem psum_zero {f : Nat → Int} : ∀ {n : Nat}, (∀ i, i < n → f i = 0) → psum f n = 0
  | 0, _ => rfl
  | n + 1, h => by
    show psum f n + f n = 0
    rw [psum_zero (fun i hi => h i (by omega)), h n (by omega)]
    rfl
/-- only the place k counts -/
theorem psum_one {f : Nat → Int} {k : Nat} : ∀ {n : Nat}, k < n → (∀ i, i < n → i ≠ k → f i = 0) → psum f n = f k
  | 0, h, _ => by omega
  | n + 1, h, g => by
    show psum f n + f n = f k
    by_cases e : k = n
    · subst e
      rw [psum_zero (fun i hi => g i (by omega) (by omega)), Int.zero_add]
    · rw [psum_one (k := k) (by omega) (fun i hi hk => g i (by omega) hk), g n (by omega) (fun e' => e e'.symm), Int.add_zero]
theorem psum_succ {f : Nat → Int} : ∀ n, psum f (n + 1) = f 0 + psum (fun i => f (i + 1)) n
  | 0 => by show (0 : Int) + f 0 = f 0 + 0; omega
  | n + 1 => by
    show psum f (n + 1) + f (n + 1) = f 0 + (psum (fun i => f (i + 1)) n + f (n + 1))
    rw [psum_succ n]
    omega
theorem psum_rev {f : Nat → Int} : ∀ n, psum (fun i => f (n - 1 - i)) n = psum f n
  | 0 => rfl
  | n + 1 => by
    rw [psum_succ]
    show f (n + 1 - 1 - 0) + psum (fun i => f (n + 1 - 1 - (i + 1))) n = psum f n + f n
    rw [psum_congr (g := fun i => f (n - 1 - i)) (fun i hi => by congr 1; omega), psum_rev n]
    show f n + psum f n = _
    omega
def pmul (f g : Nat → Int) (k : Nat) : Int := psum (fun i => f i * g (k - i)) (k + 1)
theorem pmul_comm {f g : Nat → Int} (k : Nat) : pmul f g k = pmul g f k := by
  unfold pmul
  rw [← psum_rev (f := fun i => g i * f (k - i)) (k + 1)]
  refine psum_congr (fun i hi => ?_)
  show f i * g (k - i) = g (k + 1 - 1 - i) * f (k - (k + 1 - 1 - i))
  rw [show k + 1 - 1 - i = k - i by omega, show k - (k - i) = i by omega, Int.mul_comm]
theorem pmul_add {f h g : Nat → Int} (k : Nat) : pmul (fun i => f i + h i) g k = pmul f g k + pmul h g k := by
  unfold pmul
  rw [← psum_add]
  exact psum_congr (fun i _ => Int.add_mul _ _ _)
theorem pmul_sub {f h g : Nat → Int} (k : Nat) : pmul (fun i => f i - h i) g k = pmul f g k - pmul h g k := by
  unfold pmul
  rw [← psum_sub]
  exact psum_congr (fun i _ => Int.sub_mul _ _ _)
theorem pmul_congr {f f' g g' : Nat → Int} {k : Nat} (h1 : ∀ i, i ≤ k → f i = f' i) (h2 : ∀ i, i ≤ k → g i = g' i) : pmul f g k = pmul f' g' k := by
  unfold pmul
  exact psum_congr (fun i hi => by rw [h1 i (by omega), h2 (k - i) (by omega)])
/-- t at the place n alone -/
def pone (t : Int) (n : Nat) : Nat → Int := fun i => if i = n then t else 0
theorem pmul_one {t : Int} {n : Nat} {g : Nat → Int} (k : Nat) : pmul (pone t n) g k = if n ≤ k then t * g (k - n) else 0 := by
  unfold pmul pone
  by_cases h : n ≤ k
  · rw [if_pos h, psum_one (k := n) (by omega) (fun i _ hi => by show (if i = n then t else 0) * _ = 0; rw [if_neg hi, Int.zero_mul])]
    show (if n = n then t else 0) * _ = _
    rw [if_pos rfl]
  · rw [if_neg h]
    refine psum_zero (fun i hi => ?_)
    show (if i = n then t else 0) * _ = 0
    rw [if_neg (by omega), Int.zero_mul]
/-- the product's place k + l, where f ends at k and g at l -/
theorem pmul_top {f g : Nat → Int} {k l : Nat} (hf : ∀ i, k < i → f i = 0) (hg : ∀ i, l < i → g i = 0) : pmul f g (k + l) = f k * g l := by
  unfold pmul
  rw [psum_one (k := k) (by omega) (fun i hi hk => ?_)]
  · show f k * g (k + l - k) = _
    rw [show k + l - k = l by omega]
  · show f i * g (k + l - i) = 0
    rcases Nat.lt_or_ge k i with h | h
    · rw [hf i h, Int.zero_mul]
    · rw [hg (k + l - i) (by omega), Int.mul_zero]
theorem pmul_hi {f g : Nat → Int} {k l n : Nat} (hf : ∀ i, k < i → f i = 0) (hg : ∀ i, l < i → g i = 0) (h : k + l < n) : pmul f g n = 0 := by
  unfold pmul
  refine psum_zero (fun i hi => ?_)
  rcases Nat.lt_or_ge k i with g1 | g1
  · rw [hf i g1, Int.zero_mul]
  · rw [hg (n - i) (by omega), Int.mul_zero]
