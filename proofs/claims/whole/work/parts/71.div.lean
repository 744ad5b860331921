/-! Division of rows. -/
theorem plow {D b : Nat → Int} {k low : Nat} (hb : b low ≠ 0) (hb0 : ∀ i, low < i → b i = 0) (h : ∀ i, k + low ≤ i → pmul D b i = 0) : ∀ n, (∀ i, n ≤ i → D i = 0) → ∀ j, k ≤ j → D j = 0 := by
  intro n
  induction n with
  | zero => intro h0 j _; exact h0 j (Nat.zero_le _)
  | succ n ih =>
    intro h0 j hj
    by_cases hn : k ≤ n
    · have h1 : pmul D b (n + low) = D n * b low := pmul_top (fun i hi => h0 i hi) hb0
      rw [h (n + low) (by omega)] at h1
      have h2 : D n = 0 := by
        rcases Int.mul_eq_zero.mp h1.symm with g | g
        · exact g
        · exact absurd g hb
      refine ih (fun i hi => ?_) j hj
      by_cases e : i = n
      · rw [e]; exact h2
      · exact h0 i (by omega)
    · exact h0 j (by omega)
/-- a row of n places as whole numbers -/
def pr (n : Nat) (f : Nat → Int64) : Nat → Int := fun i => if i < n then (f i).toInt else 0
theorem pr_lt {n i : Nat} {f : Nat → Int64} (h : i < n) : pr n f i = (f i).toInt := if_pos h
theorem pr_ge {n i : Nat} {f : Nat → Int64} (h : n ≤ i) : pr n f i = 0 := if_neg (by omega)
theorem pr_put {n j i : Nat} {f : Nat → Int64} {x : Int64} (hj : j < n) : pr n (vp_updL f j x) i = if i = j then x.toInt else pr n f i := by
  unfold pr vp_updL
  by_cases e : i = j
  · subst e
    rw [if_pos hj, if_pos rfl, if_pos rfl]
  · rw [if_neg e]
    by_cases h : i < n
    · rw [if_pos h, if_neg e]
    · rw [if_neg h, if_neg e]
/-- a = q b with no place of q beyond 10^8 -/
def pdiv (a b q : Nat → Int) : Prop := (∀ i, -100000000 ≤ q i ∧ q i ≤ 100000000) ∧ (∀ i, 8 ≤ i → q i = 0) ∧ ∀ k, pmul q b k = a k
theorem pdiv_unique {a b q q' : Nat → Int} {low : Nat} (hb : b low ≠ 0) (hb0 : ∀ i, low < i → b i = 0) (h : pdiv a b q) (h' : pdiv a b q') : ∀ i, q i = q' i := by
  have key := plow (D := fun i => q i - q' i) (k := 0) hb hb0 (fun i _ => by rw [pmul_sub, h.2.2, h'.2.2]; omega) 8 (fun i hi => by show q i - q' i = 0; rw [h.2.1 i hi, h'.2.1 i hi]; rfl)
  intro i
  have := key i (Nat.zero_le _)
  omega
theorem zx_div {x y : Int64} (h : x.toInt.natAbs < 2 ^ 62) : (x / y).toInt = x.toInt.tdiv y.toInt := by
  rw [Int64.toInt_div]
  have h1 : (x.toInt.tdiv y.toInt).natAbs ≤ x.toInt.natAbs := by
    rw [Int.natAbs_tdiv]
    exact Nat.div_le_self _ _
  exact Int.bmod_eq_of_le_mul_two (by omega) (by omega)
